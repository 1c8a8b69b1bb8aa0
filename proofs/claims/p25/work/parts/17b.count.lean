/-! How many bits are set -/
def cn (p : Nat → Bool) : Nat → Nat
  | 0 => 0
  | n + 1 => cn p n + (p n).toNat
theorem cn_cong {p q : Nat → Bool} : ∀ n, (∀ i, i < n → p i = q i) → cn p n = cn q n
  | 0, _ => rfl
  | n + 1, h => by
    show cn p n + (p n).toNat = cn q n + (q n).toNat
    rw [cn_cong n (fun i hi => h i (by omega)), h n (by omega)]
theorem cn_low (p : Nat → Bool) : ∀ n, cn p (n + 1) = (p 0).toNat + cn (fun i => p (i + 1)) n
  | 0 => by show 0 + (p 0).toNat = (p 0).toNat + 0; omega
  | n + 1 => by
    show cn p (n + 1) + (p (n + 1)).toNat = (p 0).toNat + (cn (fun i => p (i + 1)) n + (p (n + 1)).toNat)
    rw [cn_low p n]
    omega
theorem cn_le (p : Nat → Bool) : ∀ n, cn p n ≤ n
  | 0 => Nat.le_refl 0
  | n + 1 => by
    show cn p n + (p n).toNat ≤ n + 1
    have := cn_le p n
    have : (p n).toNat ≤ 1 := Bool.toNat_le (p n)
    omega
def p2 (y : Nat) : Nat := y % 4 - y % 4 / 2
def p4 (y : Nat) : Nat := p2 y + p2 (y / 4)
def p8 (y : Nat) : Nat := p4 y + p4 (y / 16)
def d4 : Nat → Nat → Nat
  | 0, _ => 0
  | k + 1, x => 4 * d4 k (x / 4) + p2 x
def d16 : Nat → Nat → Nat
  | 0, _ => 0
  | k + 1, x => 16 * d16 k (x / 16) + p4 x
def d256 : Nat → Nat → Nat
  | 0, _ => 0
  | k + 1, x => 256 * d256 k (x / 256) + p8 x
def m1 : Nat → Nat
  | 0 => 0
  | k + 1 => 4 * m1 k + 1
def m2 : Nat → Nat
  | 0 => 0
  | k + 1 => 16 * m2 k + 3
def m3 : Nat → Nat
  | 0 => 0
  | k + 1 => 256 * m3 k + 15
theorem p2_le (y : Nat) : p2 y ≤ 2 := by unfold p2; omega
theorem p4_le (y : Nat) : p4 y ≤ 4 := by have := p2_le y; have := p2_le (y / 4); unfold p4; omega
theorem p8_le (y : Nat) : p8 y ≤ 8 := by have := p4_le y; have := p4_le (y / 16); unfold p8; omega
theorem an_split (s a b c d : Nat) (hb : b < 2 ^ s) (hd : d < 2 ^ s) : (2 ^ s * a + b) &&& (2 ^ s * c + d) = 2 ^ s * (a &&& c) + (b &&& d) := by
  have h3 : b &&& d < 2 ^ s := Nat.and_lt_two_pow b hd
  apply Nat.eq_of_testBit_eq
  intro i
  rw [Nat.testBit_and, Nat.testBit_two_pow_mul_add a hb i, Nat.testBit_two_pow_mul_add c hd i, Nat.testBit_two_pow_mul_add (a &&& c) h3 i]
  by_cases h : i < s
  · rw [if_pos h, if_pos h, if_pos h, Nat.testBit_and]
  · rw [if_neg h, if_neg h, if_neg h, Nat.testBit_and]
theorem an_4 (a b c : Nat) (hb : b < 4) : (4 * a + b) &&& (4 * c + 1) = 4 * (a &&& c) + b % 2 := by
  rw [show (4 : Nat) = 2 ^ 2 from rfl, an_split 2 a b c 1 hb (by decide), Nat.and_one_is_mod]
theorem an_16 (a b c : Nat) (hb : b < 16) : (16 * a + b) &&& (16 * c + 3) = 16 * (a &&& c) + b % 4 := by
  rw [show (16 : Nat) = 2 ^ 4 from rfl, an_split 4 a b c 3 hb (by decide), show (3 : Nat) = 2 ^ 2 - 1 from rfl, Nat.and_two_pow_sub_one_eq_mod]
theorem an_256 (a b c : Nat) (hb : b < 256) : (256 * a + b) &&& (256 * c + 15) = 256 * (a &&& c) + b % 16 := by
  rw [show (256 : Nat) = 2 ^ 8 from rfl, an_split 8 a b c 15 hb (by decide), show (15 : Nat) = 2 ^ 4 - 1 from rfl, Nat.and_two_pow_sub_one_eq_mod]
theorem sw_1 : ∀ k x, x < 4 ^ k → (x / 2 &&& m1 k) + d4 k x = x
  | 0, x, h => by
    have : x = 0 := by simpa using h
    subst this
    rfl
  | k + 1, x, h => by
    have ih := sw_1 k (x / 4) (by rw [Nat.pow_succ] at h; omega)
    show (x / 2 &&& (4 * m1 k + 1)) + (4 * d4 k (x / 4) + p2 x) = x
    rw [show x / 2 = 4 * (x / 4 / 2) + x / 2 % 4 by omega, an_4 _ _ _ (by omega)]
    unfold p2
    omega
theorem sw_2 : ∀ k x, (d4 (2 * k) x &&& m2 k) + (d4 (2 * k) x / 4 &&& m2 k) = d16 k x
  | 0, x => by simp [d4, d16, m2]
  | k + 1, x => by
    have ih := sw_2 k (x / 16)
    have h2 := p2_le x
    have h3 := p2_le (x / 4)
    have e : d4 (2 * (k + 1)) x = 16 * d4 (2 * k) (x / 16) + (4 * p2 (x / 4) + p2 x) := by
      show 4 * (4 * d4 (2 * k) (x / 4 / 4) + p2 (x / 4)) + p2 x = _
      rw [Nat.div_div_eq_div_mul, show 4 * 4 = 16 from rfl]
      omega
    show (d4 (2 * (k + 1)) x &&& (16 * m2 k + 3)) + (d4 (2 * (k + 1)) x / 4 &&& (16 * m2 k + 3)) = 16 * d16 k (x / 16) + (p2 x + p2 (x / 4))
    rw [e]
    generalize d4 (2 * k) (x / 16) = A at ih ⊢
    rw [show (16 * A + (4 * p2 (x / 4) + p2 x)) / 4 = 16 * (A / 4) + (4 * (A % 4) + p2 (x / 4)) by omega, an_16 _ _ _ (by omega), an_16 _ _ _ (by omega)]
    omega
theorem d16_lo : ∀ k x, d16 k x % 16 ≤ 4
  | 0, x => by show 0 % 16 ≤ 4; decide
  | k + 1, x => by
    have := p4_le x
    show (16 * d16 k (x / 16) + p4 x) % 16 ≤ 4
    omega
theorem sw_3 : ∀ k x, (d16 (2 * k) x + d16 (2 * k) x / 16 &&& m3 k) = d256 k x
  | 0, x => by simp [d16, d256, m3]
  | k + 1, x => by
    have ih := sw_3 k (x / 256)
    have h2 := p4_le x
    have h3 := p4_le (x / 16)
    have h4 := d16_lo (2 * k) (x / 256)
    have e : d16 (2 * (k + 1)) x = 256 * d16 (2 * k) (x / 256) + (16 * p4 (x / 16) + p4 x) := by
      show 16 * (16 * d16 (2 * k) (x / 16 / 16) + p4 (x / 16)) + p4 x = _
      rw [Nat.div_div_eq_div_mul, show 16 * 16 = 256 from rfl]
      omega
    show (d16 (2 * (k + 1)) x + d16 (2 * (k + 1)) x / 16 &&& (256 * m3 k + 15)) = 256 * d256 k (x / 256) + (p4 x + p4 (x / 16))
    rw [e]
    generalize d16 (2 * k) (x / 256) = B at ih h4 ⊢
    rw [show 256 * B + (16 * p4 (x / 16) + p4 x) + (256 * B + (16 * p4 (x / 16) + p4 x)) / 16 = 256 * (B + B / 16) + (16 * (B % 16) + (17 * p4 (x / 16) + p4 x)) by omega, an_256 _ _ _ (by omega)]
    omega
theorem bit_n (x i : Nat) : (x.testBit i).toNat = x / 2 ^ i % 2 := Nat.toNat_testBit x i
theorem p8_cn (x : Nat) : p8 x = cn x.testBit 8 := by
  have h2 : ∀ y, p2 y = y % 2 + y / 2 % 2 := fun y => by unfold p2; omega
  simp only [cn, bit_n, p8, p4, h2, Nat.div_div_eq_div_mul, Nat.reduceMul, Nat.reducePow, Nat.div_one, Nat.zero_add, Nat.add_assoc]
theorem cn_add (p : Nat → Bool) (a : Nat) : ∀ b, cn p (a + b) = cn p a + cn (fun i => p (a + i)) b
  | 0 => rfl
  | b + 1 => by
    show cn p (a + b) + (p (a + b)).toNat = cn p a + (cn (fun i => p (a + i)) b + (p (a + b)).toNat)
    rw [cn_add p a b]
    omega
theorem tb_div (x a i : Nat) : (x / 2 ^ a).testBit i = x.testBit (a + i) := by
  rw [← Nat.shiftRight_eq_div_pow, Nat.testBit_shiftRight]
theorem p8_at (x a : Nat) : p8 (x / 2 ^ a) = cn (fun i => x.testBit (a + i)) 8 := by
  rw [p8_cn]
  exact cn_cong 8 (fun i _ => tb_div x a i)
theorem d256_8 (x : Nat) : ∃ c0 c1 c2 c3 c4 c5 c6 c7 : Nat, c0 ≤ 8 ∧ c1 ≤ 8 ∧ c2 ≤ 8 ∧ c3 ≤ 8 ∧ c4 ≤ 8 ∧ c5 ≤ 8 ∧ c6 ≤ 8 ∧ c7 ≤ 8 ∧ d256 8 x = c0 + 256 * c1 + 65536 * c2 + 16777216 * c3 + 4294967296 * c4 + 1099511627776 * c5 + 281474976710656 * c6 + 72057594037927936 * c7 ∧ cn x.testBit 64 = c0 + c1 + c2 + c3 + c4 + c5 + c6 + c7 := by
  refine ⟨p8 x, p8 (x / 2 ^ 8), p8 (x / 2 ^ 16), p8 (x / 2 ^ 24), p8 (x / 2 ^ 32), p8 (x / 2 ^ 40), p8 (x / 2 ^ 48), p8 (x / 2 ^ 56), p8_le _, p8_le _, p8_le _, p8_le _, p8_le _, p8_le _, p8_le _, p8_le _, ?_, ?_⟩
  · simp only [d256, Nat.div_div_eq_div_mul, Nat.reduceMul, Nat.reducePow]
    omega
  · rw [p8_at, p8_at, p8_at, p8_at, p8_at, p8_at, p8_at, p8_cn]
    rw [show 64 = 56 + 8 from rfl, cn_add, show 56 = 48 + 8 from rfl, cn_add, show 48 = 40 + 8 from rfl, cn_add, show 40 = 32 + 8 from rfl, cn_add, show 32 = 24 + 8 from rfl, cn_add, show 24 = 16 + 8 from rfl, cn_add, show 16 = 8 + 8 from rfl, cn_add]
theorem d256_4 (x : Nat) : ∃ c0 c1 c2 c3 : Nat, c0 ≤ 8 ∧ c1 ≤ 8 ∧ c2 ≤ 8 ∧ c3 ≤ 8 ∧ d256 4 x = c0 + 256 * c1 + 65536 * c2 + 16777216 * c3 ∧ cn x.testBit 32 = c0 + c1 + c2 + c3 := by
  refine ⟨p8 x, p8 (x / 2 ^ 8), p8 (x / 2 ^ 16), p8 (x / 2 ^ 24), p8_le _, p8_le _, p8_le _, p8_le _, ?_, ?_⟩
  · simp only [d256, Nat.div_div_eq_div_mul, Nat.reduceMul, Nat.reducePow]
    omega
  · rw [p8_at, p8_at, p8_at, p8_cn]
    rw [show 32 = 24 + 8 from rfl, cn_add, show 24 = 16 + 8 from rfl, cn_add, show 16 = 8 + 8 from rfl, cn_add]
def sh64 (x : Int64) (s : Int32) : Int64 := (Int64.toUInt64 x >>> ((Int32.toInt64 s).toUInt64 &&& Int64.toUInt64 63)).toInt64
def sh32 (x : Int32) (s : Int32) : Int32 := (Int32.toUInt32 x >>> (Int32.toUInt32 s &&& Int32.toUInt32 31)).toInt32
def jA (x : Int64) : Int64 := x - (sh64 x 1 &&& 6148914691236517205)
def jB (a : Int64) : Int64 := (a &&& 3689348814741910323) + (sh64 a 2 &&& 3689348814741910323)
def jC (b : Int64) : Int64 := (b + sh64 b 4) &&& 1085102592571150095
def jD (c : Int64) : Int64 := c + sh64 c 8
def jE (c : Int64) : Int64 := c + sh64 c 16
def jF (c : Int64) : Int64 := c + sh64 c 32
theorem j13_eq (x : Int64) : F_J13_bitCount_95d88 x = some (Int64.toInt32 (jF (jE (jD (jC (jB (jA x)))))) &&& 127) := by
  simp only [F_J13_bitCount_95d88, jA, jB, jC, jD, jE, jF, sh64]
def qA (x : Int32) : Int32 := x - (sh32 x 1 &&& 1431655765)
def qB (a : Int32) : Int32 := (a &&& 858993459) + (sh32 a 2 &&& 858993459)
def qC (b : Int32) : Int32 := (b + sh32 b 4) &&& 252645135
def qD (c : Int32) : Int32 := c + sh32 c 8
def qE (c : Int32) : Int32 := c + sh32 c 16
theorem j6_eq (x : Int32) : F_J6_bitCount_0f7a4 x = some (qE (qD (qC (qB (qA x)))) &&& 63) := by
  simp only [F_J6_bitCount_0f7a4, qA, qB, qC, qD, qE, sh32]
theorem l_nat {n : Nat} (h : n < 2 ^ 64) : (lN n).toBitVec.toNat = n := by
  show (BitVec.ofNat 64 n).toNat = n
  rw [BitVec.toNat_ofNat]
  exact Nat.mod_eq_of_lt h
theorem l_sh {n k : Nat} (hn : n < 2 ^ 64) (hk : k < 64) : sh64 (lN n) (nI k) = lN (n / 2 ^ k) := by
  unfold sh64
  rw [wb_cu k hk]
  apply Int64.toBitVec_inj.mp
  apply BitVec.eq_of_toNat_eq
  show ((lN n).toUInt64 >>> UInt64.ofNat k).toNat = _
  rw [UInt64.toNat_shiftRight, show (UInt64.ofNat k).toNat = k from Nat.mod_eq_of_lt (by omega), Nat.mod_eq_of_lt hk, show (lN n).toUInt64.toNat = n from l_nat hn, Nat.shiftRight_eq_div_pow, l_nat (Nat.lt_of_le_of_lt (Nat.div_le_self _ _) hn)]
theorem fb_andL (a b : Nat) : lN a &&& lN b = lN (a &&& b) := by
  apply Int64.toBitVec_inj.mp
  rw [Int64.toBitVec_and]
  show BitVec.ofNat 64 a &&& BitVec.ofNat 64 b = BitVec.ofNat 64 (a &&& b)
  apply BitVec.eq_of_getLsbD_eq
  intro i hi
  simp [hi]
theorem fa_and (a b : Nat) : nI a &&& nI b = nI (a &&& b) := by
  apply Int32.toBitVec_inj.mp
  rw [Int32.toBitVec_and]
  show BitVec.ofNat 32 a &&& BitVec.ofNat 32 b = BitVec.ofNat 32 (a &&& b)
  apply BitVec.eq_of_getLsbD_eq
  intro i hi
  simp [hi]
theorem l_rep (x : Int64) : ∃ n, n < 2 ^ 64 ∧ x = lN n := ⟨x.toBitVec.toNat, x.toBitVec.isLt, Int64.toBitVec_inj.mp (by show _ = BitVec.ofNat 64 _; simp)⟩
theorem b_rep (x : Int32) : ∃ n, n < 2 ^ 32 ∧ x = nI n := ⟨x.toBitVec.toNat, x.toBitVec.isLt, Int32.toBitVec_inj.mp (by show _ = BitVec.ofNat 32 _; simp)⟩
theorem bl_lN (n : Nat) {i : Nat} (hi : i < 64) : bl (lN n) i = n.testBit i := by
  show (BitVec.ofNat 64 n).getLsbD i = _
  rw [BitVec.getLsbD_ofNat, decide_eq_true hi, Bool.true_and]
theorem bt_nI (n : Nat) {i : Nat} (hi : i < 32) : bt (nI n) i = n.testBit i := by
  show (BitVec.ofNat 32 n).getLsbD i = _
  rw [BitVec.getLsbD_ofNat, decide_eq_true hi, Bool.true_and]
theorem dv (k : Nat) {c X Y : Nat} (hc : c < k) (h : X = c + k * Y) : X / k = Y := by
  rw [h, Nat.add_mul_div_left _ _ (by omega), Nat.div_eq_of_lt hc, Nat.zero_add]
theorem fin32 {X c0 c1 c2 c3 : Nat} (e : X = c0 + 256 * c1 + 65536 * c2 + 16777216 * c3) (h0 : c0 ≤ 8) (h1 : c1 ≤ 8) (h2 : c2 ≤ 8) (h3 : c3 ≤ 8) :
    X + X / 256 < 2 ^ 32 ∧ (X + X / 256 + (X + X / 256) / 65536) % 2 ^ 6 = c0 + c1 + c2 + c3 := by
  rw [dv 256 (Y := c1 + 256 * c2 + 65536 * c3) (c := c0) (by omega) (by omega)]
  rw [dv 65536 (Y := (c2 + c3) + 256 * c3) (c := (c0 + c1) + 256 * (c1 + c2)) (by omega) (by omega)]
  omega
theorem fin64 {X c0 c1 c2 c3 c4 c5 c6 c7 : Nat} (e : X = c0 + 256 * c1 + 65536 * c2 + 16777216 * c3 + 4294967296 * c4 + 1099511627776 * c5 + 281474976710656 * c6 + 72057594037927936 * c7) (h0 : c0 ≤ 8) (h1 : c1 ≤ 8) (h2 : c2 ≤ 8) (h3 : c3 ≤ 8) (h4 : c4 ≤ 8) (h5 : c5 ≤ 8) (h6 : c6 ≤ 8) (h7 : c7 ≤ 8) :
    X + X / 256 < 2 ^ 64 ∧ X + X / 256 + (X + X / 256) / 65536 < 2 ^ 64 ∧ (X + X / 256 + (X + X / 256) / 65536 + (X + X / 256 + (X + X / 256) / 65536) / 4294967296) % 2 ^ 7 = c0 + c1 + c2 + c3 + c4 + c5 + c6 + c7 := by
  rw [dv 256 (Y := c1 + 256 * c2 + 65536 * c3 + 16777216 * c4 + 4294967296 * c5 + 1099511627776 * c6 + 281474976710656 * c7) (c := c0) (by omega) (by omega)]
  rw [dv 65536 (Y := (c2 + c3) + 256 * (c3 + c4) + 65536 * (c4 + c5) + 16777216 * (c5 + c6) + 4294967296 * (c6 + c7) + 1099511627776 * c7) (c := (c0 + c1) + 256 * (c1 + c2)) (by omega) (by omega)]
  rw [dv 4294967296 (Y := (c4 + c5 + c6 + c7) + 256 * (c5 + c6 + c7) + 65536 * (c6 + c7) + 16777216 * c7) (c := (c0 + c1 + c2 + c3) + 256 * (c1 + c2 + c3 + c4) + 65536 * (c2 + c3 + c4 + c5) + 16777216 * (c3 + c4 + c5 + c6)) (by omega) (by omega)]
  omega
theorem j13_cn (x : Int64) : F_J13_bitCount_95d88 x = some (nI (cn (bl x) 64)) := by
  obtain ⟨n, hn, rfl⟩ := l_rep x
  rw [j13_eq, cn_cong 64 (fun i hi => bl_lN n hi)]
  obtain ⟨c0, c1, c2, c3, c4, c5, c6, c7, h0, h1, h2, h3, h4, h5, h6, h7, e, e2⟩ := d256_8 n
  have s1 : (n / 2 ^ 1 &&& 6148914691236517205) + d4 32 n = n := by
    have h := sw_1 32 n (by omega)
    rwa [show m1 32 = 6148914691236517205 by decide] at h
  have s2 : (d4 32 n &&& 3689348814741910323) + (d4 32 n / 2 ^ 2 &&& 3689348814741910323) = d16 16 n := by
    have h := sw_2 16 n
    rwa [show m2 16 = 3689348814741910323 by decide] at h
  have s3 : (d16 16 n + d16 16 n / 2 ^ 4 &&& 1085102592571150095) = d256 8 n := by
    have h := sw_3 8 n
    rwa [show m3 8 = 1085102592571150095 by decide] at h
  have eA : jA (lN n) = lN (d4 32 n) := by
    unfold jA
    rw [show (6148914691236517205 : Int64) = lN 6148914691236517205 from rfl, show (1 : Int32) = nI 1 from rfl, l_sh hn (by decide), fb_andL, lN_sub (by omega)]
    exact congrArg lN (by omega)
  have hA : d4 32 n < 2 ^ 64 := by omega
  have eB : jB (lN (d4 32 n)) = lN (d16 16 n) := by
    unfold jB
    rw [show (3689348814741910323 : Int64) = lN 3689348814741910323 from rfl, show (2 : Int32) = nI 2 from rfl, l_sh hA (by decide), fb_andL, fb_andL, lN_add]
    exact congrArg lN s2
  have hB : d16 16 n < 2 ^ 64 := by
    rw [← s2]
    have i1 : (d4 32 n &&& 3689348814741910323) ≤ 3689348814741910323 := Nat.and_le_right
    have i2 : (d4 32 n / 2 ^ 2 &&& 3689348814741910323) ≤ 3689348814741910323 := Nat.and_le_right
    omega
  have eC : jC (lN (d16 16 n)) = lN (d256 8 n) := by
    unfold jC
    rw [show (1085102592571150095 : Int64) = lN 1085102592571150095 from rfl, show (4 : Int32) = nI 4 from rfl, l_sh hB (by decide), lN_add, fb_andL]
    exact congrArg lN s3
  have eD : jD (lN (d256 8 n)) = lN (d256 8 n + d256 8 n / 256) := by
    unfold jD
    rw [show (8 : Int32) = nI 8 from rfl, l_sh (by omega) (by decide), lN_add]
  have eE : ∀ D, D < 2 ^ 64 → jE (lN D) = lN (D + D / 65536) := fun D h => by
    unfold jE
    rw [show (16 : Int32) = nI 16 from rfl, l_sh h (by decide), lN_add]
  have eF : ∀ E, E < 2 ^ 64 → jF (lN E) = lN (E + E / 4294967296) := fun E h => by
    unfold jF
    rw [show (32 : Int32) = nI 32 from rfl, l_sh h (by decide), lN_add]
  have fin := fin64 e h0 h1 h2 h3 h4 h5 h6 h7
  rw [eA, eB, eC, eD, eE _ fin.1, eF _ fin.2.1, lN_i, show (127 : Int32) = nI (2 ^ 7 - 1) from rfl, fa_and, Nat.and_two_pow_sub_one_eq_mod, e2]
  exact congrArg (fun z => some (nI z)) fin.2.2
theorem b_sh {n k : Nat} (hn : n < 2 ^ 32) (hk : k < 32) : sh32 (nI n) (nI k) = nI (n / 2 ^ k) := pk_ushrN hn (nI k) k (by
  exact (by decide +kernel : ∀ n, n < 32 → (((nI n).toUInt32 &&& Int32.toUInt32 31).toBitVec % 32).toNat = n) k hk)
theorem j6_cn (x : Int32) : F_J6_bitCount_0f7a4 x = some (nI (cn (bt x) 32)) := by
  obtain ⟨n, hn, rfl⟩ := b_rep x
  rw [j6_eq, cn_cong 32 (fun i hi => bt_nI n hi)]
  obtain ⟨c0, c1, c2, c3, h0, h1, h2, h3, e, e2⟩ := d256_4 n
  have s1 : (n / 2 ^ 1 &&& 1431655765) + d4 16 n = n := by
    have h := sw_1 16 n (by omega)
    rwa [show m1 16 = 1431655765 by decide] at h
  have s2 : (d4 16 n &&& 858993459) + (d4 16 n / 2 ^ 2 &&& 858993459) = d16 8 n := by
    have h := sw_2 8 n
    rwa [show m2 8 = 858993459 by decide] at h
  have s3 : (d16 8 n + d16 8 n / 2 ^ 4 &&& 252645135) = d256 4 n := by
    have h := sw_3 4 n
    rwa [show m3 4 = 252645135 by decide] at h
  have eA : qA (nI n) = nI (d4 16 n) := by
    unfold qA
    rw [show (1431655765 : Int32) = nI 1431655765 from rfl, show (1 : Int32) = nI 1 from rfl, b_sh hn (by decide), fa_and, pk_sub (by omega)]
    exact congrArg nI (by omega)
  have hA : d4 16 n < 2 ^ 32 := by omega
  have eB : qB (nI (d4 16 n)) = nI (d16 8 n) := by
    unfold qB
    rw [show (858993459 : Int32) = nI 858993459 from rfl, show (2 : Int32) = nI 2 from rfl, b_sh hA (by decide), fa_and, fa_and, nI_add]
    exact congrArg nI s2
  have hB : d16 8 n < 2 ^ 32 := by
    rw [← s2]
    have i1 : (d4 16 n &&& 858993459) ≤ 858993459 := Nat.and_le_right
    have i2 : (d4 16 n / 2 ^ 2 &&& 858993459) ≤ 858993459 := Nat.and_le_right
    omega
  have eC : qC (nI (d16 8 n)) = nI (d256 4 n) := by
    unfold qC
    rw [show (252645135 : Int32) = nI 252645135 from rfl, show (4 : Int32) = nI 4 from rfl, b_sh hB (by decide), nI_add, fa_and]
    exact congrArg nI s3
  have eD : qD (nI (d256 4 n)) = nI (d256 4 n + d256 4 n / 256) := by
    unfold qD
    rw [show (8 : Int32) = nI 8 from rfl, b_sh (by omega) (by decide), nI_add]
  have eE : ∀ D, D < 2 ^ 32 → qE (nI D) = nI (D + D / 65536) := fun D h => by
    unfold qE
    rw [show (16 : Int32) = nI 16 from rfl, b_sh h (by decide), nI_add]
  have fin := fin32 e h0 h1 h2 h3
  rw [eA, eB, eC, eD, eE _ fin.1, show (63 : Int32) = nI (2 ^ 6 - 1) from rfl, fa_and, Nat.and_two_pow_sub_one_eq_mod, e2]
  exact congrArg (fun z => some (nI z)) fin.2
