/-! Bits of an int and of a long -/
theorem lg_self (v : Int64) : lg_cmp v v = 0 := by simp [lg_cmp]
def bt (x : Int32) (i : Nat) : Bool := x.toBitVec.getLsbD i
theorem b_ext {x y : Int32} (h : ∀ i, i < 32 → bt x i = bt y i) : x = y := Int32.toBitVec_inj.mp (BitVec.eq_of_getLsbD_eq (fun i hi => h i hi))
theorem b_or (x y : Int32) (i : Nat) : bt (x ||| y) i = (bt x i || bt y i) := by unfold bt; rw [Int32.toBitVec_or, BitVec.getLsbD_or]
theorem b_and (x y : Int32) (i : Nat) : bt (x &&& y) i = (bt x i && bt y i) := by unfold bt; rw [Int32.toBitVec_and, BitVec.getLsbD_and]
theorem b_xor (x y : Int32) (i : Nat) : bt (x ^^^ y) i = (bt x i ^^ bt y i) := by unfold bt; rw [Int32.toBitVec_xor, BitVec.getLsbD_xor]
theorem b_big {x : Int32} {i : Nat} (h : 32 ≤ i) : bt x i = false := BitVec.getLsbD_of_ge _ _ h
theorem b_m1 : ∀ i, i < 32 → bt (-1) i = true := by decide +kernel
theorem b_0 (i : Nat) : bt 0 i = false := BitVec.getLsbD_zero
theorem s_l : ∀ n, n < 32 → ((nI n &&& 31).toBitVec.smod 32).toNat = n := by decide +kernel
theorem b_shl (n : Nat) (hn : n < 32) (x : Int32) {i : Nat} (hi : i < 32) : bt (x <<< (nI n &&& 31)) i = (decide (n ≤ i) && bt x (i - n)) := by
  unfold bt
  rw [Int32.toBitVec_shiftLeft]
  show (x.toBitVec <<< ((nI n &&& 31).toBitVec.smod 32).toNat).getLsbD i = _
  rw [s_l n hn, BitVec.getLsbD_shiftLeft]
  rcases Nat.lt_or_ge i n with h | h
  · simp [h, Nat.not_le.mpr h]
  · simp [hi, h, Nat.not_lt.mpr h]
theorem b_sshr (n : Nat) (hn : n < 32) (x : Int32) {i : Nat} (hi : i < 32) : bt (x >>> (nI n &&& 31)) i = if n + i < 32 then bt x (n + i) else bt x 31 := by
  unfold bt
  rw [Int32.toBitVec_shiftRight]
  show (x.toBitVec.sshiftRight ((nI n &&& 31).toBitVec.smod 32).toNat).getLsbD i = _
  rw [s_l n hn, BitVec.getLsbD_sshiftRight, BitVec.msb_eq_getLsbD_last]
  simp [hi]
def bl (x : Int64) (i : Nat) : Bool := x.toBitVec.getLsbD i
theorem l_ext {x y : Int64} (h : ∀ i, i < 64 → bl x i = bl y i) : x = y := Int64.toBitVec_inj.mp (BitVec.eq_of_getLsbD_eq (fun i hi => h i hi))
theorem l_or (x y : Int64) (i : Nat) : bl (x ||| y) i = (bl x i || bl y i) := by unfold bl; rw [Int64.toBitVec_or, BitVec.getLsbD_or]
theorem l_and (x y : Int64) (i : Nat) : bl (x &&& y) i = (bl x i && bl y i) := by unfold bl; rw [Int64.toBitVec_and, BitVec.getLsbD_and]
theorem l_xor (x y : Int64) (i : Nat) : bl (x ^^^ y) i = (bl x i ^^ bl y i) := by unfold bl; rw [Int64.toBitVec_xor, BitVec.getLsbD_xor]
theorem l_0 (i : Nat) : bl 0 i = false := BitVec.getLsbD_zero
theorem l_m1 : ∀ i, i < 64 → bl (-1) i = true := by decide +kernel
theorem l_1 : ∀ j, j < 64 → ∀ i, i < 64 → bl ((1 : Int64) <<< ((nI j).toInt64 &&& 63)) i = decide (i = j) := by decide +kernel
theorem l_of {x : Int64} : x = 0 ↔ ∀ i, i < 64 → bl x i = false :=
  ⟨fun h i _ => h ▸ l_0 i, fun h => l_ext (fun i hi => (h i hi).trans (l_0 i).symm)⟩
theorem wb_cu : ∀ k, k < 64 → ((nI k).toInt64.toUInt64 &&& Int64.toUInt64 63) = UInt64.ofNat k := by decide +kernel
theorem ts_bit {w : Int64} {s : UInt64} {j : Nat} (hj : j < 64) (hs : s.toNat = j) : ((w.toUInt64 >>> s).toInt64 &&& 1) = 0 ↔ w.toBitVec.getLsbD j = false := by
  have e : (w.toUInt64 >>> s).toInt64.toBitVec = w.toBitVec >>> j := by
    apply BitVec.eq_of_toNat_eq
    show (w.toUInt64 >>> s).toNat = _
    rw [UInt64.toNat_shiftRight, hs, Nat.mod_eq_of_lt hj, BitVec.toNat_ushiftRight]
    rfl
  rw [← Int64.toBitVec_inj, Int64.toBitVec_and, e]
  show w.toBitVec >>> j &&& 1#64 = 0#64 ↔ _
  constructor
  · intro h
    have t := congrArg (fun x => x.getLsbD 0) h
    simpa using t
  · intro h
    apply BitVec.eq_of_getLsbD_eq
    intro i hi
    cases i with
    | zero => simp [h]
    | succ i => simp
theorem cmp_0 (a b : Int64) : lg_cmp a b = 0 ↔ a = b := by
  constructor
  · intro h
    unfold lg_cmp at h
    repeat' split at h
    all_goals first | (exact absurd h (by decide)) | assumption | skip
  · intro h
    rw [h]
    exact lg_self b
def bI (b : Bool) : Int32 := if b then 1 else 0
theorem bI_0 (b : Bool) : (bI b = 0) = (b = false) := by cases b <;> decide
theorem bI_1 (b : Bool) : (bI b = 1) = (b = true) := by cases b <;> decide
theorem bI_z (b : Bool) : bI b &&& 1 = bI b := by cases b <;> decide
theorem x3_isIn (w : Int64) {j : Nat} (hj : j < 64) : F_X3_isIn w (nI j) = some (bI (bl w j)) := by
  unfold F_X3_isIn
  rw [wb_cu j hj]
  simp only [cmp_0, ts_bit (w := w) hj (s := UInt64.ofNat j) (by rw [UInt64.toNat_ofNat']; exact Nat.mod_eq_of_lt (by omega))]
  show (if bl w j = false then some 0 else some 1) = _
  cases bl w j <;> rfl
theorem sl_l : ∀ n, n < 64 → (((nI n).toInt64 &&& 63).toBitVec.smod 64).toNat = n := by decide +kernel
theorem l_sshr (n : Nat) (hn : n < 64) (x : Int64) : bl (x >>> ((nI n).toInt64 &&& 63)) 0 = bl x n := by
  unfold bl
  rw [Int64.toBitVec_shiftRight]
  show (x.toBitVec.sshiftRight (((nI n).toInt64 &&& 63).toBitVec.smod 64).toNat).getLsbD 0 = _
  rw [sl_l n hn, BitVec.getLsbD_sshiftRight]
  simp [hn]
theorem l_b1 : ∀ i, i < 64 → bl 1 i = decide (i = 0) := by decide +kernel
theorem b_3 : ∀ i, i < 32 → bt 3 i = decide (i < 2) := by decide +kernel
/-- the two bits of an atom -/
def pr (x : Int32) (a : Nat) : Int32 := nI ((bt x (2 * a)).toNat + 2 * (bt x (2 * a + 1)).toNat)
theorem pr_eq (x : Int32) {a : Nat} (ha : a < 15) : (x >>> (((2 : Int32) * nI a) &&& 31)) &&& 3 = pr x a := by
  rw [show (2 : Int32) * nI a = nI (2 * a) from pk_mul 2 a]
  apply b_ext
  intro i hi
  rw [b_and, b_3 i hi, b_sshr (2 * a) (by omega) x hi]
  have h4 : ∀ (p q : Bool) (i : Nat), i < 32 → bt (nI (p.toNat + 2 * q.toNat)) i = if i = 0 then p else if i = 1 then q else false := by decide +kernel
  unfold pr
  rw [h4 _ _ i hi]
  by_cases h : i = 0
  · subst h
    rw [if_pos (by omega), if_pos rfl]
    simp
  · by_cases h1 : i = 1
    · subst h1
      rw [if_pos (by omega), if_neg (by decide), if_pos rfl]
      simp
    · rw [if_neg h, if_neg h1, decide_eq_false (by omega), Bool.and_false]
theorem pr_0 (x : Int32) (a : Nat) : pr x a = 0 ↔ bt x (2 * a) = false ∧ bt x (2 * a + 1) = false := by
  unfold pr
  cases bt x (2 * a) <;> cases bt x (2 * a + 1) <;> decide
theorem pr_3 (x : Int32) (a : Nat) : pr x a = 3 ↔ bt x (2 * a) = true ∧ bt x (2 * a + 1) = true := by
  unfold pr
  cases bt x (2 * a) <;> cases bt x (2 * a + 1) <;> decide
theorem pr_a1 (x : Int32) (a : Nat) : pr x a &&& 1 = 0 ↔ bt x (2 * a) = false := by
  unfold pr
  cases bt x (2 * a) <;> cases bt x (2 * a + 1) <;> decide
theorem pr_a2 (x : Int32) (a : Nat) : pr x a &&& 2 = 0 ↔ bt x (2 * a + 1) = false := by
  unfold pr
  cases bt x (2 * a) <;> cases bt x (2 * a + 1) <;> decide
theorem pr_hi (x : Int32) (a : Nat) : pr x a >>> ((1 : Int32) &&& 31) = nI (bt x (2 * a + 1)).toNat := by
  unfold pr
  cases bt x (2 * a) <;> cases bt x (2 * a + 1) <;> decide
