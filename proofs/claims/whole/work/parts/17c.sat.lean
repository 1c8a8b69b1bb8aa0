/-! Which values fulfil a clause -/
theorem oB_some {α β : Type} (x : α) (f : α → Option β) : oB (some x) f = f x := rfl
theorem oB2_some {α β γ : Type} (x : α) (y : β) (f : α → β → Option γ) : oB2 (some (x, y)) f = f x y := rfl
theorem le_nI {a b : Nat} (ha : a < 2 ^ 31) (hb : b < 2 ^ 31) : (nI a ≤ nI b) = (a ≤ b) := propext (nI_leI ha hb)
theorem eq_nI {a b : Nat} (ha : a < 2 ^ 31) (hb : b < 2 ^ 31) : (nI a = nI b) = (a = b) := propext (nI_eq ha hb)
theorem bt_0 (i : Nat) : bt (nI 0) i = false := b_0 i
def lt1 (c : Int32) (v a : Nat) : Bool := (bt c (2 * a) && v.testBit a) || (bt c (2 * a + 1) && !v.testBit a)
def sat (c : Int32) (v : Nat) : Nat → Bool
  | 0 => false
  | a + 1 => sat c v a || lt1 c v a
theorem tab_b : ∀ a, a < 6 → ∀ v, v < 64 → bl (tabv a) v = v.testBit a := by decide +kernel
theorem tab_at : ∀ a, a < 6 → F_X3_longAtT (nI a) = some (tabv a) := by decide +kernel
theorem vals_loop (c : Int32) : ∀ d f a x, a + d = 6 → d < f → (∀ v, v < 64 → bl x v = sat c v a) → ∃ V, FL_X3_valuesOfClause_4 f c x (nI a) = some V ∧ ∀ v, v < 64 → bl V v = sat c v 6
  | d, 0, a, x, _, h, _ => absurd h (by omega)
  | 0, f + 1, a, x, ha, _, hx => by
    have : a = 6 := by omega
    subst this
    exact ⟨x, rfl, hx⟩
  | d + 1, f + 1, a, x, ha, hf, hx => by
    have h6 : ¬ (6 : Int32) ≤ nI a := fun h => absurd ((nI_leI (a := 6) (b := a) (by decide) (by omega)).mp h) (by omega)
    unfold FL_X3_valuesOfClause_4
    rw [if_neg h6, tab_at a (by omega), oB_some]
    simp only [pr_eq c (show a < 15 by omega), pr_a1, pr_a2, nI_1]
    have ht := tab_b a (by omega)
    have hm := l_m1
    have key : ∀ x2, (∀ v, v < 64 → bl x2 v = sat c v (a + 1)) → ∃ V, FL_X3_valuesOfClause_4 f c x2 (nI (a + 1)) = some V ∧ ∀ v, v < 64 → bl V v = sat c v 6 :=
      fun x2 h2 => vals_loop c d f (a + 1) x2 (by omega) (by omega) h2
    cases h1 : bt c (2 * a) <;> cases h2 : bt c (2 * a + 1) <;> simp only [reduceCtorEq, if_true, if_false] <;> refine key _ (fun v hv => ?_) <;>
      simp only [l_or, l_xor, l_0, ht v hv, hm v hv, hx v hv, sat, lt1, h1, h2] <;> cases sat c v a <;> cases v.testBit a <;> rfl
theorem vals (c : Int32) : ∃ V, F_X3_valuesOfClause c = some V ∧ ∀ v, v < 64 → bl V v = sat c v 6 :=
  vals_loop c 6 fuel 0 0 rfl (by decide) (fun v _ => l_0 v)
def lit (c : Int32) (v L : Nat) : Bool := bt c L && (if L % 2 = 0 then v.testBit (L / 2) else !v.testBit (L / 2))
def ful (c : Int32) (v : Nat) : Nat → Bool
  | 0 => false
  | L + 1 => ful c v L || lit c v L
theorem ful_sat (c : Int32) (v : Nat) : ful c v 12 = sat c v 6 := by
  simp only [ful, sat, lit, lt1, Bool.or_assoc, Bool.false_or, Nat.reduceMod, Nat.reduceDiv, Nat.reduceMul, Nat.reduceAdd, if_true, Nat.reduceEqDiff, if_false]
theorem div2 {n : Nat} (h : n < 2 ^ 31) : iDiv (nI n) 2 = some (nI (n / 2)) := by
  unfold iDiv
  rw [if_neg (by decide)]
  exact congrArg some (pk_div h (d := 2) (by decide) (by decide))
theorem rem2 {n : Nat} (h : n < 2 ^ 31) : iRem (nI n) 2 = some (nI (n % 2)) := by
  unfold iRem
  rw [if_neg (by decide)]
  exact congrArg some (pk_rem h (d := 2) (by decide) (by decide))
theorem ful_loop (c : Int32) (v : Nat) : ∀ d f L b, L + d = 12 → d < f → b = ful c v L → FL_X4_isFulfilled_4 f c (nI v) (bI b) (nI L) = some (bI (ful c v 12))
  | d, 0, L, b, _, h, _ => absurd h (by omega)
  | 0, f + 1, L, b, hL, _, hb => by
    have : L = 12 := by omega
    subst this
    unfold FL_X4_isFulfilled_4
    rw [if_pos (by decide)]
    unfold oZ
    rw [if_pos (bI_z b), hb]
  | d + 1, f + 1, L, b, hL, hf, hb => by
    have h12 : ¬ (12 : Int32) ≤ nI L := fun h => absurd ((nI_leI (a := 12) (b := L) (by decide) (by omega)).mp h) (by omega)
    have key : ∀ b2, b2 = ful c v (L + 1) → FL_X4_isFulfilled_4 f c (nI v) (bI b2) (nI (L + 1)) = some (bI (ful c v 12)) :=
      fun b2 h2 => ful_loop c v d f (L + 1) b2 (by omega) (by omega) h2
    have k1 := key true
    have k0 := key false
    unfold FL_X4_isFulfilled_4
    rw [if_neg h12, x4_has c (show L < 32 by omega), div2 (show L < 2 ^ 31 by omega), rem2 (show L < 2 ^ 31 by omega), oB_some, nI_1]
    simp only [oB_some]
    rw [x4_has (nI v) (show L / 2 < 32 by omega), bt_nI v (show L / 2 < 32 by omega)]
    have e1 : bI true = 1 := rfl
    have e0 : bI false = 0 := rfl
    rw [e1] at k1
    rw [e0] at k0
    simp only [ful, lit, ← hb] at k0 k1
    rcases Nat.mod_two_eq_zero_or_one L with h2 | h2
    · simp only [h2, oB_some, if_true] at k0 k1 ⊢
      cases b <;> cases h3 : bt c L <;> cases h4 : v.testBit (L / 2) <;> simp only [h3, h4] at k0 k1 <;> first | exact k1 rfl | exact k0 rfl
    · simp only [h2, oB_some] at k0 k1 ⊢
      cases b <;> cases h3 : bt c L <;> cases h4 : v.testBit (L / 2) <;> simp only [h3, h4] at k0 k1 <;> first | exact k1 rfl | exact k0 rfl
theorem isFul (c : Int32) (v : Nat) : F_X4_isFulfilled c (nI v) = some (bI (sat c v 6)) :=
  (ful_loop c v 12 fuel 0 false rfl (by decide) rfl).trans (by rw [ful_sat])
def flB (k : Nat) : Option Int32 := oB (fDv (FP.i2f (nI k)) ((1115684864) : UInt32)) fun v5 => oB (F_Jxf58ca_floatToIntBits_5c35a v5) fun v6 => some v6
theorem flt : ∀ k, k < 65 → F_X3_floatBitsOf64ths (nI k) = flB k ∧ (flB k).isSome = true := by decide +kernel
theorem lt0 (p : Int32) : p < 0 ↔ p.toInt < 0 := Int32.lt_iff_toInt_lt
theorem share_loop (y : St) (c : Int32) : ∀ d f v, v + d = 64 → d < f → FL_X4_share_18 y f c (nI (cn (fun v => sat c v 6) v)) (nI v) = flB (cn (fun v => sat c v 6) 64)
  | d, 0, v, _, h => absurd h (by omega)
  | 0, f + 1, v, hv, _ => by
    have : v = 64 := by omega
    subst this
    unfold FL_X4_share_18
    rw [if_pos (by decide)]
    rfl
  | d + 1, f + 1, v, hv, hf => by
    have h64 : ¬ (64 : Int32) ≤ nI v := fun h => absurd ((nI_leI (a := 64) (b := v) (by decide) (by omega)).mp h) (by omega)
    unfold FL_X4_share_18
    rw [if_neg h64, isFul, oB_some, nI_1]
    have ih := share_loop y c d f (v + 1) (by omega) (by omega)
    rw [show cn (fun v => sat c v 6) (v + 1) = cn (fun v => sat c v 6) v + (sat c v 6).toNat from rfl, ← nI_add] at ih
    cases hs : sat c v 6 <;> rw [hs] at ih <;> exact ih
theorem in_eq (p lo hi : Int32) : F_X4_in p lo hi = some (if p < lo then 0 else if hi < p then 0 else 1) := by
  unfold F_X4_in
  split
  · rfl
  · split <;> rfl
theorem le_lt (a b : Int32) : a ≤ b ↔ ¬ b < a := by
  rw [Int32.le_iff_toInt_le, Int32.lt_iff_toInt_lt]
  omega
theorem sim_share (x : XS) (y : St) (p : Int32) : ∃ v, F_X3_share x p = some v ∧ F_X4_share y p = some v := by
  unfold F_X3_share F_X4_share
  rw [in_eq, oB_some]
  by_cases h1 : p < 0
  · rw [if_pos h1, if_pos h1]
    exact ⟨_, rfl, rfl⟩
  rw [if_neg h1, if_neg h1]
  by_cases h2 : 4095 < p
  · rw [if_pos h2, if_neg (fun h => (le_lt p 4095).mp h h2)]
    exact ⟨_, rfl, rfl⟩
  rw [if_neg h2, if_pos ((le_lt p 4095).mpr h2), if_neg (by decide)]
  obtain ⟨V, hV, hb⟩ := vals p
  rw [hV, oB_some, j13_cn, oB_some, cn_cong 64 hb]
  have hk := cn_le (fun v => sat p v 6) 64
  have h3 := share_loop y p 64 fuel 0 rfl (by decide)
  obtain ⟨h4, h5⟩ := flt _ (show cn (fun v => sat p v 6) 64 < 65 by omega)
  obtain ⟨v, hv⟩ := Option.isSome_iff_exists.mp h5
  exact ⟨v, by rw [h4, hv]; rfl, h3.trans hv⟩
