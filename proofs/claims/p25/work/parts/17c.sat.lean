/-! Which values fulfil a clause -/
theorem oB_some {α β : Type} (x : α) (f : α → Option β) : oB (some x) f = f x := rfl
theorem oB2_some {α β γ : Type} (x : α) (y : β) (f : α → β → Option γ) : oB2 (some (x, y)) f = f x y := rfl
theorem le_nI {a b : Nat} (ha : a < 2 ^ 31) (hb : b < 2 ^ 31) : (nI a ≤ nI b) = (a ≤ b) := propext (nI_leI ha hb)
theorem eq_nI {a b : Nat} (ha : a < 2 ^ 31) (hb : b < 2 ^ 31) : (nI a = nI b) = (a = b) := propext (nI_eq ha hb)
theorem bt_0 (i : Nat) : bt (nI 0) i = false := b_0 i
def lt1 (c : Int32) (v a : Nat) : Bool := (bt c (2 * a) && v.testBit a) || (bt c (2 * a + 1) && !v.testBit a)
def sat (c : Int32) (v : Nat) : Nat → Bool
  | 0 => false
  | a + 1 => sat c v a || lt1 c v a
theorem tab_b : ∀ a, a < 6 → ∀ v, v < 64 → bl (tabv a) v = v.testBit a := by decide +kernel
theorem tab_at : ∀ a, a < 6 → F_X3_longAtT (nI a) = some (tabv a) := by decide +kernel
theorem vals_loop (c : Int32) : ∀ d f a x, a + d = 6 → d < f → (∀ v, v < 64 → bl x v = sat c v a) → ∃ V, FL_X3_valuesOfClause_4 f c x (nI a) = some V ∧ ∀ v, v < 64 → bl V v = sat c v 6
  | d, 0, a, x, _, h, _ => absurd h (by omega)
  | 0, f + 1, a, x, ha, _, hx => by
    have : a = 6 := by omega
    subst this
    exact ⟨x, rfl, hx⟩
  | d + 1, f + 1, a, x, ha, hf, hx => by
    have h6 : ¬ (6 : Int32) ≤ nI a := fun h => absurd ((nI_leI (a := 6) (b := a) (by decide) (by omega)).mp h) (by omega)
    unfold FL_X3_valuesOfClause_4
    rw [if_neg h6, tab_at a (by omega), oB_some]
    simp only [pr_eq c (show a < 15 by omega), pr_a1, pr_a2, nI_1]
    have ht := tab_b a (by omega)
    have hm := l_m1
    have key : ∀ x2, (∀ v, v < 64 → bl x2 v = sat c v (a + 1)) → ∃ V, FL_X3_valuesOfClause_4 f c x2 (nI (a + 1)) = some V ∧ ∀ v, v < 64 → bl V v = sat c v 6 :=
      fun x2 h2 => vals_loop c d f (a + 1) x2 (by omega) (by omega) h2
    cases h1 : bt c (2 * a) <;> cases h2 : bt c (2 * a + 1) <;> simp only [reduceCtorEq, if_true, if_false] <;> refine key _ (fun v hv => ?_) <;>
      simp only [l_or, l_xor, l_0, ht v hv, hm v hv, hx v hv, sat, lt1, h1, h2] <;> cases sat c v a <;> cases v.testBit a <;> rfl
theorem vals (c : Int32) : ∃ V, F_X3_valuesOfClause c = some V ∧ ∀ v, v < 64 → bl V v = sat c v 6 :=
  vals_loop c 6 fuel 0 0 rfl (by decide) (fun v _ => l_0 v)
def lit (c : Int32) (v L : Nat) : Bool := bt c L && (if L % 2 = 0 then v.testBit (L / 2) else !v.testBit (L / 2))
def ful (c : Int32) (v : Nat) : Nat → Bool
  | 0 => false
  | L + 1 => ful c v L || lit c v L
theorem ful_sat (c : Int32) (v : Nat) : ful c v 12 = sat c v 6 := by
  simp only [ful, sat, lit, lt1, Bool.or_assoc, Bool.false_or, Nat.reduceMod, Nat.reduceDiv, Nat.reduceMul, Nat.reduceAdd, if_true, Nat.reduceEqDiff, if_false]
theorem div2 {n : Nat} (h : n < 2 ^ 31) : iDiv (nI n) 2 = some (nI (n / 2)) := by
  unfold iDiv
  rw [if_neg (by decide)]
  exact congrArg some (pk_div h (d := 2) (by decide) (by decide))
theorem rem2 {n : Nat} (h : n < 2 ^ 31) : iRem (nI n) 2 = some (nI (n % 2)) := by
  unfold iRem
  rw [if_neg (by decide)]
  exact congrArg some (pk_rem h (d := 2) (by decide) (by decide))
theorem lt0 (p : Int32) : p < 0 ↔ p.toInt < 0 := Int32.lt_iff_toInt_lt
theorem le_lt (a b : Int32) : a ≤ b ↔ ¬ b < a := by
  rw [Int32.le_iff_toInt_le, Int32.lt_iff_toInt_lt]
  omega
