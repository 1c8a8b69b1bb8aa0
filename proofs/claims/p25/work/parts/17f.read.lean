/-! What is read of the store -/
theorem hm_loop {u : St} {n : Nat} (H : Nn u n) (x : Int32) : ∀ d f i, i + d = n → d < f → FL_X1_howMany_4 u f x (nI (cn (fun k => decide (u.1 2 k = x)) i)) (nI i) = some (nI (cn (fun k => decide (u.1 2 k = x)) n))
  | d, 0, _, _, h => absurd h (by omega)
  | 0, f + 1, i, hi, _ => by
    have : i = n := by omega
    subst this
    unfold FL_X1_howMany_4
    rw [H.2.1, if_pos (end_le _)]
  | d + 1, f + 1, i, hi, _ => by
    have hn : i < n := by omega
    have ih := hm_loop H x d f (i + 1) (by omega) (by omega)
    unfold FL_X1_howMany_4
    rw [H.2.1, if_neg (H.ge hn), aS (by decide) (H.lt hn), oB_some, nI_1 i]
    by_cases h : u.1 2 i = x
    · rw [if_pos h]
      have e : cn (fun k => decide (u.1 2 k = x)) (i + 1) = cn (fun k => decide (u.1 2 k = x)) i + 1 := by
        show _ + (decide (u.1 2 i = x)).toNat = _
        rw [decide_eq_true h]; rfl
      rw [e, ← nI_1] at ih
      exact ih
    · rw [if_neg h]
      have e : cn (fun k => decide (u.1 2 k = x)) (i + 1) = cn (fun k => decide (u.1 2 k = x)) i + 0 := by
        show _ + (decide (u.1 2 i = x)).toNat = _
        rw [decide_eq_false h]; rfl
      rw [e, ← nI_add] at ih
      exact ih
theorem how_eq {u : St} {n : Nat} (H : Nn u n) (x : Int32) : F_X1_howMany u x = some (nI (cn (fun k => decide (u.1 2 k = x)) n)) :=
  hm_loop H x n fuel 0 (by omega) H.f
theorem ec_loop {u : St} {n : Nat} (H : Nn u n) : ∀ d f i, i + d = n → d < f → (∀ k, k < i → ¬ u.1 1 k = 0) → (FL_X1_emptyClause_2 u f (nI i) = some (-1) ∧ ∀ k, k < n → ¬ u.1 1 k = 0) ∨ ∃ k, k < n ∧ FL_X1_emptyClause_2 u f (nI i) = some (nI k) ∧ u.1 1 k = 0
  | d, 0, _, _, h, _ => absurd h (by omega)
  | 0, f + 1, i, hi, _, hb => by
    have : i = n := by omega
    subst this
    unfold FL_X1_emptyClause_2
    rw [H.2.1, if_pos (end_le _)]
    exact Or.inl ⟨rfl, hb⟩
  | d + 1, f + 1, i, hi, _, hb => by
    have hn : i < n := by omega
    unfold FL_X1_emptyClause_2
    rw [H.2.1, if_neg (H.ge hn), aS (by decide) (H.lt hn), oB_some, nI_1]
    by_cases h : u.1 1 i = 0
    · rw [if_pos h]
      exact Or.inr ⟨i, hn, rfl, h⟩
    · rw [if_neg h]
      exact ec_loop H d f (i + 1) (by omega) (by omega) (fun k hk => by
        rcases Nat.lt_succ_iff_lt_or_eq.mp hk with q | q
        · exact hb k q
        · subst q; exact h)
theorem ec_eq {u : St} {n : Nat} (H : Nn u n) : (F_X1_emptyClause u = some (-1) ∧ ∀ k, k < n → ¬ u.1 1 k = 0) ∨ ∃ k, k < n ∧ F_X1_emptyClause u = some (nI k) ∧ u.1 1 k = 0 :=
  ec_loop H n fuel 0 (by omega) H.f (fun k hk => absurd hk (by omega))
theorem set_nI {k : Nat} (h : k < 2 ^ 31) : F_X3_setOf (nI k) = some ((1 : Int64) <<< ((nI k).toInt64 &&& 63)) := by
  unfold F_X3_setOf
  rw [if_pos (nI_pos' h)]
theorem set_m1 : F_X3_setOf (-1) = some 0 := by
  unfold F_X3_setOf
  rw [if_neg (by decide)]
theorem or_z (a : Int64) : a ||| 0 = a := Int64.or_zero
theorem one_k {k i : Nat} (hk : k < 64) (hi : i < 64) : bl ((1 : Int64) <<< ((nI k).toInt64 &&& 63)) i = decide (i = k) := l_1 k hk i hi
theorem told_loop {u : St} {n : Nat} (H : Nn u n) : ∀ d f i a, i + d = n → d < f → (∀ j, j < 64 → bl a j = (decide (j < i) && decide (u.1 3 j = -1))) → ∃ T, FL_X1_toldClauses_4 u f a (nI i) = some T ∧ ∀ j, j < 64 → bl T j = (decide (j < n) && decide (u.1 3 j = -1))
  | d, 0, _, _, _, h, _ => absurd h (by omega)
  | 0, f + 1, i, a, hi, _, ha => by
    have : i = n := by omega
    subst this
    unfold FL_X1_toldClauses_4
    rw [H.2.1, if_pos (end_le _)]
    exact ⟨a, rfl, ha⟩
  | d + 1, f + 1, i, a, hi, _, ha => by
    have hn : i < n := by omega
    have h40 := H.lt hn
    have ih := fun a => told_loop H d f (i + 1) a (by omega) (by omega)
    unfold FL_X1_toldClauses_4 F_X1_wasTold
    rw [H.2.1, if_neg (H.ge hn), aS (by decide) h40, oB_some, set_nI (by omega), nI_1]
    by_cases h : u.1 3 i = -1
    · rw [if_pos h]
      refine ih _ (fun j hj => ?_)
      rw [l_or, ha j hj, one_k (by omega) hj]
      by_cases e : j = i
      · subst e
        rw [decide_eq_true (rfl : j = j), decide_eq_true (show j < j + 1 by omega), decide_eq_true h]
        simp
      · rw [decide_eq_false e, Bool.or_false]
        by_cases e2 : j < i
        · rw [decide_eq_true e2, decide_eq_true (show j < i + 1 by omega)]
        · rw [decide_eq_false e2, decide_eq_false (show ¬ j < i + 1 by omega)]
    · rw [if_neg h]
      refine ih _ (fun j hj => ?_)
      rw [or_z, ha j hj]
      by_cases e : j = i
      · subst e
        rw [decide_eq_false h, Bool.and_false, Bool.and_false]
      · by_cases e2 : j < i
        · rw [decide_eq_true e2, decide_eq_true (show j < i + 1 by omega)]
        · rw [decide_eq_false e2, decide_eq_false (show ¬ j < i + 1 by omega)]
theorem told_eq {u : St} {n : Nat} (H : Nn u n) : ∃ T, F_X1_toldClauses u = some T ∧ ∀ j, j < 64 → bl T j = (decide (j < n) && decide (u.1 3 j = -1)) :=
  told_loop H n fuel 0 0 (by omega) H.f (fun j hj => by rw [l_0, decide_eq_false (by omega)]; rfl)
theorem Cs.sa {u : St} {n k v : Nat} (H : Cs u n) (hk : k < n) (hv : v < 64) : bl (u.2.1 k) v = sat (u.1 1 k) v 6 := by
  obtain ⟨V, h1, h2⟩ := vals (u.1 1 k)
  have h3 := (H.cl hk).2.1
  rw [h1] at h3
  cases h3
  exact h2 v hv
/-- the value v fulfils the clauses below i in the set S -/
def al (u : St) (S : Int64) (v : Nat) : Nat → Bool
  | 0 => true
  | i + 1 => al u S v i && (!bl S i || sat (u.1 1 i) v 6)
theorem al_dn {u : St} {S : Int64} {v : Nat} : ∀ d i, al u S v i = false → al u S v (i + d) = false
  | 0, i, h => h
  | d + 1, i, h => by
    show (al u S v (i + d) && _) = false
    rw [al_dn d i h]
    rfl
theorem al_t {u : St} {S : Int64} {v : Nat} : ∀ n, al u S v n = true ↔ ∀ i, i < n → bl S i = true → sat (u.1 1 i) v 6 = true
  | 0 => ⟨fun _ i hi => absurd hi (by omega), fun _ => rfl⟩
  | n + 1 => by
    show (al u S v n && (!bl S n || sat (u.1 1 n) v 6)) = true ↔ _
    rw [Bool.and_eq_true, al_t n, Bool.or_eq_true, Bool.not_eq_true']
    constructor
    · rintro ⟨h1, h2⟩ i hi hb
      rcases Nat.lt_succ_iff_lt_or_eq.mp hi with q | q
      · exact h1 i q hb
      · subst q
        rcases h2 with h2 | h2
        · rw [hb] at h2; cases h2
        · exact h2
    · intro h
      refine ⟨fun i hi => h i (by omega), ?_⟩
      cases hb : bl S n
      · exact Or.inl rfl
      · exact Or.inr (h n (by omega) hb)
theorem vf_loop {u : St} {n : Nat} (H : Cs u n) (S : Int64) : ∀ d f i a, i + d = n → d < f → (∀ v, v < 64 → bl a v = al u S v i) → ∃ V, FL_X1_valuesFulfilling_7 u f S a (nI i) = some V ∧ ∀ v, v < 64 → bl V v = al u S v n
  | d, 0, _, _, _, h, _ => absurd h (by omega)
  | 0, f + 1, i, a, hi, _, ha => by
    have : i = n := by omega
    subst this
    unfold FL_X1_valuesFulfilling_7
    rw [H.2.1, if_pos (end_le _)]
    exact ⟨a, rfl, ha⟩
  | d + 1, f + 1, i, a, hi, _, ha => by
    have hn : i < n := by omega
    have h40 := H.lt hn
    have ih := fun a ha => vf_loop H S d f (i + 1) a (by omega) (by omega) ha
    unfold FL_X1_valuesFulfilling_7
    rw [H.2.1, if_neg (H.ge hn), x3_isIn S (by omega), oB_some, aL h40, oB_some, nI_1]
    simp only [cmp_0]
    by_cases h : a = 0
    · rw [if_pos h]
      refine ⟨a, rfl, fun v hv => ?_⟩
      have h1 := ha v hv
      rw [h, l_0] at h1
      rw [h, l_0, show n = i + (d + 1) by omega, al_dn _ _ h1.symm]
    · rw [if_neg h]
      cases hb : bl S i
      · rw [if_pos (show bI false = 0 from rfl)]
        refine ih a (fun v hv => ?_)
        show _ = (al u S v i && (!bl S i || _))
        rw [hb, ha v hv, Bool.not_false, Bool.true_or, Bool.and_true]
      · rw [if_neg (show ¬ bI true = 0 by decide)]
        refine ih _ (fun v hv => ?_)
        show _ = (al u S v i && (!bl S i || _))
        rw [hb, l_and, ha v hv, H.sa hn hv, Bool.not_true, Bool.false_or]
theorem vf {u : St} {n : Nat} (H : Cs u n) (S : Int64) : ∃ V, F_X1_valuesFulfilling u S = some V ∧ ∀ v, v < 64 → bl V v = al u S v n :=
  vf_loop H S n fuel 0 (-1) (by omega) H.f (fun v hv => l_m1 v hv)
/-! trees -/
def pa (u : St) (i j : Nat) : Bool := decide (u.1 3 i = nI j) || decide (u.1 4 i = nI j)
def trl (u : St) : Nat → (Nat → Bool) → Nat → Bool
  | 0, a => a
  | i + 1, a => trl u i (fun j => a j || (a i && pa u i j))
theorem trl_or (u : St) : ∀ i (a b : Nat → Bool) j, trl u i (fun j => a j || b j) j = (trl u i a j || trl u i b j)
  | 0, _, _, _ => rfl
  | i + 1, a, b, j => by
    show trl u i (fun j => (a j || b j) || ((a i || b i) && pa u i j)) j = (trl u i (fun j => a j || (a i && pa u i j)) j || trl u i (fun j => b j || (b i && pa u i j)) j)
    rw [← trl_or u i]
    congr 1
    funext q
    cases a q <;> cases b q <;> cases a i <;> cases b i <;> cases pa u i q <;> rfl
theorem trl_no (u : St) : ∀ d i (a : Nat → Bool) j, (∀ k, i ≤ k → k < i + d → a k = false) → trl u (i + d) a j = trl u i a j
  | 0, _, _, _, _ => rfl
  | d + 1, i, a, j, h => by
    show trl u (i + d) (fun j => a j || (a (i + d) && pa u (i + d) j)) j = _
    rw [h (i + d) (by omega) (by omega)]
    have e : (fun j => a j || (false && pa u (i + d) j)) = a := by funext q; simp
    rw [e]
    exact trl_no u d i a j (fun k h1 h2 => h k h1 (by omega))
theorem trl_cg (u : St) {a b : Nat → Bool} (i j : Nat) (h : ∀ q, a q = b q) : trl u i a j = trl u i b j := by
  rw [show a = b from funext h]
theorem tree_loop {u : St} {n : Nat} (H : Cs u n) : ∀ i f (a : Int64), i ≤ n → i < f → ∀ A : Nat → Bool, (∀ j, j < 64 → bl a j = A j) → ∃ V, FL_X1_treeOf_8 u f a (nI i - 1) = some V ∧ ∀ j, j < 64 → bl V j = trl u i A j
  | i, 0, _, _, h, _, _ => absurd h (by omega)
  | 0, f + 1, a, _, _, A, ha => by
    unfold FL_X1_treeOf_8
    rw [if_pos (by decide)]
    exact ⟨a, rfl, ha⟩
  | i + 1, f + 1, a, hi, _, A, ha => by
    have hn : i < n := by omega
    have h40 := H.lt hn
    have ih := fun a B hB => tree_loop H i f a (by omega) (by omega) B hB
    unfold FL_X1_treeOf_8
    rw [nI_pred, if_neg (nI_pos (by omega)), x3_isIn a (by omega), oB_some, ha i (by omega)]
    show ∃ V, _ ∧ ∀ j, j < 64 → bl V j = trl u i (fun j => A j || (A i && pa u i j)) j
    cases hb : A i
    · rw [if_pos (show bI false = 0 from rfl)]
      exact ih a _ (fun j hj => by rw [ha j hj]; simp)
    · rw [if_neg (show ¬ bI true = 0 by decide), aS (by decide) h40, oB_some, aS (by decide) h40]
      rcases (H.cl hn).2.2.2 with ⟨e3, e4, _⟩ | ⟨p, b, c, d, da, db, hp, hb2, _, e3, e4, _⟩
      · simp only [e3, e4, set_m1, oB_some, or_z]
        refine ih a _ (fun j hj => ?_)
        unfold pa
        rw [e3, e4, decide_eq_false (fun q => ge0 (k := j) (by omega) q.symm), ha j hj]
        simp
      · simp only [e3, e4, set_nI (show p < 2 ^ 31 by omega), set_nI (show b < 2 ^ 31 by omega), oB_some]
        refine ih _ _ (fun j hj => ?_)
        rw [l_or, l_or, one_k (by omega) hj, one_k (by omega) hj, ha j hj]
        unfold pa
        rw [e3, e4, Bool.true_and]
        have q1 : decide (nI p = nI j) = decide (j = p) := by
          exact decide_eq_decide.mpr ((nI_eq (by omega) (by omega)).trans eq_comm)
        have q2 : decide (nI b = nI j) = decide (j = b) := by
          exact decide_eq_decide.mpr ((nI_eq (by omega) (by omega)).trans eq_comm)
        rw [q1, q2]
/-- the tree of q, as bits -/
def tb (u : St) (q j : Nat) : Bool := trl u (q + 1) (fun j => decide (j = q)) j
theorem tree_eq {u : St} {n q : Nat} (H : Cs u n) (hq : q < n) : ∃ V, F_X1_treeOf u (nI q) = some V ∧ ∀ j, j < 64 → bl V j = tb u q j := by
  have h40 := H.lt hq
  unfold F_X1_treeOf
  rw [set_nI (by omega), oB_some]
  obtain ⟨V, h1, h2⟩ := tree_loop H (q + 1) fuel ((1 : Int64) <<< ((nI q).toInt64 &&& 63)) (by omega) (by have := H.f; omega) (fun j => decide (j = q)) (fun j hj => one_k (by omega) hj)
  rw [nI_pred] at h1
  exact ⟨V, h1, h2⟩
theorem tb_made {u : St} {q x y : Nat} (hx : x < q) (hy : y < q) (h40 : q < 40) (e3 : u.1 3 q = nI x) (e4 : u.1 4 q = nI y) {j : Nat} (hj : j < 64) : tb u q j = (tb u x j || tb u y j || decide (j = q)) := by
  have low : ∀ {z}, z < q → trl u q (fun j => decide (j = z)) j = tb u z j := fun {z} hz => by
    have := trl_no u (q - (z + 1)) (z + 1) (fun j => decide (j = z)) j (fun k h1 _ => decide_eq_false (by omega))
    rw [show z + 1 + (q - (z + 1)) = q by omega] at this
    exact this
  have own : trl u q (fun j => decide (j = q)) j = decide (j = q) := by
    have := trl_no u q 0 (fun j => decide (j = q)) j (fun k _ h2 => decide_eq_false (by omega))
    rw [Nat.zero_add] at this
    exact this
  show trl u q (fun j => decide (j = q) || (decide (q = q) && pa u q j)) j = _
  have e : trl u q (fun j => decide (j = q) || (decide (q = q) && pa u q j)) j = trl u q (fun j => decide (j = q) || pa u q j) j := trl_cg u q j (fun z => by rw [decide_eq_true (rfl : q = q), Bool.true_and])
  rw [e, trl_or u q, own]
  -- the parents, below 64 and beyond
  have hp : trl u q (pa u q) j = (tb u x j || tb u y j) := by
    rw [← low hx, ← low hy, ← trl_or u q]
    -- pa at places over 2^31 may repeat: only places below q matter
    have key : ∀ i, i ≤ 64 → ∀ (a b : Nat → Bool), (∀ z, z < 64 → a z = b z) → ∀ z, z < 64 → trl u i a z = trl u i b z := by
      intro i
      induction i with
      | zero => intro _ a b h z hz; exact h z hz
      | succ i ih =>
        intro hi a b h z hz
        refine ih (by omega) _ _ (fun w hw => ?_) z hz
        rw [h w hw, h i (by omega)]
    refine key q (by omega) _ _ (fun z hz => ?_) j hj
    unfold pa
    rw [e3, e4]
    congr 1
    · exact decide_eq_decide.mpr ((nI_eq (by omega) (by omega)).trans eq_comm)
    · exact decide_eq_decide.mpr ((nI_eq (by omega) (by omega)).trans eq_comm)
  rw [hp]
  cases tb u x j <;> cases tb u y j <;> cases decide (j = q) <;> rfl
/-! the fewest -/
theorem few_loop {u : St} {n : Nat} (H : Cs u n) : ∀ d f i a, i + d = n → d < f → ∃ V, FL_X1_fewestUnfulfillable_5 u f a (nI i) = some V ∧ ∀ j, j < 64 → bl V j = true → bl a j = true
  | d, 0, _, _, _, h => absurd h (by omega)
  | 0, f + 1, i, a, hi, _ => by
    have : i = n := by omega
    subst this
    unfold FL_X1_fewestUnfulfillable_5
    rw [H.2.1, if_pos (end_le _)]
    exact ⟨a, rfl, fun _ _ h => h⟩
  | d + 1, f + 1, i, a, hi, _ => by
    have hn : i < n := by omega
    have h40 := H.lt hn
    have ih := fun a => few_loop H d f (i + 1) a (by omega) (by omega)
    unfold FL_X1_fewestUnfulfillable_5
    rw [H.2.1, if_neg (H.ge hn), set_nI (by omega), oB_some, nI_1]
    obtain ⟨W, h1, _⟩ := vf H (a &&& ((1 : Int64) <<< ((nI i).toInt64 &&& 63) ^^^ (-1)))
    rw [h1, oB_some]
    by_cases h : lg_cmp W 0 = 0
    · rw [if_pos h]
      obtain ⟨V, v1, v2⟩ := ih (a &&& ((1 : Int64) <<< ((nI i).toInt64 &&& 63) ^^^ (-1)))
      refine ⟨V, v1, fun j hj hb => ?_⟩
      have := v2 j hj hb
      rw [l_and, Bool.and_eq_true] at this
      exact this.1
    · rw [if_neg h]
      exact ih a
theorem few_eq {u : St} {n : Nat} (H : Cs u n) (a : Int64) : ∃ V, F_X1_fewestUnfulfillable u a = some V ∧ ∀ j, j < 64 → bl V j = true → bl a j = true :=
  few_loop H n fuel 0 a (by omega) H.f
