/-! The asking operations -/
theorem has_eq {u y : St} {n : Nat} (H : Rc u (y.1 0) n) (p : Int32) : (∃ k, k < n ∧ p = nI k ∧ F_X1_has u p = some 1 ∧ F_X4_isClause y p = some 1) ∨ (F_X1_has u p = some 0 ∧ F_X4_isClause y p = some 0) := by
  have h40 := H.1
  unfold F_X1_has F_X4_isClause
  rw [H.2.1, H.n4, oB_some, in_eq, oB_some]
  by_cases h0 : p < 0
  · rw [if_pos h0, if_pos h0]
    exact Or.inr ⟨rfl, rfl⟩
  obtain ⟨j, hj, e⟩ := nI_of h0
  subst e
  by_cases h1 : n ≤ j
  · rw [if_neg h0, if_pos (nI_le h1 hj)]
    have h2 : nI n - 1 < nI j := by
      cases n with
      | zero => rw [Int32.lt_iff_toInt_lt, nI_toInt hj]; show (-1 : Int) < _; omega
      | succ m => rw [nI_pred]; exact nI_lt (by omega) hj
    rw [if_neg h0, if_pos h2]
    exact Or.inr ⟨rfl, rfl⟩
  · rw [if_neg h0, if_neg (nI_ge (by omega) (by omega))]
    have h2 : ¬ nI n - 1 < nI j := by
      cases n with
      | zero => exact absurd (Nat.zero_le j) h1
      | succ m => rw [nI_pred]; exact nI_nlt (by omega) (by omega)
    rw [if_neg h0, if_neg h2]
    exact Or.inl ⟨j, by omega, rfl, rfl, rfl⟩
theorem found_nI {k : Nat} (h : k < 2 ^ 31) : F_X3_foundOrNot (nI k) = some (nI k) := by
  unfold F_X3_foundOrNot
  rw [if_pos (nI_pos' h)]
theorem found_m1 : F_X3_foundOrNot (-1) = some (-1000004) := by
  unfold F_X3_foundOrNot
  rw [if_neg (by decide)]
theorem no_bits {m : Nat} (hm : m < 4096) (h : ∀ L, L < 12 → bt (nI m) L = false) : nI m = 0 := by
  apply b_ext
  intro i hi
  rw [b_0]
  by_cases hL : i < 12
  · exact h i hL
  · rw [bt_nI m hi]
    exact Nat.testBit_lt_two_pow (Nat.lt_of_lt_of_le hm (Nat.pow_le_pow_right (n := 2) (by decide) (show 12 ≤ i by omega)))
theorem ge0 {k : Nat} (h : k < 2 ^ 31) : ¬ nI k = -1 := fun e => by
  have := nI_pos (n := k) h
  rw [e] at this
  exact this (by decide)
theorem gr_cl {u y : St} {n k : Nat} (H : Rc u (y.1 0) n) (hk : k < n) : (u.1 1 k = 0 ∧ F_X1_greatestOf u (u.1 1 k) = some (-1) ∧ F_X4_greatest y (u.1 1 k) = some (-1)) ∨ ∃ L, L < 12 ∧ ¬ u.1 1 k = 0 ∧ F_X1_greatestOf u (u.1 1 k) = some (nI L) ∧ F_X4_greatest y (u.1 1 k) = some (nI L) := by
  obtain ⟨r, ρ, hr⟩ := H.2.2.2.2.2.2.2.2.1
  obtain ⟨m, hm, e, _⟩ := (H.cl hk).1
  rcases gr_eq hr (u.1 1 k) with ⟨h1, h2, h3⟩ | ⟨L, hL, hb, h1, h2⟩
  · exact Or.inl ⟨by rw [e]; exact no_bits hm (by rw [← e]; exact h3), h1, h2⟩
  · refine Or.inr ⟨L, hL, fun q => ?_, h1, h2⟩
    rw [q, b_0] at hb
    cases hb
theorem par_eq {u y : St} {n k : Nat} (H : Rc u (y.1 0) n) (hk : k < n) : (∃ v, (oB (F_X3_foundOrNot (u.1 3 k)) fun v20 => some v20) = some v ∧ F_X4_parentOf y (nI k) 3 = some v) ∧ (∃ v, (oB (F_X3_foundOrNot (u.1 4 k)) fun v20 => some v20) = some v ∧ F_X4_parentOf y (nI k) 4 = some v) ∧ (∃ v, (oB (F_X3_foundOrNot (u.1 5 k)) fun v20 => some v20) = some v ∧ F_X4_parentOf y (nI k) 5 = some v) := by
  have h40 := H.lt hk
  have s31 : (3 : Int32) - 1 = 2 := by decide
  have s41 : (4 : Int32) - 1 = 3 := by decide
  unfold F_X4_parentOf
  rw [H.o2 hk, oB_some, s31, s41, H.o2 hk, H.o3 hk, H.o4 hk]
  rcases (H.cl hk).2.2.2.2.2.2.2.2 with ⟨e3, e4, e5⟩ | ⟨p, b, c, hp, hb2, hc, e3, e4, e5⟩
  · rw [e3, e4, e5, found_m1]
    exact ⟨⟨_, rfl, rfl⟩, ⟨_, rfl, rfl⟩, ⟨_, rfl, rfl⟩⟩
  · have hz : ¬ nI p + 1 = 0 := fun q => ge0 (k := p) (by omega) ((m1_0 _).mp q)
    rw [e3, e4, e5, found_nI (by omega), found_nI (by omega), found_nI (by omega)]
    simp only [if_neg hz, oB_some, add_sub1]
    exact ⟨⟨_, rfl, rfl⟩, ⟨_, rfl, rfl⟩, ⟨_, rfl, rfl⟩⟩
theorem Rc.o0' {u y : St} {n k : Nat} (H : Rc u (y.1 0) n) (hk : k < n) : (oB (F_X4_of y (nI k) 0) fun v => some v) = some (u.1 1 k) := by rw [H.o0 hk]; rfl
theorem Rc.o1' {u y : St} {n k : Nat} (H : Rc u (y.1 0) n) (hk : k < n) : (oB (F_X4_of y (nI k) 1) fun v => some v) = some (u.1 2 k) := by rw [H.o1 hk]; rfl
theorem sim_clauseOf {x : XS} {y : St} {n : Nat} (H : Rs x.1 (y.1 0) n) (p q : Int32) : ∃ v, F_X3_clauseOf x p q = some v ∧ F_X4_clauseOf y p q = some v := by
  have Hc := H.1
  unfold F_X3_clauseOf F_X4_clauseOf
  rcases has_eq Hc p with ⟨k, hk, e, h1, h2⟩ | ⟨h1, h2⟩
  · rw [h1, h2, oB_some, oB_some, if_neg (show ¬ (1 : Int32) = 0 by decide), if_neg (show ¬ (1 : Int32) = 0 by decide), in_eq, oB_some]
    subst e
    have h40 := Hc.lt hk
    rw [aS (f := x.1.1 1) (j := 1) (by decide) h40, aS (f := x.1.1 2) (j := 2) (by decide) h40, aS (f := x.1.1 3) (j := 3) (by decide) h40, aS (f := x.1.1 4) (j := 4) (by decide) h40, aS (f := x.1.1 5) (j := 5) (by decide) h40, aS (f := x.1.1 6) (j := 6) (by decide) h40, Hc.o5 hk]
    simp only [oB_some]
    obtain ⟨⟨v3, a3, b3⟩, ⟨v4, a4, b4⟩, ⟨v5, a5, b5⟩⟩ := par_eq Hc hk
    by_cases q0 : q = 0
    · subst q0
      exact ⟨_, rfl, Hc.o0' hk⟩
    by_cases q1 : q = 1
    · subst q1
      exact ⟨_, rfl, Hc.o1' hk⟩
    by_cases q2 : q = 2
    · subst q2
      rcases gr_cl Hc hk with ⟨g0, g1, g2⟩ | ⟨L, hL, g0, g1, g2⟩
      · refine ⟨-1000004, ?_, ?_⟩
        · show (oB (F_X1_greatestOf x.1 (x.1.1 1 k)) fun v13 => oB (F_X3_foundOrNot v13) fun v15 => some v15) = _
          rw [g1, oB_some, found_m1]
          rfl
        · show (oB (F_X4_of y (nI k) 0) fun v14 => if v14 = 0 then some (-1000004) else oB (F_X4_of y (nI k) 0) fun v17 => oB (F_X4_greatest y v17) fun v19 => some v19) = _
          rw [Hc.o0 hk, oB_some, if_pos g0]
      · refine ⟨nI L, ?_, ?_⟩
        · show (oB (F_X1_greatestOf x.1 (x.1.1 1 k)) fun v13 => oB (F_X3_foundOrNot v13) fun v15 => some v15) = _
          rw [g1, oB_some, found_nI (by omega)]
          rfl
        · show (oB (F_X4_of y (nI k) 0) fun v14 => if v14 = 0 then some (-1000004) else oB (F_X4_of y (nI k) 0) fun v17 => oB (F_X4_greatest y v17) fun v19 => some v19) = _
          rw [Hc.o0 hk, oB_some, if_neg g0, oB_some, g2]
          rfl
    by_cases q3 : q = 3
    · subst q3
      refine ⟨v3, a3, ?_⟩
      show (oB (F_X4_parentOf y (nI k) 3) fun v22 => some v22) = _
      rw [b3]
      rfl
    by_cases q4 : q = 4
    · subst q4
      refine ⟨v4, a4, ?_⟩
      show (oB (F_X4_parentOf y (nI k) 4) fun v22 => some v22) = _
      rw [b4]
      rfl
    by_cases q5 : q = 5
    · subst q5
      refine ⟨v5, a5, ?_⟩
      show (oB (F_X4_parentOf y (nI k) 5) fun v22 => some v22) = _
      rw [b5]
      rfl
    by_cases q6 : q = 6
    · subst q6
      obtain ⟨w, hw, e1, e2⟩ := ones_cl Hc hk
      refine ⟨nI w, ?_, ?_⟩
      · show (oB (F_J6_bitCount_0f7a4 (x.1.1 1 k)) fun v35 => some v35) = _
        rw [e1]
        rfl
      · show (oB (F_X4_of y (nI k) 0) fun v31 => oB (F_X4_ones v31) fun v33 => some v33) = _
        rw [Hc.o0 hk, oB_some, e2]
        rfl
    by_cases q7 : q = 7
    · subst q7
      obtain ⟨w, e1, e2⟩ := less_ones Hc hk
      refine ⟨w, ?_, ?_⟩
      · show (oB (F_X1_howManyLessThan x.1 (nI k)) fun v35 => some v35) = _
        rw [e1]
        rfl
      · show (oB (F_X4_lessOnes y (nI k)) fun v33 => some v33) = _
        rw [e2]
        rfl
    by_cases q8 : q = 8
    · subst q8
      refine ⟨x.1.1 6 k, ?_, ?_⟩
      · rfl
      · rfl
    · have hin : (if q < 0 then (0 : Int32) else if 8 < q then 0 else 1) = 0 := by
        by_cases c1 : q < 0
        · rw [if_pos c1]
        · by_cases c2 : 8 < q
          · rw [if_neg c1, if_pos c2]
          · exfalso
            obtain ⟨j, hj, e⟩ := nI_of2 (M := 8) (n := 8) rfl c1 ((le_lt q 8).mpr c2)
            rcases (show j = 0 ∨ j = 1 ∨ j = 2 ∨ j = 3 ∨ j = 4 ∨ j = 5 ∨ j = 6 ∨ j = 7 ∨ j = 8 by omega) with h | h | h | h | h | h | h | h | h <;> subst h
            · exact q0 e
            · exact q1 e
            · exact q2 e
            · exact q3 e
            · exact q4 e
            · exact q5 e
            · exact q6 e
            · exact q7 e
            · exact q8 e
      rw [if_neg q0, if_neg q1, if_neg q2, if_neg q3, if_neg q4, if_neg q5, if_neg q6, if_neg q7, if_neg q8, if_pos hin]
      exact ⟨_, rfl, rfl⟩
  · rw [h1, h2]
    exact ⟨_, rfl, rfl⟩
theorem sim_tree {x : XS} {y : St} {n : Nat} (H : Rs x.1 (y.1 0) n) (p : Int32) : ∃ v, F_X3_tree x p = some v ∧ F_X4_tree y p = some v := by
  unfold F_X3_tree F_X4_tree
  rcases has_eq H.1 p with ⟨k, hk, e, h1, h2⟩ | ⟨h1, h2⟩
  · rw [h1, h2, oB_some, oB_some, if_neg (show ¬ (1 : Int32) = 0 by decide), if_neg (show ¬ (1 : Int32) = 0 by decide)]
    subst e
    obtain ⟨v, a, b, _⟩ := tree_eq H.1 hk
    rw [a, b]
    exact ⟨_, rfl, rfl⟩
  · rw [h1, h2]
    exact ⟨_, rfl, rfl⟩
theorem sim_widest {x : XS} {y : St} {n : Nat} (H : Rs x.1 (y.1 0) n) (p : Int32) : ∃ v, F_X3_widest x p = some v ∧ F_X4_widest y p = some v := by
  unfold F_X3_widest F_X4_widest
  rcases has_eq H.1 p with ⟨k, hk, e, h1, h2⟩ | ⟨h1, h2⟩
  · rw [h1, h2, oB_some, oB_some, if_neg (show ¬ (1 : Int32) = 0 by decide), if_neg (show ¬ (1 : Int32) = 0 by decide)]
    subst e
    exact widest_eq H.1 hk
  · rw [h1, h2]
    exact ⟨_, rfl, rfl⟩
theorem eC_or {u : St} {s : Nat → Int32} {n : Nat} (H : Rc u s n) : eC u n = -1 ∨ ∃ k, k < n ∧ k + 1 = n ∧ u.1 1 k = 0 ∧ eC u n = nI k := by
  unfold eC
  by_cases h : 0 < n ∧ u.1 1 (n - 1) = 0
  · rw [if_pos h]
    exact Or.inr ⟨n - 1, by omega, by omega, h.2, rfl⟩
  · rw [if_neg h]
    exact Or.inl rfl
theorem sim_refutation {x : XS} {y : St} {n : Nat} (H : Rs x.1 (y.1 0) n) : ∃ v, F_X3_refutation x = some v ∧ F_X4_refutation y = some v := by
  unfold F_X3_refutation F_X4_refutation
  rw [empty1 H, empty4 H, oB_some, oB_some]
  rcases eC_or H.1 with e | ⟨k, hk, _, _, e⟩
  · rw [e, found_m1]
    exact ⟨_, rfl, rfl⟩
  · have := H.1.lt hk
    rw [e, found_nI (by omega), if_pos (nI_pos' (by omega))]
    exact ⟨_, rfl, rfl⟩
theorem sim_models {x : XS} {y : St} {n : Nat} (H : Rs x.1 (y.1 0) n) : ∃ v, F_X3_models x = some v ∧ F_X4_models y = some v := by
  unfold F_X3_models F_X4_models
  obtain ⟨T, t1, t2⟩ := told_eq H.1
  obtain ⟨V, m, hm, h1, h2, h3, _, _⟩ := none_eq H.1 T
  rw [t1, t2, oB_some, oB_some, h1, h2, oB_some, h3]
  exact ⟨_, rfl, rfl⟩
theorem mod_loop {x : XS} {y : St} {V S : Int64} (hf : ∀ v, v < 64 → F_X4_fulfils y (nI v) S = some (bI (bl V v))) (q : Int32) : ∀ d f g i a, i + d = 64 → d < f → d < g → ∃ v, FL_X3_model_28 x f q V a (nI i) = some v ∧ FL_X4_model_18 y g q S a (nI i) = some v
  | d, 0, _, _, _, _, h, _ => absurd h (by omega)
  | d, _ + 1, 0, _, _, _, _, h => absurd h (by omega)
  | 0, f + 1, g + 1, i, a, hi, _, _ => by
    have : i = 64 := by omega
    subst this
    unfold FL_X3_model_28 FL_X4_model_18
    rw [if_pos (by decide), if_pos (by decide)]
    exact ⟨_, rfl, rfl⟩
  | d + 1, f + 1, g + 1, i, a, hi, _, _ => by
    have h64 : ¬ (64 : Int32) ≤ nI i := fun h => absurd ((nI_leI (a := 64) (b := i) (by decide) (by omega)).mp h) (by omega)
    have ih := fun a => mod_loop (x := x) hf q d f g (i + 1) a (by omega) (by omega) (by omega)
    unfold FL_X3_model_28 FL_X4_model_18
    rw [if_neg h64, if_neg h64, x3_isIn V (by omega), hf i (by omega), oB_some, oB_some, nI_1, add_z]
    cases bl V i
    · exact ih a
    · rw [if_neg (show ¬ bI true = 0 by decide), if_neg (show ¬ bI true = 0 by decide), if_neg (show ¬ bI true = 0 by decide)]
      by_cases h : a = q
      · rw [if_pos h, if_pos h]
        exact ⟨_, rfl, rfl⟩
      · rw [if_neg h, if_neg h]
        exact ih _
theorem sim_model {x : XS} {y : St} {n : Nat} (H : Rs x.1 (y.1 0) n) (p : Int32) : ∃ v, F_X3_model x p = some v ∧ F_X4_model y p = some v := by
  unfold F_X3_model F_X4_model
  obtain ⟨T, t1, t2⟩ := told_eq H.1
  obtain ⟨V, m, hm, h1, _, _, _, h4⟩ := none_eq H.1 T
  by_cases h : 0 ≤ p
  · rw [if_pos h, if_pos h, t1, t2, oB_some, oB_some, h1, oB_some]
    exact mod_loop h4 p 64 fuel fuel 0 0 rfl (by decide) (by decide)
  · rw [if_neg h, if_neg h]
    exact ⟨_, rfl, rfl⟩
theorem sim_broken {x : XS} {y : St} {n : Nat} (H : Rs x.1 (y.1 0) n) (p : Int32) : ∃ v, F_X3_broken x p = some v ∧ F_X4_broken y p = some v := by
  unfold F_X3_broken F_X4_broken
  rw [in_eq, oB_some]
  by_cases h1 : p < 0
  · rw [if_pos h1, if_pos h1]
    exact ⟨_, rfl, rfl⟩
  obtain ⟨j, hj, e⟩ := nI_of h1
  subst e
  by_cases h2 : j < 64
  · rw [if_neg h1, if_neg h1, if_pos (show nI j < 64 from nI_lt (b := 64) h2 (by decide)), if_neg (show ¬ 63 < nI j from nI_nlt (a := 63) (b := j) (by omega) (by decide)), if_neg (show ¬ (1 : Int32) = 0 by decide)]
    obtain ⟨w, a, b⟩ := broken_eq H.1 h2
    rw [a, b]
    exact ⟨_, rfl, rfl⟩
  · rw [if_neg h1, if_neg h1, if_neg (show ¬ nI j < 64 from nI_nlt (a := j) (b := 64) (by omega) hj), if_pos (show 63 < nI j from nI_lt (a := 63) (b := j) (by omega) hj)]
    exact ⟨_, rfl, rfl⟩
theorem core_loop {u y : St} {n : Nat} (H : Rc u (y.1 0) n) : ∀ d f g i S, i + d = n → d < f → d < g → ∃ v, FL_X1_fewestUnfulfillable_5 u f S (nI i) = some v ∧ FL_X4_core_19 y g S (nI i) = some v
  | d, 0, _, _, _, _, h, _ => absurd h (by omega)
  | d, _ + 1, 0, _, _, _, _, h => absurd h (by omega)
  | 0, f + 1, g + 1, i, S, hi, _, _ => by
    have : i = n := by omega
    subst this
    unfold FL_X1_fewestUnfulfillable_5 FL_X4_core_19
    rw [H.2.1, H.n4, oB_some, if_pos (end_le _), if_pos (end_le _)]
    exact ⟨_, rfl, rfl⟩
  | d + 1, f + 1, g + 1, i, S, hi, _, _ => by
    have hn : i < n := by omega
    have h40 := H.lt hn
    have ih := fun S => core_loop H d f g (i + 1) S (by omega) (by omega) (by omega)
    obtain ⟨V, m, hm, h1, h2, _, h4, _⟩ := none_eq H (S &&& (((1 : Int64) <<< ((nI i).toInt64 &&& 63)) ^^^ (-1)))
    unfold FL_X1_fewestUnfulfillable_5 FL_X4_core_19
    rw [H.2.1, H.n4, oB_some, if_neg (H.ge hn), if_neg (H.ge hn), set_nI (by omega), oB_some, h1, h2, oB_some, oB_some, nI_1]
    simp only [cmp_0, h4]
    by_cases hz : m = 0
    · rw [if_pos hz, if_pos (by rw [hz]; exact nI_0)]
      exact ih _
    · rw [if_neg hz, if_neg (nI_ne0 (by omega) (by omega))]
      exact ih _
theorem sim_core {x : XS} {y : St} {n : Nat} (H : Rs x.1 (y.1 0) n) : ∃ v, F_X3_core x = some v ∧ F_X4_core y = some v := by
  unfold F_X3_core F_X4_core
  obtain ⟨T, t1, t2⟩ := told_eq H.1
  obtain ⟨V, m, hm, h1, h2, _, h4, _⟩ := none_eq H.1 T
  rw [t1, t2, oB_some, oB_some, h1, h2, oB_some, oB_some]
  simp only [cmp_0, h4]
  by_cases hz : m = 0
  · subst hz
    rw [if_pos rfl, if_pos (by decide)]
    obtain ⟨v, a, b⟩ := core_loop H.1 n fuel fuel 0 T (by omega) (Rs.f H.1) (Rs.f H.1)
    refine ⟨v, ?_, b⟩
    rw [show F_X1_fewestUnfulfillable x.1 T = some v from a]
    rfl
  · rw [if_neg hz, if_neg (nI_nle (by omega) (by omega))]
    exact ⟨_, rfl, rfl⟩
/-- every value below i that fulfils the told clauses fulfils c -/
def fo (V W : Int64) : Nat → Bool
  | 0 => true
  | i + 1 => fo V W i && (!bl V i || bl W i)
theorem fo_t (V W : Int64) : ∀ n, fo V W n = true ↔ ∀ i, i < n → bl V i = true → bl W i = true
  | 0 => ⟨fun _ i hi => absurd hi (by omega), fun _ => rfl⟩
  | n + 1 => by
    show (fo V W n && (!bl V n || bl W n)) = true ↔ _
    rw [Bool.and_eq_true, fo_t V W n]
    constructor
    · intro h i hi hv
      rcases Nat.lt_succ_iff_lt_or_eq.mp hi with h2 | h2
      · exact h.1 i h2 hv
      · subst h2
        have := h.2
        rw [hv] at this
        exact this
    · intro h
      refine ⟨fun i hi => h i (by omega), ?_⟩
      cases hv : bl V n
      · rfl
      · exact h n (by omega) hv
theorem fol_loop {y : St} {V S W : Int64} {c : Int32} (hf : ∀ v, v < 64 → F_X4_fulfils y (nI v) S = some (bI (bl V v))) (hw : ∀ v, v < 64 → bl W v = sat c v 6) : ∀ d f i b, i + d = 64 → d < f → b = fo V W i → FL_X4_follows_25 y f c S (bI b) (nI i) = some (bI (fo V W 64))
  | d, 0, _, _, _, h, _ => absurd h (by omega)
  | 0, f + 1, i, b, hi, _, hb => by
    have : i = 64 := by omega
    subst this
    unfold FL_X4_follows_25
    rw [if_pos (by decide), ← hb]
    cases b <;> rfl
  | d + 1, f + 1, i, b, hi, _, hb => by
    have h64 : ¬ (64 : Int32) ≤ nI i := fun h => absurd ((nI_leI (a := 64) (b := i) (by decide) (by omega)).mp h) (by omega)
    have ih := fun b2 hb2 => fol_loop hf hw d f (i + 1) b2 (by omega) (by omega) hb2
    have k1 : true = fo V W (i + 1) → FL_X4_follows_25 y f c S 1 (nI (i + 1)) = _ := ih true
    have k0 : false = fo V W (i + 1) → FL_X4_follows_25 y f c S 0 (nI (i + 1)) = _ := ih false
    simp only [fo, ← hb, hw i (by omega)] at k1 k0
    unfold FL_X4_follows_25
    rw [if_neg h64, hf i (by omega), oB_some, isFul, oB_some, nI_1]
    cases b <;> cases h1 : bl V i <;> cases h2 : sat c i 6 <;> rw [h1, h2] at k0 k1 <;> first | exact k1 rfl | exact k0 rfl
theorem sim_follows {x : XS} {y : St} {n : Nat} (H : Rs x.1 (y.1 0) n) (p : Int32) : ∃ v, F_X3_follows x p = some v ∧ F_X4_follows y p = some v := by
  unfold F_X3_follows F_X4_follows
  rw [in_eq, oB_some]
  by_cases h1 : p < 0
  · rw [if_pos h1, if_pos h1]
    exact ⟨_, rfl, rfl⟩
  by_cases h2 : 4095 < p
  · rw [if_neg h1, if_neg h1, if_pos h2, if_neg (fun h => (le_lt p 4095).mp h h2)]
    exact ⟨_, rfl, rfl⟩
  rw [if_neg h1, if_neg h1, if_neg h2, if_pos ((le_lt p 4095).mpr h2), if_neg (by decide)]
  obtain ⟨T, t1, t2⟩ := told_eq H.1
  obtain ⟨V, m, hm, h3, _, _, _, h4⟩ := none_eq H.1 T
  obtain ⟨W, hW, hb⟩ := vals p
  rw [t1, t2, oB_some, oB_some, h3, oB_some, hW, oB_some]
  have hl := fol_loop h4 hb 64 fuel 0 true rfl (by decide) rfl
  refine ⟨_, ?_, hl⟩
  simp only [cmp_0]
  have hi : (V &&& (W ^^^ (-1))) = 0 ↔ fo V W 64 = true := by
    rw [l_of, fo_t]
    constructor
    · intro h i hi hv
      have := h i hi
      rw [l_and, l_xor, l_m1 i hi, hv] at this
      cases hw : bl W i
      · rw [hw] at this; cases this
      · rfl
    · intro h i hi
      rw [l_and, l_xor, l_m1 i hi]
      cases hv : bl V i
      · rfl
      · rw [h i hi hv]; rfl
  by_cases hz : fo V W 64 = true
  · rw [if_pos (hi.mpr hz), hz]
    rfl
  · rw [if_neg (fun q => hz (hi.mp q)), Bool.eq_false_iff.mpr hz]
    rfl
