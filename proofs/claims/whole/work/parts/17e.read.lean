/-! What is read of the clauses -/
theorem Rc.cl {u : St} {s : Nat → Int32} {n k : Nat} (H : Rc u s n) (hk : k < n) : Cl u s k := H.2.2.2.2.2.2.2.2.2 k hk
theorem Rc.lt {u : St} {s : Nat → Int32} {n k : Nat} (H : Rc u s n) (hk : k < n) : k < 40 := by have := H.1; omega
theorem Rc.o0 {u y : St} {n k : Nat} (H : Rc u (y.1 0) n) (hk : k < n) : F_X4_of y (nI k) 0 = some (u.1 1 k) := (of0 y (H.lt hk)).trans (by rw [(H.cl hk).2.1])
theorem Rc.o1 {u y : St} {n k : Nat} (H : Rc u (y.1 0) n) (hk : k < n) : F_X4_of y (nI k) 1 = some (u.1 2 k) := (of1 y (H.lt hk)).trans (by rw [(H.cl hk).2.2.1])
theorem Rc.o2 {u y : St} {n k : Nat} (H : Rc u (y.1 0) n) (hk : k < n) : F_X4_of y (nI k) 2 = some (u.1 3 k + 1) := (of2 y (H.lt hk)).trans (by rw [(H.cl hk).2.2.2.2.1])
theorem Rc.o3 {u y : St} {n k : Nat} (H : Rc u (y.1 0) n) (hk : k < n) : F_X4_of y (nI k) 3 = some (u.1 4 k + 1) := (of3 y (H.lt hk)).trans (by rw [(H.cl hk).2.2.2.2.2.1])
theorem Rc.o4 {u y : St} {n k : Nat} (H : Rc u (y.1 0) n) (hk : k < n) : F_X4_of y (nI k) 4 = some (u.1 5 k) := (of4 y (H.lt hk)).trans (by rw [(H.cl hk).2.2.2.2.2.2.1])
theorem Rc.o5 {u y : St} {n k : Nat} (H : Rc u (y.1 0) n) (hk : k < n) : F_X4_of y (nI k) 5 = some (u.1 6 k) := (of5 y (H.lt hk)).trans (by rw [(H.cl hk).2.2.2.2.2.2.2.1])
theorem Rc.n4 {u y : St} {n : Nat} (H : Rc u (y.1 0) n) : aLd (y.1 0) (lnM 0) 0 = some (nI n) := ldM0.trans (by rw [H.2.2.1])
theorem Rc.dr {u : St} {s : Nat → Int32} {n k : Nat} (H : Rc u s n) (hk : k < n) : F_X1_isDropped u (nI k) = some (bI (decide (u.1 2 k = 2))) := by
  unfold F_X1_isDropped
  rw [aS (by decide) (H.lt hk), oB_some]
  by_cases h : u.1 2 k = 2
  · rw [if_pos h, decide_eq_true h]; rfl
  · rw [if_neg h, decide_eq_false h]; rfl
theorem Rc.ke {u y : St} {n k : Nat} (H : Rc u (y.1 0) n) (hk : k < n) : F_X4_isKept y (nI k) = some (bI (!decide (u.1 2 k = 2))) := by
  unfold F_X4_isKept
  rw [H.o1 hk, oB_some]
  by_cases h : u.1 2 k = 2
  · rw [if_pos h, decide_eq_true h]; rfl
  · rw [if_neg h, decide_eq_false h]; rfl
theorem end_le (n : Nat) : nI n ≤ nI n := by rw [Int32.le_iff_toInt_le]; exact Int.le_refl _
theorem go_nle {n i : Nat} (hn : n ≤ 64) (h : i < n) : ¬ nI n ≤ nI i := nI_ge h (by omega)
theorem Rc.ge {u : St} {s : Nat → Int32} {n i : Nat} (H : Rc u s n) (h : i < n) : ¬ nI n ≤ nI i := nI_ge h (by have := H.1; omega)
theorem hm_loop {u y : St} {n : Nat} (H : Rc u (y.1 0) n) (x : Int32) : ∀ d f g i a, i + d = n → d < f → d < g → ∃ v, FL_X1_howMany_4 u f x a (nI i) = some v ∧ FL_X4_withStatus_4 y g x a (nI i) = some v
  | d, 0, _, _, _, _, h, _ => absurd h (by omega)
  | d, _ + 1, 0, _, _, _, _, h => absurd h (by omega)
  | 0, f + 1, g + 1, i, a, hi, _, _ => by
    have : i = n := by omega
    subst this
    unfold FL_X1_howMany_4 FL_X4_withStatus_4
    rw [H.2.1, H.n4, oB_some, if_pos (end_le _), if_pos (end_le _)]
    exact ⟨a, rfl, rfl⟩
  | d + 1, f + 1, g + 1, i, a, hi, _, _ => by
    have hn : i < n := by omega
    unfold FL_X1_howMany_4 FL_X4_withStatus_4
    rw [H.2.1, H.n4, oB_some, if_neg (H.ge hn), if_neg (H.ge hn), aS (by decide) (H.lt hn), H.o1 hn, oB_some, oB_some, nI_1]
    by_cases h : u.1 2 i = x
    · rw [if_pos h, if_pos h]
      exact hm_loop H x d f g (i + 1) _ (by omega) (by omega) (by omega)
    · rw [if_neg h, if_neg h]
      exact hm_loop H x d f g (i + 1) _ (by omega) (by omega) (by omega)
theorem how_eq {u y : St} {n : Nat} (H : Rc u (y.1 0) n) (x : Int32) : ∃ v, F_X1_howMany u x = some v ∧ F_X4_withStatus y x = some v :=
  hm_loop H x n fuel fuel 0 0 (by omega) (by have := H.1; unfold fuel; omega) (by have := H.1; unfold fuel; omega)
theorem add_z (a : Int32) : a + 0 = a := Int32.add_zero a
theorem le_loop {u y : St} {n : Nat} (H : Rc u (y.1 0) n) {q : Nat} (hq : q < n) : ∀ d f g i a, i + d = n → d < f → d < g → ∃ v, FL_X1_howManyLessThan_4 u f (nI q) a (nI i) = some v ∧ FL_X4_lessOnes_4 y g (nI q) a (nI i) = some v
  | d, 0, _, _, _, _, h, _ => absurd h (by omega)
  | d, _ + 1, 0, _, _, _, _, h => absurd h (by omega)
  | 0, f + 1, g + 1, i, a, hi, _, _ => by
    have : i = n := by omega
    subst this
    unfold FL_X1_howManyLessThan_4 FL_X4_lessOnes_4
    rw [H.2.1, H.n4, oB_some, if_pos (end_le _), if_pos (end_le _)]
    exact ⟨a, rfl, rfl⟩
  | d + 1, f + 1, g + 1, i, a, hi, _, _ => by
    have hn : i < n := by omega
    obtain ⟨r, ρ, hr⟩ := H.2.2.2.2.2.2.2.2.1
    obtain ⟨z, hz1, hz2⟩ := less_eq hr (u.1 1 i) (u.1 1 q)
    have ih := fun a => le_loop H hq d f g (i + 1) a (by omega) (by omega) (by omega)
    unfold FL_X1_howManyLessThan_4 FL_X4_lessOnes_4
    rw [H.2.1, H.n4, oB_some, if_neg (H.ge hn), if_neg (H.ge hn), H.dr hn, H.ke hn, oB_some, oB_some, aS (by decide) (H.lt hn), aS (by decide) (H.lt hq), H.o0 hn, H.o0 hq, oB_some, oB_some, oB_some, oB_some, hz1, hz2, oB_some, oB_some, nI_1, add_z]
    cases decide (u.1 2 i = 2)
    · cases z
      · exact ih a
      · exact ih (a + 1)
    · exact ih a
theorem less_ones {u y : St} {n : Nat} (H : Rc u (y.1 0) n) {q : Nat} (hq : q < n) : ∃ v, F_X1_howManyLessThan u (nI q) = some v ∧ F_X4_lessOnes y (nI q) = some v :=
  le_loop H hq n fuel fuel 0 0 (by omega) (by have := H.1; unfold fuel; omega) (by have := H.1; unfold fuel; omega)
/-- the empty clause, if there is one -/
def eC (u : St) (n : Nat) : Int32 := if 0 < n ∧ u.1 1 (n - 1) = 0 then nI (n - 1) else -1
theorem e1_loop {u : St} {s : Nat → Int32} {n : Nat} (H : Rs u s n) : ∀ d f i, i + d = n → d < f → FL_X1_emptyClause_2 u f (nI i) = some (if i < n ∧ u.1 1 (n - 1) = 0 then nI (n - 1) else -1)
  | d, 0, _, _, h => absurd h (by omega)
  | 0, f + 1, i, hi, _ => by
    have : i = n := by omega
    subst this
    unfold FL_X1_emptyClause_2
    rw [H.1.2.1, if_pos (end_le _), if_neg (fun h => absurd h.1 (by omega))]
  | d + 1, f + 1, i, hi, _ => by
    have hn : i < n := by omega
    unfold FL_X1_emptyClause_2
    rw [H.1.2.1, if_neg (H.1.ge hn), aS (by decide) (H.1.lt hn), oB_some, nI_1, e1_loop H d f (i + 1) (by omega) (by omega)]
    by_cases h : u.1 1 i = 0
    · have := (H.2 i hn h).1
      rw [if_pos h, if_pos ⟨hn, by rw [show n - 1 = i by omega]; exact h⟩, show n - 1 = i by omega]
    · rw [if_neg h]
      by_cases h2 : i + 1 < n
      · by_cases h3 : u.1 1 (n - 1) = 0
        · rw [if_pos ⟨h2, h3⟩, if_pos ⟨hn, h3⟩]
        · rw [if_neg (fun q => h3 q.2), if_neg (fun q => h3 q.2)]
      · rw [if_neg (fun q => h2 q.1), if_neg (fun q => h (by rw [show i = n - 1 by omega]; exact q.2))]
theorem e4_loop {u y : St} {n : Nat} (H : Rs u (y.1 0) n) : ∀ d f i a, i + d = n → d < f → FL_X4_empties_4 y f a (nI i) = some (if i < n ∧ u.1 1 (n - 1) = 0 then nI (n - 1) else a)
  | d, 0, _, _, _, h => absurd h (by omega)
  | 0, f + 1, i, a, hi, _ => by
    have : i = n := by omega
    subst this
    unfold FL_X4_empties_4
    rw [H.1.n4, oB_some, if_pos (end_le _), if_neg (fun h => absurd h.1 (by omega))]
  | d + 1, f + 1, i, a, hi, _ => by
    have hn : i < n := by omega
    unfold FL_X4_empties_4
    rw [H.1.n4, oB_some, if_neg (H.1.ge hn), H.1.o0 hn, oB_some, nI_1, e4_loop H d f (i + 1) _ (by omega) (by omega), e4_loop H d f (i + 1) _ (by omega) (by omega)]
    by_cases h : u.1 1 i = 0
    · have := (H.2 i hn h).1
      rw [if_pos h, if_neg (fun q => absurd q.1 (by omega)), if_pos ⟨hn, by rw [show n - 1 = i by omega]; exact h⟩, show n - 1 = i by omega]
    · rw [if_neg h]
      by_cases h2 : i + 1 < n
      · by_cases h3 : u.1 1 (n - 1) = 0
        · rw [if_pos ⟨h2, h3⟩, if_pos ⟨hn, h3⟩]
        · rw [if_neg (fun q => h3 q.2), if_neg (fun q => h3 q.2)]
      · rw [if_neg (fun q => h2 q.1), if_neg (fun q => h (by rw [show i = n - 1 by omega]; exact q.2))]
theorem Rs.f {u : St} {s : Nat → Int32} {n : Nat} (H : Rc u s n) : n < fuel := by have := H.1; unfold fuel; omega
theorem empty1 {u : St} {s : Nat → Int32} {n : Nat} (H : Rs u s n) : F_X1_emptyClause u = some (eC u n) := e1_loop H n fuel 0 (by omega) (Rs.f H.1)
theorem empty4 {u y : St} {n : Nat} (H : Rs u (y.1 0) n) : F_X4_empties y = some (eC u n) := e4_loop H n fuel 0 (-1) (by omega) (Rs.f H.1)
theorem set_nI {k : Nat} (h : k < 2 ^ 31) : F_X3_setOf (nI k) = some ((1 : Int64) <<< ((nI k).toInt64 &&& 63)) := by
  unfold F_X3_setOf
  rw [if_pos (nI_pos' h)]
theorem set_m1 : F_X3_setOf (-1) = some 0 := by
  unfold F_X3_setOf
  rw [if_neg (by decide)]
theorem m1_0 (a : Int32) : a + 1 = 0 ↔ a = -1 := by
  constructor
  · intro h
    have := congrArg (fun z => z - 1) h
    simpa using this
  · intro h
    rw [h]
    decide
theorem told_loop {u y : St} {n : Nat} (H : Rc u (y.1 0) n) : ∀ d f g i a, i + d = n → d < f → d < g → ∃ v, FL_X1_toldClauses_4 u f a (nI i) = some v ∧ FL_X4_toldOnes_4 y g a (nI i) = some v
  | d, 0, _, _, _, _, h, _ => absurd h (by omega)
  | d, _ + 1, 0, _, _, _, _, h => absurd h (by omega)
  | 0, f + 1, g + 1, i, a, hi, _, _ => by
    have : i = n := by omega
    subst this
    unfold FL_X1_toldClauses_4 FL_X4_toldOnes_4
    rw [H.2.1, H.n4, oB_some, if_pos (end_le _), if_pos (end_le _)]
    exact ⟨a, rfl, rfl⟩
  | d + 1, f + 1, g + 1, i, a, hi, _, _ => by
    have hn : i < n := by omega
    have ih := fun a => told_loop H d f g (i + 1) a (by omega) (by omega) (by omega)
    unfold FL_X1_toldClauses_4 FL_X4_toldOnes_4 F_X1_wasTold
    rw [H.2.1, H.n4, oB_some, if_neg (H.ge hn), if_neg (H.ge hn), aS (by decide) (H.lt hn), oB_some, H.o2 hn, oB_some, set_nI (by have := H.lt hn; omega), nI_1]
    by_cases h : u.1 3 i = -1
    · rw [if_pos h, if_pos ((m1_0 _).mpr h)]
      exact ih _
    · rw [if_neg h, if_neg (fun q => h ((m1_0 _).mp q))]
      exact ih _
theorem told_eq {u y : St} {n : Nat} (H : Rc u (y.1 0) n) : ∃ v, F_X1_toldClauses u = some v ∧ F_X4_toldOnes y = some v :=
  told_loop H n fuel fuel 0 0 (by omega) (Rs.f H) (Rs.f H)
