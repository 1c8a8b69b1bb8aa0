/-! What the asking operations answer -/
theorem eta5 (x : XS) : (x.1, x.2.1, x.2.2.1, x.2.2.2.1, x.2.2.2.2) = x := rfl
theorem eta3 (u : St) : (u.1, u.2.1, u.2.2) = u := rfl
theorem found_nI {k : Nat} (h : k < 2 ^ 31) : F_X3_foundOrNot (nI k) = some (nI k) := by
  unfold F_X3_foundOrNot
  rw [if_pos (nI_pos' h)]
theorem found_m1 : F_X3_foundOrNot (-1) = some (-1000004) := by
  unfold F_X3_foundOrNot
  rw [if_neg (by decide)]
theorem has_y {u : St} {n k : Nat} (H : Nn u n) (hk : k < n) : F_X1_has u (nI k) = some 1 := by
  have := H.lt hk
  unfold F_X1_has
  rw [H.2.1, if_neg (nI_pos (by omega)), if_neg (H.ge hk)]
/-- rank of an atom -/
theorem rank_loop {u : St} {r ρ : Nat → Nat} (h : Rk u r ρ) {a : Nat} (ha : a < 6) : ∀ d f i, i + d = r a → d < f → FL_X1_rankOf_2 u f (nI a) (nI i) = some (nI (r a))
  | d, 0, _, _, h => absurd h (by omega)
  | 0, f + 1, i, hi, _ => by
    obtain ⟨h1, h2, _⟩ := h.1 a ha
    have : i = r a := by omega
    subst this
    unfold FL_X1_rankOf_2
    rw [if_neg (show ¬ (6 : Int32) ≤ nI (r a) from nI_ge (a := r a) (b := 6) h1 (by decide)), aR h1, oB_some, (h.2 (r a) h1).2.2, h2, if_pos rfl]
  | d + 1, f + 1, i, hi, hf => by
    obtain ⟨h1, h2, _⟩ := h.1 a ha
    unfold FL_X1_rankOf_2
    rw [if_neg (show ¬ (6 : Int32) ≤ nI i from nI_ge (a := i) (b := 6) (by omega) (by decide)), aR (by omega), oB_some, (h.2 i (by omega)).2.2, nI_1, if_neg (fun q => by
      have := (nI_eq (a := ρ i) (b := a) (by have := (h.2 i (by omega)).1; omega) (by omega)).mp q
      have h3 := (h.2 i (by omega)).2.1
      rw [this] at h3
      omega)]
    exact rank_loop h ha d f (i + 1) (by omega) (by omega)
theorem rank_at {u : St} {r ρ : Nat → Nat} (h : Rk u r ρ) {a : Nat} (ha : a < 6) : F_X1_rankOf u (nI a) = some (nI (r a)) :=
  rank_loop h ha (r a) fuel 0 (by omega) (by have := (h.1 a ha).1; unfold fuel; omega)
def ct (u : St) (s : Int32) (n : Nat) : Nat := cn (fun k => decide (u.1 2 k = s)) n
theorem ct_le (u : St) (s : Int32) (n : Nat) : ct u s n ≤ n := cn_le _ n
section Ask
variable {x : XS} {n : Nat}
theorem q_n (H : Nn x.1 n) : F_X3_count x 0 = some (nI n) := by
  show some (x.1.2.2 0) = _
  rw [H.2.1]
theorem q_open (H : Nn x.1 n) : F_X3_count x 1 = some (nI (ct x.1 0 n)) := by
  show (oB (F_X1_howMany x.1 (0 : Int32)) fun v3 => some v3) = _
  rw [how_eq H]
  rfl
theorem q_done (H : Nn x.1 n) : F_X3_count x 2 = some (nI (ct x.1 1 n)) := by
  show (oB (F_X1_howMany x.1 (1 : Int32)) fun v3 => some v3) = _
  rw [how_eq H]
  rfl
theorem q_drop (H : Nn x.1 n) : F_X3_count x 3 = some (nI (ct x.1 2 n)) := by
  show (oB (F_X1_howMany x.1 (2 : Int32)) fun v3 => some v3) = _
  rw [how_eq H]
  rfl
theorem q_steps (x : XS) : F_X3_count x 4 = some (x.1.2.2 1) := rfl
theorem q_set (x : XS) : F_X3_count x 5 = some (x.1.2.2 2) := rfl
theorem q_kept (x : XS) : F_X3_count x 8 = some x.2.2.2.1 := rfl
theorem q_len (x : XS) : F_X3_count x 9 = some (x.2.2.2.2.2.2 0) := rfl
theorem q_rank {r ρ : Nat → Nat} (h : Rk x.1 r ρ) {a : Nat} (ha : a < 6) : F_X3_count x (nI (10 + a)) = some (nI (r a)) := by
  have e : nI (10 + a) - 10 = nI a := by rw [show (10 : Int32) = nI 10 from rfl, pk_sub (by omega)]; congr 1; omega
  have hr := rank_at h ha
  unfold F_X3_count
  rw [e, hr]
  rcases (show a = 0 ∨ a = 1 ∨ a = 2 ∨ a = 3 ∨ a = 4 ∨ a = 5 by omega) with q | q | q | q | q | q <;> subst q <;> rfl
/-- what the values that fulfil all told clauses are -/
def tm (u : St) (n v : Nat) : Prop := ∀ k, k < n → u.1 3 k = -1 → sat (u.1 1 k) v 6 = true
theorem tv (H : Cs x.1 n) : ∃ T V, F_X1_toldClauses x.1 = some T ∧ F_X1_valuesFulfilling x.1 T = some V ∧ (∀ v, v < 64 → (bl V v = true ↔ tm x.1 n v)) ∧ ∀ j, j < 64 → bl T j = true → j < n := by
  obtain ⟨T, h1, h2⟩ := told_eq H.nn
  obtain ⟨V, h3, h4⟩ := vf H T
  refine ⟨T, V, h1, h3, fun v hv => ?_, fun j hj hb => ?_⟩
  · rw [h4 v hv, al_t]
    constructor
    · intro h k hk e
      have := H.lt hk
      exact h k hk (by rw [h2 k (by omega), decide_eq_true hk, decide_eq_true e]; rfl)
    · intro h k hk e
      have := H.lt hk
      rw [h2 k (by omega), Bool.and_eq_true, decide_eq_true_eq, decide_eq_true_eq] at e
      exact h k hk e.2
  · rw [h2 j hj, Bool.and_eq_true, decide_eq_true_eq] at hb
    exact hb.1
theorem cn_z (p : Nat → Bool) : ∀ n, cn p n = 0 ↔ ∀ i, i < n → p i = false
  | 0 => ⟨fun _ i hi => absurd hi (by omega), fun _ => rfl⟩
  | n + 1 => by
    show cn p n + (p n).toNat = 0 ↔ _
    constructor
    · intro h i hi
      rcases Nat.lt_succ_iff_lt_or_eq.mp hi with h2 | h2
      · exact (cn_z p n).mp (by omega) i h2
      · rw [h2]
        cases hp : p n
        · rfl
        · rw [hp] at h
          exact absurd h (by show ¬ _ + 1 = 0; omega)
    · intro h
      rw [(cn_z p n).mpr (fun i hi => h i (by omega)), h n (by omega)]
      rfl
theorem q_models (H : Cs x.1 n) : ∃ c, c ≤ 64 ∧ F_X3_models x = some (nI c) ∧ (c = 0 ↔ ∀ v, v < 64 → ¬ tm x.1 n v) := by
  obtain ⟨T, V, h1, h2, h3, _⟩ := tv H
  refine ⟨cn (bl V) 64, cn_le _ _, ?_, ?_⟩
  · unfold F_X3_models
    rw [h1, oB_some, h2, oB_some, j13_cn]
    rfl
  · rw [cn_z]
    constructor
    · intro h v hv q
      have h0 := h v hv
      rw [(h3 v hv).mpr q] at h0
      cases h0
    · intro h v hv
      cases hb : bl V v
      · rfl
      · exact absurd ((h3 v hv).mp hb) (h v hv)
theorem q_core (H : Cs x.1 n) : ∃ w, F_X3_core x = some w ∧ (w = -1000004 ↔ ∃ v, v < 64 ∧ tm x.1 n v) := by
  obtain ⟨T, V, h1, h2, h3, h4⟩ := tv H
  unfold F_X3_core
  rw [h1, oB_some, h2, oB_some]
  have hz : V = 0 ↔ ∀ v, v < 64 → ¬ tm x.1 n v := by
    rw [l_of]
    constructor
    · intro h v hv q
      have := h v hv
      rw [(h3 v hv).mpr q] at this
      cases this
    · intro h v hv
      cases hb : bl V v
      · rfl
      · exact absurd ((h3 v hv).mp hb) (h v hv)
  by_cases h : V = 0
  · rw [if_pos ((cmp_0 V 0).mpr h)]
    obtain ⟨W, w1, w2⟩ := few_eq H T
    rw [w1]
    refine ⟨W, rfl, ?_⟩
    constructor
    · intro e
      exfalso
      have := h4 63 (by decide) (w2 63 (by decide) (by rw [e]; decide))
      have := H.1
      omega
    · rintro ⟨v, hv, q⟩
      exact absurd q (hz.mp h v hv)
  · rw [if_neg (fun q => h ((cmp_0 V 0).mp q))]
    refine ⟨_, rfl, fun _ => ?_, fun _ => rfl⟩
    refine Classical.byContradiction (fun q => h (hz.mpr (fun v hv hm => q ⟨v, hv, hm⟩)))
theorem q_follows (H : Cs x.1 n) {m : Nat} (hm : m < 4096) (h : ∀ v, v < 64 → tm x.1 n v → sat (nI m) v 6 = true) : F_X3_follows x (nI m) = some 1 := by
  obtain ⟨T, V, h1, h2, h3, _⟩ := tv H
  obtain ⟨W, w1, w2⟩ := vals (nI m)
  unfold F_X3_follows
  rw [if_neg (nI_pos (by omega)), if_pos (show nI m ≤ 4095 from nI_le (a := m) (b := 4095) (by omega) (by decide)), h1, oB_some, h2, oB_some, w1, oB_some, if_pos]
  rw [cmp_0, l_of]
  intro v hv
  rw [l_and, l_xor, l_m1 v hv, w2 v hv]
  cases hb : bl V v
  · rfl
  · rw [h v hv ((h3 v hv).mp hb)]; rfl
theorem q_ref (H : Nn x.1 n) : (F_X3_refutation x = some (-1000004) ∧ ∀ k, k < n → ¬ x.1.1 1 k = 0) ∨ ∃ k, k < n ∧ F_X3_refutation x = some (nI k) ∧ x.1.1 1 k = 0 := by
  unfold F_X3_refutation
  rcases ec_eq H with ⟨h1, h2⟩ | ⟨k, hk, h1, h2⟩
  · rw [h1, oB_some, found_m1]
    exact Or.inl ⟨rfl, h2⟩
  · have := H.lt hk
    rw [h1, oB_some, found_nI (by omega)]
    exact Or.inr ⟨k, hk, rfl, h2⟩
theorem q_tree (H : Cs x.1 n) {k : Nat} (hk : k < n) : ∃ V, F_X3_tree x (nI k) = some V ∧ ∀ j, j < 64 → bl V j = tb x.1 k j := by
  obtain ⟨V, h1, h2⟩ := tree_eq H hk
  refine ⟨V, ?_, h2⟩
  unfold F_X3_tree
  rw [has_y H.nn hk, oB_some, if_neg (by decide), h1]
  rfl
theorem q_c0 (H : Nn x.1 n) {k : Nat} (hk : k < n) : F_X3_clauseOf x (nI k) 0 = some (x.1.1 1 k) := by
  unfold F_X3_clauseOf
  rw [has_y H hk, oB_some, if_neg (by decide), if_pos rfl, aS (by decide) (H.lt hk)]
  rfl
theorem q_c1 (H : Nn x.1 n) {k : Nat} (hk : k < n) : F_X3_clauseOf x (nI k) 1 = some (x.1.1 2 k) := by
  unfold F_X3_clauseOf
  rw [has_y H hk, oB_some, if_neg (by decide), if_neg (by decide), if_pos rfl, aS (by decide) (H.lt hk)]
  rfl
theorem q_c2 {r ρ : Nat → Nat} (hr : Rk x.1 r ρ) (H : Cs x.1 n) {k : Nat} (hk : k < n) : (x.1.1 1 k = 0 ∧ F_X3_clauseOf x (nI k) 2 = some (-1000004)) ∨ (¬ x.1.1 1 k = 0 ∧ ∃ L, L < 12 ∧ F_X3_clauseOf x (nI k) 2 = some (nI L)) := by
  unfold F_X3_clauseOf
  rw [has_y H.nn hk, oB_some, if_neg (by decide), if_neg (by decide), if_neg (by decide), if_pos rfl, aS (by decide) (H.lt hk), oB_some]
  rcases gr_cl hr H hk with ⟨h1, h2⟩ | ⟨L, h1, h2, h3⟩
  · rw [h2, oB_some, found_m1]
    exact Or.inl ⟨h1, rfl⟩
  · rw [h2, oB_some, found_nI (by have := h3.1; omega)]
    exact Or.inr ⟨h1, L, h3.1, rfl⟩
theorem q_c3 (H : Nn x.1 n) {k : Nat} (hk : k < n) : F_X3_clauseOf x (nI k) 3 = F_X3_foundOrNot (x.1.1 3 k) := by
  unfold F_X3_clauseOf
  rw [has_y H hk, oB_some, if_neg (by decide), if_neg (by decide), if_neg (by decide), if_neg (by decide), if_pos rfl, aS (by decide) (H.lt hk), oB_some]
  cases F_X3_foundOrNot (x.1.1 3 k) <;> rfl
theorem q_c4 (H : Nn x.1 n) {k : Nat} (hk : k < n) : F_X3_clauseOf x (nI k) 4 = F_X3_foundOrNot (x.1.1 4 k) := by
  unfold F_X3_clauseOf
  rw [has_y H hk, oB_some, if_neg (by decide), if_neg (by decide), if_neg (by decide), if_neg (by decide), if_neg (by decide), if_pos rfl, aS (by decide) (H.lt hk), oB_some]
  cases F_X3_foundOrNot (x.1.1 4 k) <;> rfl
theorem q_c5 (H : Nn x.1 n) {k : Nat} (hk : k < n) : F_X3_clauseOf x (nI k) 5 = F_X3_foundOrNot (x.1.1 5 k) := by
  unfold F_X3_clauseOf
  rw [has_y H hk, oB_some, if_neg (by decide), if_neg (by decide), if_neg (by decide), if_neg (by decide), if_neg (by decide), if_neg (by decide), if_pos rfl, aS (by decide) (H.lt hk), oB_some]
  cases F_X3_foundOrNot (x.1.1 5 k) <;> rfl
theorem q_c8 (H : Nn x.1 n) {k : Nat} (hk : k < n) : F_X3_clauseOf x (nI k) 8 = some (x.1.1 6 k) := by
  unfold F_X3_clauseOf
  rw [has_y H hk, oB_some, if_neg (by decide), if_neg (by decide), if_neg (by decide), if_neg (by decide), if_neg (by decide), if_neg (by decide), if_neg (by decide), if_neg (by decide), if_neg (by decide), if_pos rfl, aS (by decide) (H.lt hk)]
  rfl
end Ask
/-- what fulfils the told clauses fulfils each clause -/
theorem sound {u : St} {n v : Nat} (H : Cs u n) (hv : tm u n v) : ∀ k, k < n → sat (u.1 1 k) v 6 = true := by
  intro k
  induction k using Nat.strongRecOn with
  | ind k ih =>
    intro hk
    rcases (H.cl hk).2.2.2 with ⟨e3, _⟩ | ⟨a, b, c, d, da, db, hA, hB, hc, e3, e4, e5, e6, ea, eb, _, _, _, b1, b2, hR⟩
    · exact hv k hk e3
    · have ca := (H.cl (k := a) (by omega)).1
      have cb := (H.cl (k := b) (by omega)).1
      obtain ⟨_, _, _, ha⟩ := ca
      obtain ⟨_, _, _, hb⟩ := cb
      refine sw_sat.mpr (sw_res hc hR ?_ ?_ (sw_sat.mp (ih a hA (by omega))) (sw_sat.mp (ih b hB (by omega))))
      · cases q : bt (u.1 1 a) (2 * c + 1)
        · rfl
        · exact (ha_no ha hc b1 q).elim
      · cases q : bt (u.1 1 b) (2 * c)
        · rfl
        · exact (ha_no hb hc q b2).elim
