/-! Trees, widths, values that fulfil -/
theorem or_z (a : Int64) : a ||| 0 = a := Int64.or_zero
theorem one_k {k i : Nat} (hk : k < 64) (hi : i < 64) : bl ((1 : Int64) <<< ((nI k).toInt64 &&& 63)) i = decide (i = k) := l_1 k hk i hi
theorem add_sub1 (n : Nat) : nI n + 1 - 1 = nI n := by rw [nI_1, nI_pred]
theorem tree_loop {u y : St} {n q : Nat} (H : Rc u (y.1 0) n) (hq : q < n) : ∀ i f g a, i ≤ q + 1 → i < f → i < g → (∀ j, j < 64 → bl a j = true → j ≤ q) →
    ∃ v, FL_X1_treeOf_8 u f a (nI i - 1) = some v ∧ FL_X4_treeOf_7 y g a (nI i - 1) = some v ∧ ∀ j, j < 64 → bl v j = true → j ≤ q
  | i, 0, _, _, _, h, _, _ => absurd h (by omega)
  | i, _ + 1, 0, _, _, _, h, _ => absurd h (by omega)
  | 0, f + 1, g + 1, a, _, _, _, ha => by
    unfold FL_X1_treeOf_8 FL_X4_treeOf_7
    rw [if_pos (by decide), if_pos (by decide)]
    exact ⟨a, rfl, rfl, ha⟩
  | i + 1, f + 1, g + 1, a, hi, _, _, ha => by
    have hn : i < n := by omega
    have h40 := H.lt hn
    have ih := fun a ha => tree_loop H hq i f g a (by omega) (by omega) (by omega) ha
    unfold FL_X1_treeOf_8 FL_X4_treeOf_7
    rw [nI_pred, if_neg (nI_pos (by omega)), if_neg (nI_pos (by omega)), x3_isIn a (by omega), x4_isIn a (by omega), oB_some, oB_some]
    cases hb : bl a i
    · exact ih a ha
    · rw [if_neg (by decide), if_neg (by decide), aS (by decide) h40, oB_some, aS (by decide) h40, H.o2 hn, H.o3 hn, oB_some, oB_some]
      rcases (H.cl hn).2.2.2.2.2.2.2.2 with ⟨e3, e4, _⟩ | ⟨p, b, c, hp, hb2, _, e3, e4, _⟩
      · simp only [e3, e4, set_m1, oB_some, or_z]
        rw [if_pos (by decide)]
        exact ih a ha
      · simp only [e3, e4, set_nI (show p < 2 ^ 31 by omega), set_nI (show b < 2 ^ 31 by omega), oB_some, add_sub1]
        rw [if_neg (by rw [nI_1]; exact nI_nle (by omega) (by omega))]
        refine ih _ (fun j hj h => ?_)
        rw [l_or, l_or, one_k (by omega) hj, one_k (by omega) hj, Bool.or_eq_true, Bool.or_eq_true, decide_eq_true_eq, decide_eq_true_eq] at h
        rcases h with h | h | h
        · exact ha j hj h
        · omega
        · omega
theorem tree_eq {u y : St} {n q : Nat} (H : Rc u (y.1 0) n) (hq : q < n) : ∃ v, F_X1_treeOf u (nI q) = some v ∧ F_X4_treeOf y (nI q) = some v ∧ ∀ j, j < 64 → bl v j = true → j ≤ q := by
  have h40 := H.lt hq
  have h := tree_loop H hq (q + 1) fuel fuel ((1 : Int64) <<< ((nI q).toInt64 &&& 63)) (Nat.le_refl _) (by unfold fuel; omega) (by unfold fuel; omega) (fun j hj h => by
    rw [one_k (by omega) hj, decide_eq_true_eq] at h
    omega)
  unfold F_X1_treeOf F_X4_treeOf
  rw [set_nI (by omega), oB_some]
  rw [nI_pred] at h
  exact h
theorem ones_cl {u y : St} {n k : Nat} (H : Rc u (y.1 0) n) (hk : k < n) : ∃ w : Nat, w ≤ 32 ∧ F_J6_bitCount_0f7a4 (u.1 1 k) = some (nI w) ∧ F_X4_ones (u.1 1 k) = some (nI w) := by
  obtain ⟨m, hm, e, _⟩ := (H.cl hk).1
  refine ⟨cn (bt (u.1 1 k)) 32, cn_le _ _, j6_cn _, ?_⟩
  rw [e, ones_j6 hm, j6_cn]
theorem wid_rest {u : St} {s : Nat → Int32} {n q : Nat} (H : Rc u s n) {T : Int64} (hT : ∀ j, j < 64 → bl T j = true → j ≤ q) (a : Int32) : ∀ d f i, i + d = n → q < i → d < f → FL_X1_mostLiterals_5 u f T a (nI i) = some a
  | d, 0, _, _, _, h => absurd h (by omega)
  | 0, f + 1, i, hi, _, _ => by
    have : i = n := by omega
    subst this
    unfold FL_X1_mostLiterals_5
    rw [H.2.1, if_pos (end_le _)]
  | d + 1, f + 1, i, hi, hq, _ => by
    have hn : i < n := by omega
    have h40 := H.lt hn
    unfold FL_X1_mostLiterals_5
    rw [H.2.1, if_neg (H.ge hn), x3_isIn T (by omega), oB_some, nI_1]
    cases hb : bl T i
    · exact wid_rest H hT a d f (i + 1) (by omega) (by omega) (by omega)
    · exact absurd (hT i (by omega) hb) (by omega)
theorem wid_loop {u y : St} {n q : Nat} (H : Rc u (y.1 0) n) (hq : q < n) {T : Int64} (hT : ∀ j, j < 64 → bl T j = true → j ≤ q) : ∀ d f g i a, i + d = q + 1 → n < i + f → d < g → a < 2 ^ 31 → ∃ v, FL_X1_mostLiterals_5 u f T (nI a) (nI i) = some v ∧ FL_X4_widest_23 y g (nI q) T (nI a) (nI i) = some v
  | d, _, 0, _, _, _, _, h, _ => absurd h (by omega)
  | 0, f, g + 1, i, a, hi, hf, _, _ => by
    have : i = q + 1 := by omega
    subst this
    unfold FL_X4_widest_23
    have h40 := H.lt hq
    rw [if_pos (nI_lt (by omega) (by omega))]
    exact ⟨nI a, wid_rest H hT (nI a) (n - (q + 1)) f (q + 1) (by omega) (by omega) (by omega), rfl⟩
  | d + 1, 0, _, _, _, _, h, _, _ => absurd h (by omega)
  | d + 1, f + 1, g + 1, i, a, hi, _, _, ha => by
    have hn : i < n := by omega
    have h40 := H.lt hn
    have h41 := H.lt hq
    have ih := fun a ha => wid_loop H hq hT d f g (i + 1) a (by omega) (by omega) (by omega) ha
    obtain ⟨w, hw, e1, e2⟩ := ones_cl H hn
    unfold FL_X1_mostLiterals_5 FL_X4_widest_23
    rw [H.2.1, if_neg (H.ge hn), if_neg (nI_nlt (a := q) (b := i) (by omega) (by omega)), x3_isIn T (by omega), x4_isIn T (by omega), oB_some, oB_some, nI_1]
    cases hb : bl T i
    · rw [if_pos (show bI false = 0 from rfl), if_pos (show bI false = 0 from rfl), if_pos (nI_pos' ha)]
      exact ih a ha
    · rw [if_neg (show ¬ bI true = 0 by decide), if_neg (show ¬ bI true = 0 by decide), aS (by decide) h40, oB_some, H.o0 hn, oB_some, e1, e2, oB_some, oB_some]
      by_cases h : w ≤ a
      · rw [if_neg (nI_nlt (a := a) (b := w) h ha), if_pos (nI_le h ha)]
        exact ih a ha
      · rw [if_pos (nI_lt (a := a) (b := w) (by omega) (by omega)), if_neg (nI_ge (a := a) (b := w) (by omega) (by omega))]
        exact ih w (by omega)
theorem widest_eq {u y : St} {n q : Nat} (H : Rc u (y.1 0) n) (hq : q < n) : ∃ v, (oB (F_X1_treeOf u (nI q)) fun v4 => oB (F_X1_mostLiterals u v4) fun v6 => some v6) = some v ∧ (oB (F_X4_treeOf y (nI q)) fun v4 => FL_X4_widest_23 y fuel (nI q) v4 (0 : Int32) (0 : Int32)) = some v := by
  obtain ⟨T, h1, h2, h3⟩ := tree_eq H hq
  obtain ⟨v, h4, h5⟩ := wid_loop H hq h3 (q + 1) fuel fuel 0 0 (by omega) (by have := Rs.f H; omega) (by have := Rs.f H; omega) (by decide)
  rw [h1, h2, oB_some, oB_some]
  refine ⟨v, ?_, h5⟩
  rw [show F_X1_mostLiterals u T = some v from h4]
  rfl
theorem Rc.sa {u : St} {s : Nat → Int32} {n k v : Nat} (H : Rc u s n) (hk : k < n) (hv : v < 64) : bl (u.2.1 k) v = sat (u.1 1 k) v 6 := by
  obtain ⟨V, h1, h2⟩ := vals (u.1 1 k)
  have h3 := (H.cl hk).2.2.2.1
  rw [h1] at h3
  cases h3
  exact h2 v hv
theorem aL {u : St} {k : Nat} (hk : k < 40) : F_X3_longAt u.2.1 (lnS 7) (nI k) = some (u.2.1 k) := by
  unfold F_X3_longAt
  have h2 : ¬ Int32.ofNat (lnS 7) ≤ nI k := nI_ge (b := 40) hk (by decide)
  rw [if_neg (nI_pos (by omega)), if_neg h2, show lnS 7 = 40 from rfl, aLd_in (nI_in (N := 40) hk (by decide)), nI_clamp (by omega)]
  rfl
theorem brk_loop {u y : St} {n v : Nat} (H : Rc u (y.1 0) n) (hv : v < 64) : ∀ d f g i a, i + d = n → d < f → d < g → ∃ w, FL_X1_clausesBrokenBy_5 u f (nI v) a (nI i) = some w ∧ FL_X4_broken_19 y g (nI v) a (nI i) = some w
  | d, 0, _, _, _, _, h, _ => absurd h (by omega)
  | d, _ + 1, 0, _, _, _, _, h => absurd h (by omega)
  | 0, f + 1, g + 1, i, a, hi, _, _ => by
    have : i = n := by omega
    subst this
    unfold FL_X1_clausesBrokenBy_5 FL_X4_broken_19
    rw [H.2.1, H.n4, oB_some, if_pos (end_le _), if_pos (end_le _)]
    exact ⟨a, rfl, rfl⟩
  | d + 1, f + 1, g + 1, i, a, hi, _, _ => by
    have hn : i < n := by omega
    have h40 := H.lt hn
    have ih := fun a => brk_loop H hv d f g (i + 1) a (by omega) (by omega) (by omega)
    unfold FL_X1_clausesBrokenBy_5 FL_X4_broken_19
    rw [H.2.1, H.n4, oB_some, if_neg (H.ge hn), if_neg (H.ge hn), H.dr hn, H.ke hn, oB_some, oB_some, aL h40, oB_some, x3_isIn _ hv, oB_some, H.o0 hn, oB_some, isFul, oB_some, H.sa hn hv, set_nI (by omega), nI_1, or_z]
    cases decide (u.1 2 i = 2)
    · cases sat (u.1 1 i) v 6
      · exact ih _
      · exact ih _
    · exact ih _
theorem broken_eq {u y : St} {n v : Nat} (H : Rc u (y.1 0) n) (hv : v < 64) : ∃ w, F_X1_clausesBrokenBy u (nI v) = some w ∧ FL_X4_broken_19 y fuel (nI v) 0 0 = some w :=
  brk_loop H hv n fuel fuel 0 0 (by omega) (Rs.f H) (Rs.f H)
/-- the value v fulfils the clauses below i in the set S -/
def al (u : St) (S : Int64) (v : Nat) : Nat → Bool
  | 0 => true
  | i + 1 => al u S v i && (!bl S i || sat (u.1 1 i) v 6)
theorem al_dn {u : St} {S : Int64} {v : Nat} : ∀ d i, al u S v i = false → al u S v (i + d) = false
  | 0, i, h => h
  | d + 1, i, h => by
    show (al u S v (i + d) && _) = false
    rw [al_dn d i h]
    rfl
theorem vf_loop {u : St} {s : Nat → Int32} {n : Nat} (H : Rc u s n) (S : Int64) : ∀ d f i a, i + d = n → d < f → (∀ v, v < 64 → bl a v = al u S v i) → ∃ V, FL_X1_valuesFulfilling_7 u f S a (nI i) = some V ∧ ∀ v, v < 64 → bl V v = al u S v n
  | d, 0, _, _, _, h, _ => absurd h (by omega)
  | 0, f + 1, i, a, hi, _, ha => by
    have : i = n := by omega
    subst this
    unfold FL_X1_valuesFulfilling_7
    rw [H.2.1, if_pos (end_le _)]
    exact ⟨a, rfl, ha⟩
  | d + 1, f + 1, i, a, hi, _, ha => by
    have hn : i < n := by omega
    have h40 := H.lt hn
    have ih := fun a ha => vf_loop H S d f (i + 1) a (by omega) (by omega) ha
    unfold FL_X1_valuesFulfilling_7
    rw [H.2.1, if_neg (H.ge hn), x3_isIn S (by omega), oB_some, aL h40, oB_some, nI_1]
    simp only [cmp_0]
    by_cases h : a = 0
    · rw [if_pos h]
      refine ⟨a, rfl, fun v hv => ?_⟩
      have h1 := ha v hv
      rw [h, l_0] at h1
      rw [h, l_0, show n = i + (d + 1) by omega, al_dn _ _ h1.symm]
    · rw [if_neg h]
      cases hb : bl S i
      · rw [if_pos (show bI false = 0 from rfl)]
        refine ih a (fun v hv => ?_)
        show _ = (al u S v i && (!bl S i || _))
        rw [hb, ha v hv, Bool.not_false, Bool.true_or, Bool.and_true]
      · rw [if_neg (show ¬ bI true = 0 by decide)]
        refine ih _ (fun v hv => ?_)
        show _ = (al u S v i && (!bl S i || _))
        rw [hb, l_and, ha v hv, H.sa hn hv, Bool.not_true, Bool.false_or]
theorem vf {u : St} {s : Nat → Int32} {n : Nat} (H : Rc u s n) (S : Int64) : ∃ V, F_X1_valuesFulfilling u S = some V ∧ ∀ v, v < 64 → bl V v = al u S v n :=
  vf_loop H S n fuel 0 (-1) (by omega) (Rs.f H) (fun v hv => l_m1 v hv)
theorem ff_loop {u y : St} {n : Nat} (H : Rc u (y.1 0) n) (S : Int64) (v : Nat) : ∀ d f i b, i + d = n → d < f → b = al u S v i → FL_X4_fulfils_6 y f (nI v) S (bI b) (nI i) = some (bI (al u S v n))
  | d, 0, _, _, _, h, _ => absurd h (by omega)
  | 0, f + 1, i, b, hi, _, hb => by
    have : i = n := by omega
    subst this
    unfold FL_X4_fulfils_6
    rw [H.n4, oB_some, if_pos (end_le _)]
    unfold oZ
    rw [if_pos (bI_z b), hb]
  | d + 1, f + 1, i, b, hi, _, hb => by
    have hn : i < n := by omega
    have h40 := H.lt hn
    have ih := fun b2 hb2 => ff_loop H S v d f (i + 1) b2 (by omega) (by omega) hb2
    have k1 : true = al u S v (i + 1) → FL_X4_fulfils_6 y f (nI v) S 1 (nI (i + 1)) = _ := ih true
    have k0 : false = al u S v (i + 1) → FL_X4_fulfils_6 y f (nI v) S 0 (nI (i + 1)) = _ := ih false
    simp only [al, ← hb] at k1 k0
    unfold FL_X4_fulfils_6
    rw [H.n4, oB_some, if_neg (H.ge hn), x4_isIn S (by omega), oB_some, H.o0 hn, oB_some, isFul, oB_some, nI_1]
    cases b <;> cases h1 : bl S i <;> cases h2 : sat (u.1 1 i) v 6 <;> rw [h1, h2] at k0 k1 <;> first | exact k1 rfl | exact k0 rfl
theorem ff {u y : St} {n : Nat} (H : Rc u (y.1 0) n) (S : Int64) (v : Nat) : F_X4_fulfils y (nI v) S = some (bI (al u S v n)) :=
  ff_loop H S v n fuel 0 true (by omega) (Rs.f H) rfl
theorem mo_loop {u y : St} {n : Nat} (H : Rc u (y.1 0) n) (S : Int64) : ∀ d f v, v + d = 64 → d < f → FL_X4_modelsOf_5 y f S (nI (cn (fun v => al u S v n) v)) (nI v) = some (nI (cn (fun v => al u S v n) 64))
  | d, 0, v, _, h => absurd h (by omega)
  | 0, f + 1, v, hv, _ => by
    have : v = 64 := by omega
    subst this
    unfold FL_X4_modelsOf_5
    rw [if_pos (by decide)]
  | d + 1, f + 1, v, hv, hf => by
    have h64 : ¬ (64 : Int32) ≤ nI v := fun h => absurd ((nI_leI (a := 64) (b := v) (by decide) (by omega)).mp h) (by omega)
    have ih := mo_loop H S d f (v + 1) (by omega) (by omega)
    unfold FL_X4_modelsOf_5
    rw [if_neg h64, ff H, oB_some, nI_1]
    rw [show cn (fun v => al u S v n) (v + 1) = cn (fun v => al u S v n) v + (al u S v n).toNat from rfl, ← nI_add] at ih
    cases hs : al u S v n <;> rw [hs] at ih <;> exact ih
theorem modelsOf_eq {u y : St} {n : Nat} (H : Rc u (y.1 0) n) (S : Int64) : F_X4_modelsOf y S = some (nI (cn (fun v => al u S v n) 64)) :=
  mo_loop H S 64 fuel 0 rfl (by decide)
theorem cn_0 (p : Nat → Bool) : ∀ n, cn p n = 0 ↔ ∀ i, i < n → p i = false
  | 0 => ⟨fun _ i hi => absurd hi (by omega), fun _ => rfl⟩
  | n + 1 => by
    show cn p n + (p n).toNat = 0 ↔ _
    constructor
    · intro h i hi
      rcases Nat.lt_succ_iff_lt_or_eq.mp hi with h2 | h2
      · exact (cn_0 p n).mp (by omega) i h2
      · rw [h2]
        cases hp : p n
        · rfl
        · rw [hp] at h
          exact absurd h (by show ¬ _ + 1 = 0; omega)
    · intro h
      rw [(cn_0 p n).mpr (fun i hi => h i (by omega)), h n (by omega)]
      rfl
/-- no value fulfils the set: the class's word and the model's -/
theorem none_eq {u y : St} {n : Nat} (H : Rc u (y.1 0) n) (S : Int64) : ∃ (V : Int64) (m : Nat), m ≤ 64 ∧ F_X1_valuesFulfilling u S = some V ∧ F_X4_modelsOf y S = some (nI m) ∧ F_J13_bitCount_95d88 V = some (nI m) ∧ (V = 0 ↔ m = 0) ∧ ∀ v, v < 64 → F_X4_fulfils y (nI v) S = some (bI (bl V v)) := by
  obtain ⟨V, h1, h2⟩ := vf H S
  refine ⟨V, cn (fun v => al u S v n) 64, cn_le _ _, h1, modelsOf_eq H S, ?_, ?_, fun v hv => ?_⟩
  · rw [j13_cn, cn_cong 64 h2]
  · rw [l_of, cn_0]
    exact ⟨fun h i hi => (h2 i hi).symm.trans (h i hi), fun h i hi => (h2 i hi).trans (h i hi)⟩
  · rw [ff H, h2 v hv]
