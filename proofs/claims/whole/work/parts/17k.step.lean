/-! A step -/
def cw (u : St) (k : Nat) : Nat := cn (bt (u.1 1 k)) 32
theorem cw6 {u : St} {s : Nat → Int32} {n k : Nat} (H : Rc u s n) (hk : k < n) : cw u k ≤ 6 := by
  obtain ⟨m, hm, e, h⟩ := (H.cl hk).1
  unfold cw
  have hz : cn (fun i => bt (u.1 1 k) (12 + i)) 20 = 0 := (cn_0 _ 20).mpr (fun i hi => by
    rw [e, bt_nI m (by omega)]
    exact Nat.testBit_lt_two_pow (Nat.lt_of_lt_of_le hm (Nat.pow_le_pow_right (n := 2) (by decide) (show 12 ≤ 12 + i by omega))))
  rw [show 32 = 12 + 20 from rfl, cn_add, hz]
  have h1 := (ha_t (u.1 1 k) 6).mp h
  have q : ∀ a b : Bool, (a && b) = false → a.toNat + b.toNat ≤ 1 := by decide
  have q0 := q _ _ (h1 0 (by omega))
  have q1 := q _ _ (h1 1 (by omega))
  have q2 := q _ _ (h1 2 (by omega))
  have q3 := q _ _ (h1 3 (by omega))
  have q4 := q _ _ (h1 4 (by omega))
  have q5 := q _ _ (h1 5 (by omega))
  simp only [cn]
  simp only [Nat.reduceMul, Nat.reduceAdd] at q0 q1 q2 q3 q4 q5
  omega
def best (u : St) (w : Nat → Nat) (lo hi k : Nat) : Prop := lo ≤ k ∧ k < hi ∧ u.1 2 k = 0 ∧ (∀ j, lo ≤ j → j < hi → u.1 2 j = 0 → w k ≤ w j) ∧ (∀ j, lo ≤ j → j < k → u.1 2 j = 0 → w k < w j)
theorem best_one {u : St} {w : Nat → Nat} {lo hi k k' : Nat} (a : best u w lo hi k) (b : best u w lo hi k') : k = k' := by
  rcases Nat.lt_trichotomy k k' with h | h | h
  · have h1 := b.2.2.2.2 k a.1 h a.2.2.1
    have h2 := a.2.2.2.1 k' b.1 b.2.1 b.2.2.1
    omega
  · exact h
  · have h1 := a.2.2.2.2 k' b.1 h b.2.2.1
    have h2 := b.2.2.2.1 k a.1 a.2.1 a.2.2.1
    omega
theorem bc_cw (u : St) (k : Nat) : F_J6_bitCount_0f7a4 (u.1 1 k) = some (nI (cw u k)) := j6_cn _
theorem nc0 {u : St} {s : Nat → Int32} {n : Nat} (H : Rc u s n) : ∀ d f i (b c : Int32), i + d = n → d < f → ((b = -1 ∧ c = 7 ∧ ∀ j, j < i → ¬ u.1 2 j = 0) ∨ ∃ k, b = nI k ∧ c = nI (cw u k) ∧ best u (cw u) 0 i k) →
    (FL_X1_nextChoice_35 u f 0 b c (nI i) = some (-1) ∧ ∀ j, j < n → ¬ u.1 2 j = 0) ∨ ∃ k, FL_X1_nextChoice_35 u f 0 b c (nI i) = some (nI k) ∧ best u (cw u) 0 n k
  | d, 0, _, _, _, _, h, _ => absurd h (by omega)
  | 0, f + 1, i, b, c, hi, _, hb => by
    have : i = n := by omega
    subst this
    unfold FL_X1_nextChoice_35
    rw [H.2.1, if_pos (end_le _)]
    rcases hb with ⟨e, _, h⟩ | ⟨k, e, _, h⟩
    · exact Or.inl ⟨by rw [e], h⟩
    · exact Or.inr ⟨k, by rw [e], h⟩
  | d + 1, f + 1, i, b, c, hi, _, hb => by
    have hn : i < n := by omega
    have h40 := H.lt hn
    have go := fun b c => nc0 H d f (i + 1) b c (by omega) (by omega)
    have c6 := cw6 H hn
    have up : ∀ {L : Nat} {P : Prop}, L < i + 1 → (L < i → P) → (L = i → P) → P := fun h a b => by
      rcases Nat.lt_succ_iff_lt_or_eq.mp h with q | q
      · exact a q
      · exact b q
    unfold FL_X1_nextChoice_35
    rw [H.2.1, if_neg (H.ge hn), aS (by decide) h40, oB_some, bc_cw, oB_some, aS (by decide) h40, oB_some, nI_1]
    by_cases hs : u.1 2 i = 0
    · rw [if_pos hs]
      rcases hb with ⟨e, e2, h⟩ | ⟨k, e, e2, h⟩
      · rw [if_neg (by rw [e2]; exact nI_ge (a := cw u i) (b := 7) (by omega) (by decide)), if_pos rfl]
        exact go _ _ (Or.inr ⟨i, rfl, rfl, by omega, by omega, hs, fun j _ hj hj0 => up hj (fun q => absurd hj0 (h j q)) (fun q => by rw [q]; exact Nat.le_refl _), fun j _ hj hj0 => absurd hj0 (h j hj)⟩)
      · have ck := cw6 H (show k < n by have := h.2.1; omega)
        by_cases hc : cw u k ≤ cw u i
        · rw [if_pos (by rw [e2]; exact nI_le hc (by omega))]
          exact go _ _ (Or.inr ⟨k, e, e2, h.1, by have := h.2.1; omega, h.2.2.1, fun j h1 hj hj0 => up hj (fun q => h.2.2.2.1 j h1 q hj0) (fun q => by rw [q]; exact hc), h.2.2.2.2⟩)
        · rw [if_neg (by rw [e2]; exact nI_ge (a := cw u i) (b := cw u k) (by omega) (by omega)), if_pos rfl]
          exact go _ _ (Or.inr ⟨i, rfl, rfl, by omega, by omega, hs, fun j h1 hj hj0 => up hj (fun q => by have := h.2.2.2.1 j h1 q hj0; omega) (fun q => by rw [q]; exact Nat.le_refl _), fun j h1 hj hj0 => by have := h.2.2.2.1 j h1 hj hj0; omega⟩)
    · rw [if_neg hs]
      refine go _ _ ?_
      rcases hb with ⟨e, e2, h⟩ | ⟨k, e, e2, h⟩
      · exact Or.inl ⟨e, e2, fun j hj => up hj (h j) (fun q => by rw [q]; exact hs)⟩
      · exact Or.inr ⟨k, e, e2, h.1, by have := h.2.1; omega, h.2.2.1, fun j h1 hj hj0 => up hj (fun q => h.2.2.2.1 j h1 q hj0) (fun q => absurd (q ▸ hj0) hs), h.2.2.2.2⟩
theorem nc1 {u : St} {s : Nat → Int32} {n : Nat} (H : Rc u s n) : ∀ d f i, i + d = n → d < f → (∀ j, j < i → ¬ u.1 2 j = 0) →
    (FL_X1_nextChoice_35 u f 1 (-1) 7 (nI i) = some (-1) ∧ ∀ j, j < n → ¬ u.1 2 j = 0) ∨ ∃ k, FL_X1_nextChoice_35 u f 1 (-1) 7 (nI i) = some (nI k) ∧ best u (fun _ => 0) 0 n k
  | d, 0, _, _, h, _ => absurd h (by omega)
  | 0, f + 1, i, hi, _, hb => by
    have : i = n := by omega
    subst this
    unfold FL_X1_nextChoice_35
    rw [H.2.1, if_pos (end_le _)]
    exact Or.inl ⟨rfl, hb⟩
  | d + 1, f + 1, i, hi, _, hb => by
    have hn : i < n := by omega
    have h40 := H.lt hn
    have c6 := cw6 H hn
    unfold FL_X1_nextChoice_35
    rw [H.2.1, if_neg (H.ge hn), aS (by decide) h40, oB_some, bc_cw, oB_some, aS (by decide) h40, oB_some, nI_1]
    by_cases hs : u.1 2 i = 0
    · rw [if_pos hs, if_neg (show ¬ (7 : Int32) ≤ nI (cw u i) from nI_ge (a := cw u i) (b := 7) (by omega) (by decide)), if_neg (show ¬ (1 : Int32) = 0 by decide)]
      exact Or.inr ⟨i, rfl, by omega, hn, hs, fun _ _ _ _ => Nat.le_refl _, fun j _ hj hj0 => absurd hj0 (hb j hj)⟩
    · rw [if_neg hs]
      exact nc1 H d f (i + 1) (by omega) (by omega) (fun j hj => by
        rcases Nat.lt_succ_iff_lt_or_eq.mp hj with q | q
        · exact hb j q
        · rw [q]; exact hs)
theorem mc {u y : St} {n : Nat} (H : Rs u (y.1 0) n) {x1 : Int32} {w : Nat → Nat} (hx : x1 = 0 ∧ w = cw u ∨ x1 = 1 ∧ w = fun _ => 0) : ∀ i f (b : Int32), i ≤ n → i < f → ((b = -1 ∧ ∀ j, i ≤ j → j < n → ¬ u.1 2 j = 0) ∨ ∃ k, b = nI k ∧ best u w i n k) →
    ∃ R, FL_X4_chosen_35 y f x1 b (nI i - 1) = some (if 0 ≤ eC u n then -1 else R) ∧ ((R = -1 ∧ ∀ j, j < n → ¬ u.1 2 j = 0) ∨ ∃ k, R = nI k ∧ best u w 0 n k)
  | i, 0, _, _, h, _ => absurd h (by omega)
  | 0, f + 1, b, _, _, hb => by
    refine ⟨b, ?_, ?_⟩
    · unfold FL_X4_chosen_35
      rw [if_pos (by decide), empty4 H, oB_some]
      by_cases h : 0 ≤ eC u n
      · rw [if_pos h, if_pos h]
      · rw [if_neg h, if_neg h]
    · rcases hb with ⟨e, h⟩ | h
      · exact Or.inl ⟨e, fun j hj => h j (by omega) hj⟩
      · exact Or.inr h
  | i + 1, f + 1, b, hi, _, hb => by
    have hn : i < n := by omega
    have h40 := H.1.lt hn
    have go := fun b => mc H hx i f b (by omega) (by omega)
    have dn : ∀ {L : Nat} {P : Prop}, i ≤ L → (i + 1 ≤ L → P) → (L = i → P) → P := fun h a b => by
      rcases Nat.lt_or_eq_of_le h with q | q
      · exact a q
      · exact b q.symm
    unfold FL_X4_chosen_35
    rw [nI_pred, if_neg (nI_pos (by omega)), H.1.o1 hn, oB_some]
    by_cases hs : u.1 2 i = 0
    · rw [if_pos hs]
      rcases hb with ⟨e, h⟩ | ⟨k, e, h⟩
      · rw [if_pos (by rw [e]; decide)]
        exact go _ (Or.inr ⟨i, rfl, by omega, hn, hs, fun j h1 hj hj0 => dn h1 (fun q => absurd hj0 (h j q hj)) (fun q => by rw [q]; exact Nat.le_refl _), fun j h1 hj _ => absurd h1 (by omega)⟩)
      · have hkn := h.2.1
        have hk40 := H.1.lt hkn
        have keep : w k < w i → (b = -1 ∧ ∀ j, i ≤ j → j < n → ¬ u.1 2 j = 0) ∨ ∃ k, b = nI k ∧ best u w i n k := fun hw =>
          Or.inr ⟨k, e, by have := h.1; omega, hkn, h.2.2.1, fun j h1 hj hj0 => dn h1 (fun q => h.2.2.2.1 j q hj hj0) (fun q => by rw [q]; omega), fun j h1 hj hj0 => dn h1 (fun q => h.2.2.2.2 j q hj hj0) (fun q => by rw [q]; exact hw)⟩
        have take : w i ≤ w k → (nI i = -1 ∧ ∀ j, i ≤ j → j < n → ¬ u.1 2 j = 0) ∨ ∃ k, nI i = nI k ∧ best u w i n k := fun hw =>
          Or.inr ⟨i, rfl, by omega, hn, hs, fun j h1 hj hj0 => dn h1 (fun q => by have := h.2.2.2.1 j q hj hj0; omega) (fun q => by rw [q]; exact Nat.le_refl _), fun j h1 hj _ => absurd h1 (by omega)⟩
        rw [if_neg (by rw [e]; exact nI_pos (by omega))]
        rcases hx with ⟨ex, ew⟩ | ⟨ex, ew⟩
        · obtain ⟨m1, hm1, e1, _⟩ := (H.1.cl hn).1
          obtain ⟨m2, hm2, e2, _⟩ := (H.1.cl hkn).1
          have ci := cw6 H.1 hn
          have ck := cw6 H.1 hkn
          have o1 : F_X4_ones (u.1 1 i) = some (nI (cw u i)) := by rw [← bc_cw, e1, ones_j6 hm1]
          have o2 : F_X4_ones (u.1 1 k) = some (nI (cw u k)) := by rw [← bc_cw, e2, ones_j6 hm2]
          rw [if_pos ex, H.1.o0 hn, oB_some, o1, oB_some]
          rw [show F_X4_of y b 0 = some (u.1 1 k) by rw [e]; exact H.1.o0 hkn, oB_some, o2, oB_some]
          by_cases hc : cw u k < cw u i
          · rw [if_pos (nI_lt hc (by omega))]
            exact go _ (keep (by rw [ew]; exact hc))
          · rw [if_neg (nI_nlt (a := cw u k) (b := cw u i) (by omega) (by omega))]
            exact go _ (take (by rw [ew]; omega))
        · rw [if_neg (by rw [ex]; decide)]
          exact go _ (take (by rw [ew]; exact Nat.le_refl _))
    · rw [if_neg hs]
      refine go _ ?_
      rcases hb with ⟨e, h⟩ | ⟨k, e, h⟩
      · exact Or.inl ⟨e, fun j h1 hj => dn h1 (fun q => h j q hj) (fun q => by rw [q]; exact hs)⟩
      · exact Or.inr ⟨k, e, by have := h.1; omega, h.2.1, h.2.2.1, fun j h1 hj hj0 => dn h1 (fun q => h.2.2.2.1 j q hj hj0) (fun q => absurd (q ▸ hj0) hs), fun j h1 hj hj0 => dn h1 (fun q => h.2.2.2.2 j q hj hj0) (fun q => absurd (q ▸ hj0) hs)⟩
theorem choice_eq {u y : St} {n : Nat} (H : Rs u (y.1 0) n) : ∃ R, F_X4_chosen y = some (if 0 ≤ eC u n then -1 else R) ∧ F_X1_nextChoice u = some R ∧ (R = -1 ∨ ∃ k, k < n ∧ R = nI k) := by
  obtain ⟨g, g1, g9, eg⟩ := H.1.2.2.2.2.2.2.2.1
  have join : ∀ {x1 : Int32} {w : Nat → Nat}, (x1 = 0 ∧ w = cw u ∨ x1 = 1 ∧ w = fun _ => 0) → ((FL_X1_nextChoice_35 u fuel x1 (-1) 7 (nI 0) = some (-1) ∧ ∀ j, j < n → ¬ u.1 2 j = 0) ∨ ∃ k, FL_X1_nextChoice_35 u fuel x1 (-1) 7 (nI 0) = some (nI k) ∧ best u w 0 n k) → ∃ R, FL_X4_chosen_35 y fuel x1 (-1) (nI n - 1) = some (if 0 ≤ eC u n then -1 else R) ∧ FL_X1_nextChoice_35 u fuel x1 (-1) 7 (nI 0) = some R ∧ (R = -1 ∨ ∃ k, k < n ∧ R = nI k) := by
    intro x1 w hx hc
    obtain ⟨R, h1, h2⟩ := mc H hx n fuel (-1) (Nat.le_refl _) (Rs.f H.1) (Or.inl ⟨rfl, fun j h1 h2 => absurd h1 (by omega)⟩)
    rcases hc with ⟨c1, c2⟩ | ⟨k, c1, c2⟩
    · rcases h2 with ⟨e, _⟩ | ⟨k, e, hb⟩
      · exact ⟨R, h1, by rw [c1, e], Or.inl e⟩
      · exact absurd hb.2.2.1 (c2 k hb.2.1)
    · rcases h2 with ⟨e, h3⟩ | ⟨k', e, hb⟩
      · exact absurd c2.2.2.1 (h3 k c2.2.1)
      · have := best_one c2 hb
        subst this
        exact ⟨R, h1, by rw [c1, e], Or.inr ⟨k, c2.2.1, e⟩⟩
  have l1 : aLd (y.1 0) (lnM 0) 1 = some (u.2.2 1) := (ldM (k := 1) (by decide)).trans (by rw [H.1.2.2.2.1])
  have l2 : aLd (y.1 0) (lnM 0) 2 = some (u.2.2 2) := (ldM (k := 2) (by decide)).trans (by rw [H.1.2.2.2.2.1])
  have hr : ∃ v, iRem (u.2.2 1 + 1) (u.2.2 2) = some v := by
    unfold iRem
    rw [if_neg (by rw [eg]; exact nI_ne0 (by omega) (by omega))]
    exact ⟨_, rfl⟩
  obtain ⟨v, hv⟩ := hr
  unfold F_X4_chosen F_X1_nextChoice
  rw [l1, l2, oB_some, oB_some, hv, oB_some, oB_some, if_neg (show ¬ u.2.2 2 ≤ 0 by rw [eg]; exact nI_nle (by omega) (by omega)), H.1.n4]
  simp only [oB_some]
  by_cases h : v = 0
  · rw [if_pos h, if_pos h]
    exact join (Or.inr ⟨rfl, rfl⟩) (nc1 H.1 n fuel 0 (by omega) (Rs.f H.1) (fun j hj => absurd hj (by omega)))
  · rw [if_neg h, if_neg h]
    exact join (Or.inl ⟨rfl, rfl⟩) (nc0 H.1 n fuel 0 (-1) 7 (by omega) (Rs.f H.1) (Or.inl ⟨rfl, rfl, fun j hj => absurd hj (by omega)⟩))
