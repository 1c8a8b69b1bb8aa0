/-! A step -/
def cw (u : St) (k : Nat) : Nat := cn (bt (u.1 1 k)) 32
theorem cw6 {u : St} {n k : Nat} (H : Cs u n) (hk : k < n) : cw u k ≤ 6 := by
  obtain ⟨m, hm, e, h⟩ := (H.cl hk).1
  unfold cw
  have hz : cn (fun i => bt (u.1 1 k) (12 + i)) 20 = 0 := (cn_z _ 20).mpr (fun i hi => by
    rw [e, bt_nI m (by omega)]
    exact Nat.testBit_lt_two_pow (Nat.lt_of_lt_of_le hm (Nat.pow_le_pow_right (n := 2) (by decide) (show 12 ≤ 12 + i by omega))))
  rw [show 32 = 12 + 20 from rfl, cn_add, hz]
  have h1 := (ha_t (u.1 1 k) 6).mp h
  have q : ∀ a b : Bool, (a && b) = false → a.toNat + b.toNat ≤ 1 := by decide
  have q0 := q _ _ (h1 0 (by omega))
  have q1 := q _ _ (h1 1 (by omega))
  have q2 := q _ _ (h1 2 (by omega))
  have q3 := q _ _ (h1 3 (by omega))
  have q4 := q _ _ (h1 4 (by omega))
  have q5 := q _ _ (h1 5 (by omega))
  simp only [cn]
  simp only [Nat.reduceMul, Nat.reduceAdd] at q0 q1 q2 q3 q4 q5
  omega
def best (u : St) (w : Nat → Nat) (lo hi k : Nat) : Prop := lo ≤ k ∧ k < hi ∧ u.1 2 k = 0 ∧ (∀ j, lo ≤ j → j < hi → u.1 2 j = 0 → w k ≤ w j) ∧ (∀ j, lo ≤ j → j < k → u.1 2 j = 0 → w k < w j)
theorem best_one {u : St} {w : Nat → Nat} {lo hi k k' : Nat} (a : best u w lo hi k) (b : best u w lo hi k') : k = k' := by
  rcases Nat.lt_trichotomy k k' with h | h | h
  · have h1 := b.2.2.2.2 k a.1 h a.2.2.1
    have h2 := a.2.2.2.1 k' b.1 b.2.1 b.2.2.1
    omega
  · exact h
  · have h1 := a.2.2.2.2 k' b.1 h b.2.2.1
    have h2 := b.2.2.2.1 k a.1 a.2.1 a.2.2.1
    omega
theorem bc_cw (u : St) (k : Nat) : F_J6_bitCount_0f7a4 (u.1 1 k) = some (nI (cw u k)) := j6_cn _
theorem nc0 {u : St} {n : Nat} (H : Cs u n) : ∀ d f i (b c : Int32), i + d = n → d < f → ((b = -1 ∧ c = 7 ∧ ∀ j, j < i → ¬ u.1 2 j = 0) ∨ ∃ k, b = nI k ∧ c = nI (cw u k) ∧ best u (cw u) 0 i k) →
    (FL_X1_nextChoice_35 u f 0 b c (nI i) = some (-1) ∧ ∀ j, j < n → ¬ u.1 2 j = 0) ∨ ∃ k, FL_X1_nextChoice_35 u f 0 b c (nI i) = some (nI k) ∧ best u (cw u) 0 n k
  | d, 0, _, _, _, _, h, _ => absurd h (by omega)
  | 0, f + 1, i, b, c, hi, _, hb => by
    have : i = n := by omega
    subst this
    unfold FL_X1_nextChoice_35
    rw [H.2.1, if_pos (end_le _)]
    rcases hb with ⟨e, _, h⟩ | ⟨k, e, _, h⟩
    · exact Or.inl ⟨by rw [e], h⟩
    · exact Or.inr ⟨k, by rw [e], h⟩
  | d + 1, f + 1, i, b, c, hi, _, hb => by
    have hn : i < n := by omega
    have h40 := H.lt hn
    have go := fun b c => nc0 H d f (i + 1) b c (by omega) (by omega)
    have c6 := cw6 H hn
    have up : ∀ {L : Nat} {P : Prop}, L < i + 1 → (L < i → P) → (L = i → P) → P := fun h a b => by
      rcases Nat.lt_succ_iff_lt_or_eq.mp h with q | q
      · exact a q
      · exact b q
    unfold FL_X1_nextChoice_35
    rw [H.2.1, if_neg (H.ge hn), aS (by decide) h40, oB_some, bc_cw, oB_some, aS (by decide) h40, oB_some, nI_1]
    by_cases hs : u.1 2 i = 0
    · rw [if_pos hs]
      rcases hb with ⟨e, e2, h⟩ | ⟨k, e, e2, h⟩
      · rw [if_neg (by rw [e2]; exact nI_ge (a := cw u i) (b := 7) (by omega) (by decide)), if_pos rfl]
        exact go _ _ (Or.inr ⟨i, rfl, rfl, by omega, by omega, hs, fun j _ hj hj0 => up hj (fun q => absurd hj0 (h j q)) (fun q => by rw [q]; exact Nat.le_refl _), fun j _ hj hj0 => absurd hj0 (h j hj)⟩)
      · have ck := cw6 H (show k < n by have := h.2.1; omega)
        by_cases hc : cw u k ≤ cw u i
        · rw [if_pos (by rw [e2]; exact nI_le hc (by omega))]
          exact go _ _ (Or.inr ⟨k, e, e2, h.1, by have := h.2.1; omega, h.2.2.1, fun j h1 hj hj0 => up hj (fun q => h.2.2.2.1 j h1 q hj0) (fun q => by rw [q]; exact hc), h.2.2.2.2⟩)
        · rw [if_neg (by rw [e2]; exact nI_ge (a := cw u i) (b := cw u k) (by omega) (by omega)), if_pos rfl]
          exact go _ _ (Or.inr ⟨i, rfl, rfl, by omega, by omega, hs, fun j h1 hj hj0 => up hj (fun q => by have := h.2.2.2.1 j h1 q hj0; omega) (fun q => by rw [q]; exact Nat.le_refl _), fun j h1 hj hj0 => by have := h.2.2.2.1 j h1 hj hj0; omega⟩)
    · rw [if_neg hs]
      refine go _ _ ?_
      rcases hb with ⟨e, e2, h⟩ | ⟨k, e, e2, h⟩
      · exact Or.inl ⟨e, e2, fun j hj => up hj (h j) (fun q => by rw [q]; exact hs)⟩
      · exact Or.inr ⟨k, e, e2, h.1, by have := h.2.1; omega, h.2.2.1, fun j h1 hj hj0 => up hj (fun q => h.2.2.2.1 j h1 q hj0) (fun q => absurd (q ▸ hj0) hs), h.2.2.2.2⟩
theorem nc1 {u : St} {n : Nat} (H : Cs u n) : ∀ d f i, i + d = n → d < f → (∀ j, j < i → ¬ u.1 2 j = 0) →
    (FL_X1_nextChoice_35 u f 1 (-1) 7 (nI i) = some (-1) ∧ ∀ j, j < n → ¬ u.1 2 j = 0) ∨ ∃ k, FL_X1_nextChoice_35 u f 1 (-1) 7 (nI i) = some (nI k) ∧ best u (fun _ => 0) 0 n k
  | d, 0, _, _, h, _ => absurd h (by omega)
  | 0, f + 1, i, hi, _, hb => by
    have : i = n := by omega
    subst this
    unfold FL_X1_nextChoice_35
    rw [H.2.1, if_pos (end_le _)]
    exact Or.inl ⟨rfl, hb⟩
  | d + 1, f + 1, i, hi, _, hb => by
    have hn : i < n := by omega
    have h40 := H.lt hn
    have c6 := cw6 H hn
    unfold FL_X1_nextChoice_35
    rw [H.2.1, if_neg (H.ge hn), aS (by decide) h40, oB_some, bc_cw, oB_some, aS (by decide) h40, oB_some, nI_1]
    by_cases hs : u.1 2 i = 0
    · rw [if_pos hs, if_neg (show ¬ (7 : Int32) ≤ nI (cw u i) from nI_ge (a := cw u i) (b := 7) (by omega) (by decide)), if_neg (show ¬ (1 : Int32) = 0 by decide)]
      exact Or.inr ⟨i, rfl, by omega, hn, hs, fun _ _ _ _ => Nat.le_refl _, fun j _ hj hj0 => absurd hj0 (hb j hj)⟩
    · rw [if_neg hs]
      exact nc1 H d f (i + 1) (by omega) (by omega) (fun j hj => by
        rcases Nat.lt_succ_iff_lt_or_eq.mp hj with q | q
        · exact hb j q
        · rw [q]; exact hs)
theorem or_nI (a b : Nat) : nI a ||| nI b = nI (a ||| b) := by
  apply Int32.toBitVec_inj.mp
  rw [Int32.toBitVec_or]
  show BitVec.ofNat 32 a ||| BitVec.ofNat 32 b = BitVec.ofNat 32 (a ||| b)
  apply BitVec.eq_of_getLsbD_eq
  intro i hi
  simp [hi]
theorem small12 {a b : Nat} (ha : a < 4096) (hb : b < 4096) (z : Int32) : ∃ m, m < 4096 ∧ (nI a ||| nI b) &&& z = nI m := by
  obtain ⟨w, _, e⟩ := b_rep z
  refine ⟨(a ||| b) &&& w, ?_, ?_⟩
  · have h1 : a ||| b < 2 ^ 12 := Nat.or_lt_two_pow ha hb
    exact Nat.lt_of_le_of_lt Nat.and_le_left h1
  · rw [e, or_nI, fa_and]
theorem mask_eq : ∀ L, L < 12 → ((1 : Int32) <<< (nI L &&& 31)) ||| ((1 : Int32) <<< ((nI L ^^^ 1) &&& 31)) = (3 : Int32) <<< ((nI (L / 2) * 2) &&& 31) := by decide +kernel
theorem flag_eq : ∀ L, L < 12 → (decide (nI L ^^^ 1 ≤ nI L)) = decide (L % 2 = 1) := by decide +kernel
theorem half_eq : ∀ L, L < 12 → nI L >>> ((1 : Int32) &&& 31) = nI (L / 2) := by decide +kernel
theorem not_self : ∀ L, L < 12 → ¬ nI L = nI L ^^^ 1 := by decide +kernel
def mk (L : Nat) : Int32 := (3 : Int32) <<< ((nI (L / 2) * 2) &&& 31)
theorem m3_ne {v : Int32} {k : Nat} (hk : k < 2 ^ 31) (h : v = nI k) : ¬ v = -1000003 ∧ ¬ v < 0 := by
  rw [h]
  refine ⟨fun e => ?_, nI_pos hk⟩
  have := nI_pos (n := k) hk
  rw [e] at this
  exact this (by decide)
theorem choice_ok {u : St} {n : Nat} (H : Cs u n) : (F_X1_nextChoice u = some (-1) ∧ ∀ j, j < n → ¬ u.1 2 j = 0) ∨ ∃ k, k < n ∧ F_X1_nextChoice u = some (nI k) ∧ u.1 2 k = 0 := by
  obtain ⟨g, g1, g9, eg⟩ := H.2.2.1
  have hr : ∃ v, iRem (u.2.2 1 + 1) (u.2.2 2) = some v := by
    unfold iRem
    rw [if_neg (by rw [eg]; exact nI_ne0 (by omega) (by omega))]
    exact ⟨_, rfl⟩
  obtain ⟨v, hv⟩ := hr
  have fin : ∀ {o : Option Int32} {w : Nat → Nat}, ((o = some (-1) ∧ ∀ j, j < n → ¬ u.1 2 j = 0) ∨ ∃ k, o = some (nI k) ∧ best u w 0 n k) → (o = some (-1) ∧ ∀ j, j < n → ¬ u.1 2 j = 0) ∨ ∃ k, k < n ∧ o = some (nI k) ∧ u.1 2 k = 0 := fun h => by
    rcases h with h | ⟨k, h, hb⟩
    · exact Or.inl h
    · exact Or.inr ⟨k, hb.2.1, h, hb.2.2.1⟩
  unfold F_X1_nextChoice
  rw [hv, oB_some, if_neg (show ¬ u.2.2 2 ≤ 0 by rw [eg]; exact nI_nle (by omega) (by omega))]
  by_cases h : v = 0
  · rw [if_pos h]
    exact fin (nc1 H n fuel 0 (by omega) H.f (fun j hj => absurd hj (by omega)))
  · rw [if_neg h]
    exact fin (nc0 H n fuel 0 (-1) 7 (by omega) H.f (Or.inl ⟨rfl, rfl, fun j hj => absurd hj (by omega)⟩))
def op (L : Nat) : Nat := if L % 2 = 0 then L + 1 else L - 1
theorem op_eq : ∀ L, L < 12 → nI L ^^^ 1 = nI (op L) := by decide +kernel
theorem op_lt {L : Nat} (h : L < 12) : op L < 12 := by unfold op; split <;> omega
theorem mk_b : ∀ L, L < 12 → ∀ i, i < 32 → bt (mk L) i = decide (i = 2 * (L / 2) ∨ i = 2 * (L / 2) + 1) := by decide +kernel
theorem rs_mk {L : Nat} (hL : L < 12) (a b : Int32) : Rsv a b (L / 2) ((a ||| b) &&& (mk L ^^^ (-1))) := fun i hi => by
  rw [b_and, b_or, b_xor, b_m1 i hi, mk_b L hL i hi]
  cases decide (i = 2 * (L / 2) ∨ i = 2 * (L / 2) + 1) <;> simp
theorem rs_one {a b s t : Int32} {c : Nat} (h : Rsv a b c s) (h2 : Rsv a b c t) : s = t := b_ext (fun i hi => (h i hi).trans (h2 i hi).symm)
theorem rs_sw {a b s : Int32} {c : Nat} (h : Rsv a b c s) : Rsv b a c s := fun i hi => by rw [h i hi, Bool.or_comm]
def Pst (k i a b : Nat) : Prop := (a ≠ k ∧ b ≠ k) ∨ (a = k ∧ b < i) ∨ (b = k ∧ a < i)
theorem sat_next {u : St} {n : Nat} {r ρ : Nat → Nat} {k i : Nat} (H : Wk u n r ρ (Pst k i)) (h1 : ∀ c R, c < 6 → u.1 2 i = 1 → isG r (u.1 1 k) (2 * c) → isG r (u.1 1 i) (2 * c + 1) → Rsv (u.1 1 k) (u.1 1 i) c R → Ok u n R) (h2 : ∀ c R, c < 6 → u.1 2 i = 1 → isG r (u.1 1 i) (2 * c) → isG r (u.1 1 k) (2 * c + 1) → Rsv (u.1 1 i) (u.1 1 k) c R → Ok u n R) : Wk u n r ρ (Pst k (i + 1)) := by
  refine ⟨H.1, H.2.1, H.2.2.1, fun a b c R ha hb hc s1 s2 g1 g2 hP hR => ?_⟩
  rcases hP with hP | ⟨e, hl⟩ | ⟨e, hl⟩
  · exact H.2.2.2 a b c R ha hb hc s1 s2 g1 g2 (Or.inl hP) hR
  · rcases Nat.lt_succ_iff_lt_or_eq.mp hl with q | q
    · exact H.2.2.2 a b c R ha hb hc s1 s2 g1 g2 (Or.inr (Or.inl ⟨e, q⟩)) hR
    · subst q; subst e
      exact h1 c R hc s2 g1 g2 hR
  · rcases Nat.lt_succ_iff_lt_or_eq.mp hl with q | q
    · exact H.2.2.2 a b c R ha hb hc s1 s2 g1 g2 (Or.inr (Or.inr ⟨e, q⟩)) hR
    · subst q; subst e
      exact h2 c R hc s1 g1 g2 hR
theorem res_ok {r ρ : Nat → Nat} {k L n0 : Nat} (hL : L < 12) (hk : k < n0) : ∀ d f i n (u : St), Wk u n r ρ (Pst k i) → isG r (u.1 1 k) L → (∀ q, n0 ≤ q → q < n → ¬ u.1 2 q = 1) → (u.1 2 k = 1 ∨ u.1 2 k = 2) → n0 ≤ n → i + d = n0 → d + 1 < f →
    ∃ (b : Bool) (u' : St), FL_X1_resolveWithDone_47 f u (nI k) (nI L) (nI L ^^^ 1) (bI (!decide (L % 2 = 1))) (mk L) (nI n0) (nI i) = some (bI b, u') ∧ (b = true → ∃ n', n ≤ n' ∧ Wk u' n' r ρ (fun _ _ => True) ∧ (u'.1 2 k = 1 ∨ u'.1 2 k = 2) ∧ u'.2.2 1 = u.2.2 1)
  | d, 0, _, _, _, _, _, _, _, _, _, h => absurd h (by omega)
  | 0, f + 1, i, n, u, H, hG, hnd, hst, hn0, hi, _ => by
    have : i = n0 := by omega
    subst this
    rw [FL_X1_resolveWithDone_47, if_pos (end_le _)]
    refine ⟨true, u, rfl, fun _ => ⟨n, Nat.le_refl _, ⟨H.1, H.2.1, H.2.2.1, fun a b c R ha hb hc s1 s2 g1 g2 _ hR => ?_⟩, hst, rfl⟩⟩
    have la : a < i := Nat.lt_of_not_le (fun q => hnd a q ha s1)
    have lb : b < i := Nat.lt_of_not_le (fun q => hnd b q hb s2)
    refine H.2.2.2 a b c R ha hb hc s1 s2 g1 g2 ?_ hR
    by_cases e1 : a = k
    · exact Or.inr (Or.inl ⟨e1, lb⟩)
    · by_cases e2 : b = k
      · exact Or.inr (Or.inr ⟨e2, la⟩)
      · exact Or.inl ⟨e1, e2⟩
  | d + 1, f + 1, i, n, u, H, hG, hnd, hst, hn0, hi, hf => by
    have hin : i < n := by omega
    have hkn : k < n := by omega
    have HC := H.1
    have h40 := HC.1
    have hge : ¬ nI n0 ≤ nI i := nI_ge (by omega) (by omega)
    rw [FL_X1_resolveWithDone_47, if_neg hge, HC.dr hkn, oB_some, nI_1]
    by_cases hd : u.1 2 k = 2
    · rw [decide_eq_true hd]
      refine ⟨true, u, rfl, fun _ => ⟨n, Nat.le_refl _, ⟨H.1, H.2.1, H.2.2.1, fun a b c R ha hb hc s1 s2 g1 g2 _ hR => ?_⟩, hst, rfl⟩⟩
      refine H.2.2.2 a b c R ha hb hc s1 s2 g1 g2 (Or.inl ⟨fun e => ?_, fun e => ?_⟩) hR
      · rw [e, hd] at s1; exact absurd s1 (by decide)
      · rw [e, hd] at s2; exact absurd s2 (by decide)
    have go : ∀ (n1 : Nat) (u1 : St), Wk u1 n1 r ρ (Pst k (i + 1)) → isG r (u1.1 1 k) L → (∀ q, n0 ≤ q → q < n1 → ¬ u1.1 2 q = 1) → (u1.1 2 k = 1 ∨ u1.1 2 k = 2) → n ≤ n1 → u1.2.2 1 = u.2.2 1 → ∃ (b : Bool) (u' : St), FL_X1_resolveWithDone_47 f u1 (nI k) (nI L) (nI L ^^^ 1) (bI (!decide (L % 2 = 1))) (mk L) (nI n0) (nI (i + 1)) = some (bI b, u') ∧ (b = true → ∃ n', n ≤ n' ∧ Wk u' n' r ρ (fun _ _ => True) ∧ (u'.1 2 k = 1 ∨ u'.1 2 k = 2) ∧ u'.2.2 1 = u.2.2 1) := by
      intro n1 u1 w1 w2 w3 w4 w5 w6
      obtain ⟨b, u', r1, r2⟩ := res_ok hL hk d f (i + 1) n1 u1 w1 w2 w3 w4 (by omega) (by omega) (by omega)
      refine ⟨b, u', r1, fun hb => ?_⟩
      obtain ⟨n', x1, x2, x3, x4⟩ := r2 hb
      exact ⟨n', by omega, x2, x3, x4.trans w6⟩
    rw [decide_eq_false hd, if_pos (show bI false = 0 from rfl), aS (by decide) (HC.lt hin), oB_some]
    by_cases hs : u.1 2 i = 1
    · rw [if_pos hs, aS (by decide) (HC.lt hin), oB_some]
      have skip : (∀ M, isG r (u.1 1 i) M → M ≠ op L) → ∃ (b : Bool) (u' : St), FL_X1_resolveWithDone_47 f u (nI k) (nI L) (nI L ^^^ 1) (bI (!decide (L % 2 = 1))) (mk L) (nI n0) (nI (i + 1)) = some (bI b, u') ∧ (b = true → ∃ n', n ≤ n' ∧ Wk u' n' r ρ (fun _ _ => True) ∧ (u'.1 2 k = 1 ∨ u'.1 2 k = 2) ∧ u'.2.2 1 = u.2.2 1) := fun hM =>
        go n u (sat_next H (fun c R hc _ g1 g2 _ => by
          have e := isG_one H.2.2.1 hG g1
          exact absurd (show 2 * c + 1 = op L by unfold op; rw [if_pos (by omega)]; omega) (hM _ g2)) (fun c R hc _ g1 g2 _ => by
          have e := isG_one H.2.2.1 hG g2
          exact absurd (show 2 * c = op L by unfold op; rw [if_neg (by omega)]; omega) (hM _ g1))) hG hnd hst (Nat.le_refl _) rfl
      rcases gr_cl H.2.2.1 HC hin with ⟨hz, g1⟩ | ⟨M, _, g1, gM⟩
      · rw [g1, oB_some, if_neg (by rw [op_eq L hL]; exact fun e => ge0 (k := op L) (by have := op_lt hL; omega) e.symm)]
        refine skip (fun M gM => ?_)
        have := gM.2.1
        rw [hz, b_0] at this
        cases this
      · rw [g1, oB_some]
        by_cases hg : nI M = nI L ^^^ 1
        · have eM : M = op L := by
            rw [op_eq L hL] at hg
            exact (nI_eq (by have := gM.1; omega) (by have := op_lt hL; omega)).mp hg
          rw [if_pos hg, aS (by decide) (HC.lt hkn), oB_some, oB_some, half_eq L hL]
          obtain ⟨m1, hm1, e1, _⟩ := (HC.cl hkn).1
          obtain ⟨m2, hm2, e2, _⟩ := (HC.cl hin).1
          have hp : ∃ m, m < 4096 ∧ (u.1 1 k ||| u.1 1 i) &&& (mk L ^^^ (-1)) = nI m := by rw [e1, e2]; exact small12 hm1 hm2 _
          have hRs := rs_mk hL (u.1 1 k) (u.1 1 i)
          have hP : Pn u n ((u.1 1 k ||| u.1 1 i) &&& (mk L ^^^ (-1))) (if L % 2 = 1 then nI i else nI k) (if L % 2 = 1 then nI k else nI i) (nI (L / 2)) := by
            by_cases h : L % 2 = 1
            · rw [if_pos h, if_pos h]
              refine Or.inr ⟨i, k, L / 2, hin, hkn, by omega, rfl, rfl, rfl, ?_, ?_, rs_sw hRs⟩
              · have := gM.2.1
                rw [eM] at this
                unfold op at this
                rw [if_neg (by omega)] at this
                rw [show 2 * (L / 2) = L - 1 by omega]
                exact this
              · rw [show 2 * (L / 2) + 1 = L by omega]; exact hG.2.1
            · rw [if_neg h, if_neg h]
              refine Or.inr ⟨k, i, L / 2, hkn, hin, by omega, rfl, rfl, rfl, ?_, ?_, hRs⟩
              · rw [show 2 * (L / 2) = L by omega]; exact hG.2.1
              · have := gM.2.1
                rw [eM] at this
                unfold op at this
                rw [if_pos (by omega)] at this
                rw [show 2 * (L / 2) + 1 = L + 1 by omega]
                exact this
          obtain ⟨v, u', n', b1, b2, b3, b4, b5, b6, b7, b8⟩ := bring_ok H hp hP
          have cls : (if bI (!decide (L % 2 = 1)) = 0 then
                if bI (!decide (L % 2 = 1)) = 0 then oB2 (F_X1_bring u ((u.1 1 k ||| u.1 1 i) &&& (mk L ^^^ (-1))) (nI i) (nI k) (nI (L / 2))) fun v24 w25 => if v24 = -1000003 then some ((0 : Int32), (w25.1, w25.2.1, w25.2.2)) else FL_X1_resolveWithDone_47 f (w25.1, w25.2.1, w25.2.2) (nI k) (nI L) (nI L ^^^ 1) (bI (!decide (L % 2 = 1))) (mk L) (nI n0) (nI (i + 1))
                else oB2 (F_X1_bring u ((u.1 1 k ||| u.1 1 i) &&& (mk L ^^^ (-1))) (nI i) (nI i) (nI (L / 2))) fun v28 w29 => if v28 = -1000003 then some ((0 : Int32), (w29.1, w29.2.1, w29.2.2)) else FL_X1_resolveWithDone_47 f (w29.1, w29.2.1, w29.2.2) (nI k) (nI L) (nI L ^^^ 1) (bI (!decide (L % 2 = 1))) (mk L) (nI n0) (nI (i + 1))
              else if bI (!decide (L % 2 = 1)) = 0 then oB2 (F_X1_bring u ((u.1 1 k ||| u.1 1 i) &&& (mk L ^^^ (-1))) (nI k) (nI k) (nI (L / 2))) fun v33 w34 => if v33 = -1000003 then some ((0 : Int32), (w34.1, w34.2.1, w34.2.2)) else FL_X1_resolveWithDone_47 f (w34.1, w34.2.1, w34.2.2) (nI k) (nI L) (nI L ^^^ 1) (bI (!decide (L % 2 = 1))) (mk L) (nI n0) (nI (i + 1))
                else oB2 (F_X1_bring u ((u.1 1 k ||| u.1 1 i) &&& (mk L ^^^ (-1))) (nI k) (nI i) (nI (L / 2))) fun v37 w38 => if v37 = -1000003 then some ((0 : Int32), (w38.1, w38.2.1, w38.2.2)) else FL_X1_resolveWithDone_47 f (w38.1, w38.2.1, w38.2.2) (nI k) (nI L) (nI L ^^^ 1) (bI (!decide (L % 2 = 1))) (mk L) (nI n0) (nI (i + 1)))
              = (if v = -1000003 then some ((0 : Int32), u') else FL_X1_resolveWithDone_47 f u' (nI k) (nI L) (nI L ^^^ 1) (bI (!decide (L % 2 = 1))) (mk L) (nI n0) (nI (i + 1))) := by
            by_cases h : L % 2 = 1
            · rw [if_pos h, if_pos h] at b1
              rw [decide_eq_true h, if_pos (show bI (!true) = 0 from rfl), if_pos (show bI (!true) = 0 from rfl), b1]
              rfl
            · rw [if_neg h, if_neg h] at b1
              rw [decide_eq_false h, if_neg (show ¬ bI (!false) = 0 by decide), if_neg (show ¬ bI (!false) = 0 by decide), b1]
              rfl
          rw [cls]
          rcases b8 with ⟨_, hv, _⟩ | ⟨hok, hv⟩
          · rw [if_pos hv]
            exact ⟨false, u', rfl, fun h => by cases h⟩
          · have hv3 : ¬ v = -1000003 := by
              rcases hv with ⟨_, h, _⟩ | ⟨_, h⟩ | ⟨_, h⟩
              · rw [h]; decide
              · rw [h]; decide
              · exact (m3_ne (k := n) (by omega) h).1
            rw [if_neg hv3]
            refine go n' u' (sat_next b7 (fun c R hc _ q1 q2 hR => ?_) (fun c R hc _ q1 q2 hR => ?_)) ?_ ?_ ?_ b2 b4
            · rw [(b5 k hkn).1] at q1 hR
              rw [(b5 i hin).1] at hR
              have e := isG_one H.2.2.1 hG q1
              rw [show c = L / 2 by omega] at hR
              rw [rs_one hR hRs]
              exact hok
            · rw [(b5 k hkn).1] at q2 hR
              rw [(b5 i hin).1] at hR
              have e := isG_one H.2.2.1 hG q2
              rw [show c = L / 2 by omega] at hR
              rw [rs_one (rs_sw hR) hRs]
              exact hok
            · rw [(b5 k hkn).1]; exact hG
            · intro q h1 h2 h3
              rcases Nat.lt_or_ge q n with hq | hq
              · rcases (b5 q hq).2 with e | e
                · rw [e] at h3; exact hnd q h1 hq h3
                · rw [e] at h3; exact absurd h3 (by decide)
              · rw [b6 q hq h2] at h3; exact absurd h3 (by decide)
            · rcases (b5 k hkn).2 with e | e
              · rw [e]; exact hst
              · exact Or.inr e
        · rw [if_neg hg]
          refine skip (fun M' gM' e => hg ?_)
          rw [isG_one H.2.2.1 gM gM', e, op_eq L hL]
    · rw [if_neg hs]
      exact go n u (sat_next H (fun c R hc h => absurd h hs) (fun c R hc h => absurd h hs)) hG hnd hst (Nat.le_refl _) rfl
