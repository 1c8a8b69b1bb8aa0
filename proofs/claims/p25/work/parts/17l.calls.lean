/-! The changing calls, as the law asks them -/
theorem low_ok (p : Int32) {d : Nat} (h0 : 0 < d) (hd : d < 2 ^ 31) : ∃ m, m < d ∧ F_L_low p (nI d) = some (nI m) := by
  obtain ⟨z, hz, rfl⟩ := b_rep p
  have e : nI z &&& 2147483647 = nI (z % 2 ^ 31) := by
    rw [show (2147483647 : Int32) = nI (2 ^ 31 - 1) from rfl, fa_and, Nat.and_two_pow_sub_one_eq_mod]
  refine ⟨z % 2 ^ 31 % d, Nat.mod_lt _ h0, ?_⟩
  unfold F_L_low iRem
  rw [e, if_neg (nI_ne0 (by omega) (by omega)), pk_rem (Nat.mod_lt _ (by decide)) h0 hd]
  rfl
theorem Iv.cs {u : St} {n : Nat} (h : Iv u n) : Cs u n := by obtain ⟨r, ρ, h⟩ := h; exact h.1
theorem Iv.of {u : St} {n : Nat} {r ρ : Nat → Nat} (h : Wk u n r ρ (fun _ _ => True)) : Iv u n := ⟨r, ρ, h⟩
theorem gt_err {k : Nat} (h : k < 2 ^ 31) : (-1000001 : Int32) < nI k := by
  rw [Int32.lt_iff_toInt_lt, nI_toInt h]
  show (-1000001 : Int) < _
  omega
theorem tell_x {x : XS} {n k t m : Nat} (h : Ix x n k t) (hm : m < 4096) : ∃ v x', F_X3_tell x (nI m) = some (v, x') ∧ Ef x k x' ∧ ((v = nI n ∧ Iv x'.1 (n + 1)) ∨ (v = -1 ∧ ha (nI m) 6 = true ∧ Iv x'.1 n) ∨ (v = -2 ∧ Iv x'.1 n) ∨ (v = -1000003 ∧ n = 40)) := by
  obtain ⟨x1, b1, b2, b3, bK, bB⟩ := begin_ok h
  obtain ⟨r, ρ, hW⟩ := h.1
  have h40 := hW.1.1
  obtain ⟨v, u', n', c1, _, _, _, _, _, c7, c8⟩ := bring_ok hW (p0 := nI m) (p1 := -1) (p2 := -1) (p3 := -1) ⟨m, hm, rfl⟩ (Or.inl ⟨rfl, rfl⟩)
  unfold F_X3_tell
  rw [if_neg (nI_pos (by omega)), if_pos (show nI m ≤ 4095 from nI_le (a := m) (b := 4095) (by omega) (by decide)), show F_X0_putAside (x.1, x.2.1, x.2.2.1, x.2.2.2.1, x.2.2.2.2) = some x1 from b1, oB_some, b2, c1, oB2_some]
  rcases c8 with ⟨_, hv, hn⟩ | ⟨_, hv⟩
  · obtain ⟨x2, d1, _, d3⟩ := bB u' v (by rw [hv]; decide)
    rw [d1, oB2_some]
    exact ⟨_, x2, rfl, d3, Or.inr (Or.inr (Or.inr ⟨hv, hn⟩))⟩
  · have hlt : (-1000001 : Int32) < v := by
      rcases hv with ⟨_, hv, _⟩ | ⟨_, hv⟩ | ⟨_, hv⟩
      · rw [hv]; decide
      · rw [hv]; decide
      · rw [hv]; exact gt_err (by omega)
    obtain ⟨x2, d1, d2, d3⟩ := bK u' n' v (Iv.of c7) hlt
    rw [d1, oB2_some]
    refine ⟨_, x2, rfl, d3, ?_⟩
    rcases hv with ⟨hn, hv, hh⟩ | ⟨hn, hv⟩ | ⟨hn, hv⟩ <;> subst hn <;> rw [d2]
    · exact Or.inr (Or.inl ⟨hv, hh, Iv.of c7⟩)
    · exact Or.inr (Or.inr (Or.inl ⟨hv, Iv.of c7⟩))
    · exact Or.inl ⟨hv, Iv.of c7⟩
theorem tell_bad (x : XS) {m : Nat} (h : 4096 ≤ m) (h2 : m < 2 ^ 31) : F_X3_tell x (nI m) = some (-1000001, x) := by
  unfold F_X3_tell
  rw [if_neg (nI_pos h2), if_neg (show ¬ nI m ≤ 4095 from nI_ge (a := 4095) (b := m) (by omega) h2)]
theorem cn_all {p : Nat → Bool} : ∀ n, (∀ i, i < n → p i = true) → cn p n = n
  | 0, _ => rfl
  | n + 1, h => by
    show cn p n + (p n).toNat = n + 1
    rw [cn_all n (fun i hi => h i (by omega)), h n (by omega)]
    rfl
theorem share_1 (x : XS) {m : Nat} (hm : m < 4096) (h : ha (nI m) 6 = true) : F_X3_share x (nI m) = some 1065353216 := by
  obtain ⟨V, h1, h2⟩ := vals (nI m)
  unfold F_X3_share
  rw [if_neg (nI_pos (by omega)), if_pos (show nI m ≤ 4095 from nI_le (a := m) (b := 4095) (by omega) (by decide)), h1, oB_some, j13_cn, cn_all 64 (fun i hi => by rw [h2 i hi]; exact sw_sat.mpr (sw_ha _ h)), oB_some]
  decide +kernel
theorem rank_x {x : XS} {n k t a b : Nat} (h : Ix x n k t) (ha : a < 6) (hb : b < 6) : ∃ w x', F_X3_count x (nI (10 + a)) = some (nI w) ∧ F_X3_rank x (nI a) (nI b) = some (nI w, x') ∧ Ef x k x' := by
  obtain ⟨x1, b1, b2, b3, bK, bB⟩ := begin_ok h
  obtain ⟨w, u', hw, r1, r2, r3⟩ := rank_ok h.1 ha hb
  obtain ⟨x2, d1, d2, d3⟩ := bK u' n (nI w) r3 (gt_err (by omega))
  refine ⟨w, x2, ?_, ?_, d3⟩
  · have e : nI (10 + a) - 10 = nI a := by rw [show (10 : Int32) = nI 10 from rfl, pk_sub (by omega)]; congr 1; omega
    unfold F_X3_count
    rw [e, r1]
    rcases (show a = 0 ∨ a = 1 ∨ a = 2 ∨ a = 3 ∨ a = 4 ∨ a = 5 by omega) with q | q | q | q | q | q <;> subst q <;> rfl
  · unfold F_X3_rank
    rw [if_neg (nI_pos (by omega)), if_neg (show ¬ (6 : Int32) ≤ nI a from nI_ge (a := a) (b := 6) ha (by decide)), if_neg (nI_pos (by omega)), if_pos (show nI b < 6 from nI_lt (a := b) (b := 6) hb (by decide)), show F_X0_putAside (x.1, x.2.1, x.2.2.1, x.2.2.2.1, x.2.2.2.2) = some x1 from b1, oB_some, b2, r2, oB2_some, d1, oB2_some]
theorem rank_bad (x : XS) {a b : Nat} (h : a = 6 ∨ b = 6) (ha : a < 7) (hb : b < 7) : F_X3_rank x (nI a) (nI b) = some (-1000001, x) := by
  unfold F_X3_rank
  rw [if_neg (nI_pos (by omega))]
  by_cases h6 : a = 6
  · rw [if_pos (show (6 : Int32) ≤ nI a by rw [h6]; decide)]
  · rw [if_neg (show ¬ (6 : Int32) ≤ nI a from nI_ge (a := a) (b := 6) (by omega) (by decide)), if_neg (nI_pos (by omega)), if_neg (show ¬ nI b < 6 by rw [show b = 6 by omega]; decide)]
theorem set_x {x : XS} {n k t g : Nat} (h : Ix x n k t) (h1 : 1 ≤ g) (h9 : g ≤ 9) : ∃ x', F_X3_set x (nI g) = some (x.1.2.2 2, x') ∧ Ef x k x' := by
  obtain ⟨x1, b1, b2, b3, bK, bB⟩ := begin_ok h
  obtain ⟨o, o1, o9, eo⟩ := h.1.cs.2.2.1
  obtain ⟨x2, d1, d2, d3⟩ := bK (inr x.1 2 (nI g)) n (x.1.2.2 2) (set_ok h.1 h1 h9) (by rw [eo]; exact gt_err (by omega))
  refine ⟨x2, ?_, d3⟩
  unfold F_X3_set
  rw [if_neg (show ¬ nI g < 1 from nI_nlt (a := g) (b := 1) h1 (by omega)), if_pos (show nI g ≤ 9 from nI_le (a := g) (b := 9) h9 (by decide)), show F_X0_putAside (x.1, x.2.1, x.2.2.1, x.2.2.2.1, x.2.2.2.2) = some x1 from b1, oB_some, b2]
  rw [show F_X3_settle ((x.1.1, x.1.2.1, va_up x.1.2.2 2 (nI g)), x1.2.1, x1.2.2.1, x1.2.2.2.1, x1.2.2.2.2) (x.1.2.2 2) = some (x.1.2.2 2, x2) from d1]
  rfl
theorem set_bad (x : XS) {g : Nat} (h : g = 0 ∨ g = 10) : F_X3_set x (nI g) = some (-1000001, x) := by
  unfold F_X3_set
  rcases h with h | h <;> subst h
  · rw [if_pos (show nI 0 < 1 by decide)]
  · rw [if_neg (show ¬ nI 10 < 1 by decide), if_neg (show ¬ nI 10 ≤ 9 by decide)]
theorem empty_x {x : XS} {n k t : Nat} (h : Ix x n k t) : ∃ x', F_X3_empty x = some (nI n, x') ∧ Ef x k x' ∧ Iv x'.1 0 ∧ x'.1.2.2 1 = 0 := by
  obtain ⟨x1, b1, b2, b3, bK, bB⟩ := begin_ok h
  have hn := h.1.cs.1
  obtain ⟨x2, d1, d2, d3⟩ := bK (inr (inr x.1 0 0) 1 0) 0 (nI n) (empty_ok h.1) (gt_err (by omega))
  refine ⟨x2, ?_, d3, by rw [d2]; exact empty_ok h.1, by rw [d2]; exact inr_s _ 1 0⟩
  unfold F_X3_empty
  rw [show F_X0_putAside (x.1, x.2.1, x.2.2.1, x.2.2.2.1, x.2.2.2.2) = some x1 from b1, oB_some, b2, h.1.cs.2.1]
  rw [show F_X3_settle (((x.1.1, x.1.2.1, va_up x.1.2.2 0 (0 : Int32)).1, (x.1.1, x.1.2.1, va_up x.1.2.2 0 (0 : Int32)).2.1, va_up (x.1.1, x.1.2.1, va_up x.1.2.2 0 (0 : Int32)).2.2 1 (0 : Int32)), x1.2.1, x1.2.2.1, x1.2.2.2.1, x1.2.2.2.2) (nI n) = some (nI n, x2) from d1]
  rfl
/-- no step is left -/
def Nos (u : St) (n : Nat) : Prop := (∀ k, k < n → ¬ u.1 2 k = 0) ∨ ∃ k, k < n ∧ u.1 1 k = 0
theorem Nos.cg {u u' : St} {n : Nat} (h : Nos u n) (hn : n ≤ 40) (a : Ag u' u) : Nos u' n := by
  rcases h with h | ⟨k, h1, h2⟩
  · exact Or.inl (fun k hk => by rw [a.row (by decide) (by decide) (by omega)]; exact h k hk)
  · exact Or.inr ⟨k, h1, by rw [a.row (by decide) (by decide) (by omega)]; exact h2⟩
theorem step_x {x : XS} {n k t : Nat} (h : Ix x n k t) : ∃ v x', F_X3_step x = some (v, x') ∧ Ef x k x' ∧ ((v = -1000002 ∧ Iv x'.1 n ∧ Nos x'.1 n) ∨ v = -1000003 ∨ ∃ j n', j < n' ∧ v = nI j ∧ Iv x'.1 n' ∧ (x'.1.1 2 j = 1 ∨ x'.1.1 2 j = 2) ∧ x'.1.2.2 1 = x.1.2.2 1 + 1) := by
  obtain ⟨x1, b1, b2, b3, bK, bB⟩ := begin_ok h
  have hn := h.1.cs.1
  obtain ⟨v, u', s1, s2⟩ := step_ok h.1
  unfold F_X3_step
  rw [show F_X0_putAside (x.1, x.2.1, x.2.2.1, x.2.2.2.1, x.2.2.2.2) = some x1 from b1, oB_some, b2, s1, oB2_some]
  rcases s2 with ⟨hv, hu, hs⟩ | hv | ⟨j, n', hj, hv, hnn, hI, hst, hstep⟩
  · obtain ⟨x2, d1, d2, d3⟩ := bB u' v (by rw [hv]; decide)
    rw [d1, oB2_some]
    exact ⟨_, x2, rfl, d3, Or.inl ⟨hv, h.1.cg d2, Nos.cg hs hn d2⟩⟩
  · obtain ⟨x2, d1, _, d3⟩ := bB u' v (by rw [hv]; decide)
    rw [d1, oB2_some]
    exact ⟨_, x2, rfl, d3, Or.inr (Or.inl hv)⟩
  · obtain ⟨x2, d1, d2, d3⟩ := bK u' n' v hI (by rw [hv]; exact gt_err (by omega))
    rw [d1, oB2_some]
    exact ⟨_, x2, rfl, d3, Or.inr (Or.inr ⟨j, n', by omega, hv, by rw [d2]; exact hI, by rw [d2]; exact hst, by rw [d2]; exact hstep⟩)⟩
theorem run_loop {x x1 : XS} {k : Nat} (bK : ∀ u' n' v, Iv u' n' → (-1000001 : Int32) < v → ∃ x2, F_X3_settle (u', x1.2.1, x1.2.2.1, x1.2.2.2.1, x1.2.2.2.2) v = some (v, x2) ∧ x2.1 = u' ∧ Ef x k x2) (bB : ∀ u' v, ¬ (-1000001 : Int32) < v → ∃ x2, F_X3_settle (u', x1.2.1, x1.2.2.1, x1.2.2.2.1, x1.2.2.2.2) v = some (v, x2) ∧ Ag x2.1 x.1 ∧ Ef x k x2) {most : Nat} (hm : most ≤ 40) (s0 : Int32) :
    ∀ d f i n (u : St), i + d = most → d < f → Iv u n → u.2.2 1 = s0 + nI i → ∃ v x2, FL_X3_run_29 f (u, x1.2.1, x1.2.2.1, x1.2.2.2.1, x1.2.2.2.2) (nI most) (nI i) (nI i) = some (v, x2) ∧ Ef x k x2 ∧ (v = -1000003 ∨ ∃ c n2, c ≤ most ∧ v = nI c ∧ Iv x2.1 n2 ∧ x2.1.2.2 1 = s0 + nI c ∧ (c = most ∨ Nos x2.1 n2))
  | d, 0, _, _, _, _, h, _, _ => absurd h (by omega)
  | 0, f + 1, i, n, u, hi, _, hI, hs => by
    have : i = most := by omega
    subst this
    rw [FL_X3_run_29, if_pos (end_le _)]
    obtain ⟨x2, d1, d2, d3⟩ := bK u n (nI i) hI (gt_err (by omega))
    rw [show F_X3_settle ((u, x1.2.1, x1.2.2.1, x1.2.2.2.1, x1.2.2.2.2).1, (u, x1.2.1, x1.2.2.1, x1.2.2.2.1, x1.2.2.2.2).2.1, (u, x1.2.1, x1.2.2.1, x1.2.2.2.1, x1.2.2.2.2).2.2.1, (u, x1.2.1, x1.2.2.1, x1.2.2.2.1, x1.2.2.2.2).2.2.2.1, (u, x1.2.1, x1.2.2.1, x1.2.2.2.1, x1.2.2.2.2).2.2.2.2) (nI i) = some (nI i, x2) from d1, oB2_some]
    exact ⟨_, x2, rfl, d3, Or.inr ⟨i, n, Nat.le_refl _, rfl, by rw [d2]; exact hI, by rw [d2]; exact hs, Or.inl rfl⟩⟩
  | d + 1, f + 1, i, n, u, hi, _, hI, hs => by
    have hn := hI.cs.1
    obtain ⟨v, u', s1, s2⟩ := step_ok hI
    rw [FL_X3_run_29, if_neg (show ¬ nI most ≤ nI i from nI_ge (by omega) (by omega))]
    rw [show F_X1_takeStep (u, x1.2.1, x1.2.2.1, x1.2.2.2.1, x1.2.2.2.2).1 = some (v, u') from s1, oB2_some]
    rcases s2 with ⟨hv, hu, hns⟩ | hv | ⟨j, n', hj, hv, hnn, hI', hst, hstep⟩
    · rw [if_neg (by rw [hv]; decide), if_pos hv]
      subst hu
      obtain ⟨x2, d1, d2, d3⟩ := bK u' n (nI i) hI (gt_err (by omega))
      rw [show F_X3_settle (u', (u', x1.2.1, x1.2.2.1, x1.2.2.2.1, x1.2.2.2.2).2.1, (u', x1.2.1, x1.2.2.1, x1.2.2.2.1, x1.2.2.2.2).2.2.1, (u', x1.2.1, x1.2.2.1, x1.2.2.2.1, x1.2.2.2.2).2.2.2.1, (u', x1.2.1, x1.2.2.1, x1.2.2.2.1, x1.2.2.2.2).2.2.2.2) (nI i) = some (nI i, x2) from d1, oB2_some]
      exact ⟨_, x2, rfl, d3, Or.inr ⟨i, n, by omega, rfl, by rw [d2]; exact hI, by rw [d2]; exact hs, Or.inr (by rw [d2]; exact hns)⟩⟩
    · rw [if_pos hv]
      obtain ⟨x2, d1, _, d3⟩ := bB u' (-1000003) (by decide)
      rw [show F_X3_settle (u', (u, x1.2.1, x1.2.2.1, x1.2.2.2.1, x1.2.2.2.2).2.1, (u, x1.2.1, x1.2.2.1, x1.2.2.2.1, x1.2.2.2.2).2.2.1, (u, x1.2.1, x1.2.2.1, x1.2.2.2.1, x1.2.2.2.2).2.2.2.1, (u, x1.2.1, x1.2.2.1, x1.2.2.2.1, x1.2.2.2.2).2.2.2.2) (-1000003) = some (-1000003, x2) from d1, oB2_some]
      exact ⟨_, x2, rfl, d3, Or.inl rfl⟩
    · have h3 := m3_ne (k := j) (by omega) hv
      rw [if_neg h3.1, if_neg (fun q => h3.2 (by rw [q]; decide)), nI_1]
      exact run_loop bK bB hm s0 d f (i + 1) n' u' (by omega) (by omega) hI' (by rw [hstep, hs, Int32.add_assoc, nI_1])
theorem run_x {x : XS} {n k t most : Nat} (h : Ix x n k t) (h1 : 1 ≤ most) (hm : most ≤ 40) : ∃ v x', F_X3_run x (nI most) = some (v, x') ∧ Ef x k x' ∧ (v = -1000003 ∨ ∃ c n2, c ≤ most ∧ v = nI c ∧ Iv x'.1 n2 ∧ x'.1.2.2 1 = x.1.2.2 1 + nI c ∧ (c = most ∨ Nos x'.1 n2)) := by
  obtain ⟨x1, b1, b2, b3, bK, bB⟩ := begin_ok h
  obtain ⟨v, x2, r1, r2, r3⟩ := run_loop bK bB hm (x.1.2.2 1) most fuel 0 n x.1 (by omega) (by unfold fuel; omega) h.1 (by rw [show nI 0 = 0 from rfl, Int32.add_zero])
  refine ⟨v, x2, ?_, r2, r3⟩
  unfold F_X3_run
  rw [if_neg (show ¬ nI most < 1 from nI_nlt (a := most) (b := 1) h1 (by omega)), if_pos (show nI most ≤ 40 from nI_le (a := most) (b := 40) hm (by decide)), show F_X0_putAside (x.1, x.2.1, x.2.2.1, x.2.2.2.1, x.2.2.2.2) = some x1 from b1, oB_some, ← r1, b2]
  rfl
theorem run_bad (x : XS) {m : Nat} (h : m = 0 ∨ 41 ≤ m) (h2 : m < 2 ^ 31) : F_X3_run x (nI m) = some (-1000001, x) := by
  unfold F_X3_run
  rcases h with h | h
  · subst h
    rw [if_pos (show nI 0 < 1 by decide)]
  · rw [if_neg (show ¬ nI m < 1 from nI_nlt (a := m) (b := 1) (by omega) h2), if_neg (show ¬ nI m ≤ 40 from nI_ge (a := 40) (b := m) (by omega) h2)]
