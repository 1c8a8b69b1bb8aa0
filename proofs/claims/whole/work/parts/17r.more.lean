/-! rank, run, undo, count -/
theorem sim_rank {x : XS} {y : St} (h : Rl x y) (p q : Int32) : ∃ v x1 y1, F_X3_rank x p q = some (v, x1) ∧ F_X4_rank y p q = some (v, y1) ∧ Rl x1 y1 := by
  have six : ∀ z : Int32, (6 : Int32) ≤ z ↔ 5 < z := fun z => by
    rw [Int32.le_iff_toInt_le, Int32.lt_iff_toInt_lt]
    exact Iff.rfl
  have six2 : ∀ z : Int32, z < 6 ↔ ¬ 5 < z := fun z => by
    rw [← six, le_lt, Classical.not_not]
  have bad : ((if p < 0 then (0 : Int32) else if 5 < p then 0 else 1) = 0 ∨ (if q < 0 then (0 : Int32) else if 5 < q then 0 else 1) = 0) → ∃ y1, F_X4_rank y p q = some (-1000001, y1) ∧ Rl x y1 := by
    intro hz
    obtain ⟨y1, y2, a, b, c⟩ := bad_ok h
    refine ⟨y2, ?_, c⟩
    unfold F_X4_rank
    rw [a, oB_some, in_eq, in_eq, oB_some]
    by_cases hp : (if p < 0 then (0 : Int32) else if 5 < p then 0 else 1) = 0
    · rw [if_pos hp, show F_X4_acted (y1.1, y1.2.1, y1.2.2) (-1000001) = some (-1000001, y2) from b]
      rfl
    · rw [if_neg hp, oB_some, if_pos (hz.resolve_left hp), show F_X4_acted (y1.1, y1.2.1, y1.2.2) (-1000001) = some (-1000001, y2) from b]
      rfl
  by_cases h1 : p < 0
  · obtain ⟨y1, a, b⟩ := bad (Or.inl (if_pos h1))
    exact ⟨_, x, y1, by unfold F_X3_rank; rw [if_pos h1], a, b⟩
  by_cases h2 : 5 < p
  · obtain ⟨y1, a, b⟩ := bad (Or.inl (by rw [if_neg h1, if_pos h2]))
    exact ⟨_, x, y1, by unfold F_X3_rank; rw [if_neg h1, if_pos ((six p).mpr h2)], a, b⟩
  by_cases h3 : q < 0
  · obtain ⟨y1, a, b⟩ := bad (Or.inr (if_pos h3))
    exact ⟨_, x, y1, by unfold F_X3_rank; rw [if_neg h1, if_neg (fun z => h2 ((six p).mp z)), if_pos h3], a, b⟩
  by_cases h4 : 5 < q
  · obtain ⟨y1, a, b⟩ := bad (Or.inr (by rw [if_neg h3, if_pos h4]))
    exact ⟨_, x, y1, by unfold F_X3_rank; rw [if_neg h1, if_neg (fun z => h2 ((six p).mp z)), if_neg h3, if_neg (fun z => (six2 q).mp z h4)], a, b⟩
  obtain ⟨x1, y1, n, b1, b2, hM, H, _⟩ := begin_ok h
  obtain ⟨a, ha, ea⟩ := nI_of2 (M := 5) (n := 5) rfl h1 ((le_lt p 5).mpr h2)
  obtain ⟨t, ht, et⟩ := nI_of2 (M := 5) (n := 5) rfl h3 ((le_lt q 5).mpr h4)
  obtain ⟨w, u', y', n', _, c1, c2, H', hF⟩ := rank_eq H (a := a) (t := t) (by omega) (by omega)
  rw [← ea, ← et] at c1 c2
  obtain ⟨x2, y2, d1, d2, hR⟩ := act_ok hM H' hF (nI w)
  refine ⟨nI w, x2, y2, ?_, ?_, hR⟩
  · unfold F_X3_rank
    rw [if_neg h1, if_neg (fun z => h2 ((six p).mp z)), if_neg h3, if_pos ((six2 q).mpr h4), show F_X0_putAside (x.1, x.2.1, x.2.2.1, x.2.2.2.1, x.2.2.2.2) = some x1 from b1, oB_some, c1, oB2_some, d1]
    rfl
  · unfold F_X4_rank
    rw [b2, oB_some, in_eq, in_eq, oB_some, oB_some, if_neg h1, if_neg h2, if_neg h3, if_neg h4, if_neg (show ¬ (1 : Int32) = 0 by decide), if_neg (show ¬ (1 : Int32) = 0 by decide), show F_X4_ranks (y1.1, y1.2.1, y1.2.2) p q = some (nI w, y') from c2, oB2_some, show F_X4_acted (y'.1, y'.2.1, y'.2.2) (nI w) = some (nI w, y2) from d2]
    rfl
theorem run_loop {x1 : XS} {q : Nat} (hq : q ≤ 40) : ∀ d f g c n (u y : St), Md (u, x1.2.1, x1.2.2.1, x1.2.2.2.1, x1.2.2.2.2) y → Rs u (y.1 0) n → c + d = q → d < f → d < g → ∃ v x2 y' y2, FL_X3_run_29 f (u, x1.2.1, x1.2.2.1, x1.2.2.2.1, x1.2.2.2.2) (nI q) (nI c) (nI c) = some (v, x2) ∧ FL_X4_runs_2 g y (nI q) (nI c) = some (v, y') ∧ F_X4_acted y' v = some (v, y2) ∧ Rl x2 y2
  | d, 0, _, _, _, _, _, _, _, _, h, _ => absurd h (by omega)
  | d, _ + 1, 0, _, _, _, _, _, _, _, _, h => absurd h (by omega)
  | 0, f + 1, g + 1, c, n, u, y, hM, H, hc, _, _ => by
    have : c = q := by omega
    subst this
    obtain ⟨x2, y2, d1, d2, hR⟩ := settle_ok hM H (nI c)
    rw [FL_X3_run_29, FL_X4_runs_2, if_pos (end_le _), if_pos (end_le _)]
    dsimp only
    rw [d1]
    exact ⟨nI c, x2, y, y2, rfl, rfl, d2, hR⟩
  | d + 1, f + 1, g + 1, c, n, u, y, hM, H, hc, _, _ => by
    have hge : ¬ nI q ≤ nI c := nI_ge (by omega) (by omega)
    obtain ⟨v, u', y', n', c1, c2, H', hF⟩ := step_eq H
    have hM' : Md (u', x1.2.1, x1.2.2.1, x1.2.2.2.1, x1.2.2.2.2) y' := hM.fr rfl hF.2 (by rw [hF.1]) (by rw [hF.1])
    rw [FL_X3_run_29, FL_X4_runs_2, if_neg hge, if_neg hge]
    dsimp only
    rw [c1, c2, oB2_some, oB2_some, nI_1]
    by_cases e3 : v = -1000003
    · obtain ⟨x2, y2, d1, d2, hR⟩ := settle_ok hM' H' (-1000003)
      rw [if_pos e3, if_pos e3, d1]
      exact ⟨-1000003, x2, y', y2, rfl, by rw [e3], d2, hR⟩
    · by_cases e2 : v = -1000002
      · obtain ⟨x2, y2, d1, d2, hR⟩ := settle_ok hM' H' (nI c)
        rw [if_neg e3, if_neg e3, if_pos e2, if_pos e2, d1]
        exact ⟨nI c, x2, y', y2, rfl, rfl, d2, hR⟩
      · rw [if_neg e3, if_neg e3, if_neg e2, if_neg e2]
        exact run_loop hq d f g (c + 1) n' u' y' hM' H' (by omega) (by omega) (by omega)
theorem sim_run {x : XS} {y : St} (h : Rl x y) (p : Int32) : ∃ v x1 y1, F_X3_run x p = some (v, x1) ∧ F_X4_run y p = some (v, y1) ∧ Rl x1 y1 := by
  have bad : (if p < 1 then (0 : Int32) else if 40 < p then 0 else 1) = 0 → ∃ y1, F_X4_run y p = some (-1000001, y1) ∧ Rl x y1 := by
    intro hz
    obtain ⟨y1, y2, a, b, c⟩ := bad_ok h
    refine ⟨y2, ?_, c⟩
    unfold F_X4_run
    rw [a, oB_some, in_eq, oB_some, if_pos hz, show F_X4_acted (y1.1, y1.2.1, y1.2.2) (-1000001) = some (-1000001, y2) from b]
    rfl
  by_cases h1 : p < 1
  · obtain ⟨y1, a, b⟩ := bad (if_pos h1)
    exact ⟨_, x, y1, by unfold F_X3_run; rw [if_pos h1], a, b⟩
  by_cases h2 : 40 < p
  · obtain ⟨y1, a, b⟩ := bad (by rw [if_neg h1, if_pos h2])
    exact ⟨_, x, y1, by unfold F_X3_run; rw [if_neg h1, if_neg (fun q => (le_lt p 40).mp q h2)], a, b⟩
  have h0 : ¬ p < 0 := fun q => h1 (by rw [Int32.lt_iff_toInt_lt] at q ⊢; exact Int.lt_trans q (by decide))
  obtain ⟨q, hq, eq⟩ := nI_of2 (M := 40) (n := 40) rfl h0 ((le_lt p 40).mpr h2)
  obtain ⟨x1, y1, n, b1, b2, hM, H, _⟩ := begin_ok h
  obtain ⟨v, x2, y', y2, r1, r2, r3, hR⟩ := run_loop (x1 := x1) hq q fuel fuel 0 n x1.1 y1 hM H (by omega) (by unfold fuel; omega) (by unfold fuel; omega)
  refine ⟨v, x2, y2, ?_, ?_, hR⟩
  · unfold F_X3_run
    rw [if_neg h1, if_pos ((le_lt p 40).mpr h2), show F_X0_putAside (x.1, x.2.1, x.2.2.1, x.2.2.2.1, x.2.2.2.2) = some x1 from b1, oB_some, eq]
    exact r1
  · unfold F_X4_run F_X4_runs
    rw [b2, oB_some, in_eq, oB_some, if_neg h1, if_neg h2, if_neg (show ¬ (1 : Int32) = 0 by decide), eq]
    show (oB2 (FL_X4_runs_2 fuel y1 (nI q) 0) fun v10 w11 => oB2 (F_X4_acted (w11.1, w11.2.1, w11.2.2) v10) fun v13 w14 => some (v13, (w14.1, w14.2.1, w14.2.2))) = _
    rw [show FL_X4_runs_2 fuel y1 (nI q) 0 = some (v, y') from r2, oB2_some, show F_X4_acted (y'.1, y'.2.1, y'.2.2) v = some (v, y2) from r3]
    rfl
theorem sim_undo {x : XS} {y : St} (h : Rl x y) : ∃ v x1 y1, F_X3_undo x = some (v, x1) ∧ F_X4_undo y = some (v, y1) ∧ Rl x1 y1 := by
  have h0 := h
  obtain ⟨n, k, t, H, hk, hx, hy, hP, hH, hT⟩ := h
  obtain ⟨M, C, π, K, T⟩ := x
  dsimp only at hx hP hH hT H
  unfold F_X3_undo F_X4_undo F_X0_restoreLatest
  dsimp only
  rw [hx]
  cases k with
  | zero =>
    rw [if_neg (show ¬ 0 < nI 0 by decide), if_pos (show y.2.2 0 = 0 from hy)]
    exact ⟨_, (M, C, π, nI 0, T), y, rfl, rfl, n, 0, t, H, hk, rfl, hy, hP, hH, hT⟩
  | succ k =>
    rw [if_pos (show 0 < nI (k + 1) from nI_lt (a := 0) (by omega) (by omega)), if_neg (show ¬ y.2.2 0 = 0 from fun e => nI_ne0 (n := k + 1) (by omega) (by omega) (hy.symm.trans e)), nI_pred, st_at (π := π) (by omega), oB_some, oM_lt (hP.1 k (by omega))]
    obtain ⟨w, w1, w2⟩ := copy_eq M (C (π k))
    obtain ⟨m, hm⟩ := hH k (by omega)
    have y0 : ((y.1, y.2.1, va_up y.2.2 0 (y.2.2 0 - 1)) : St).2.2 0 = nI k := by
      show va_up y.2.2 0 (y.2.2 0 - 1) 0 = _
      rw [va_up_self, hy, nI_pred]
    obtain ⟨y', a1, a2, _, a4, a5⟩ := undo_loop (k := k) (by omega) 251 fuel 0 (y.1, y.2.1, va_up y.2.2 0 (y.2.2 0 - 1)) rfl (by decide) y0
    have e1 : y'.2.2 1 = y.2.2 1 := by
      rw [a4]
      exact va_up_ne y.2.2 (y.2.2 0 - 1) (show 1 ≠ 0 by decide)
    refine ⟨nI k, (w, C, π, nI k, T), y', ?_, a1, m, k, t, ?_, by omega, rfl, by rw [a4]; exact y0, hP, fun j hj => ?_, hT.fr (a5 3 (by decide)) e1⟩
    · show (oB2 (oB (F_X1_copyFrom M (C (π k))) fun w7 => some ((1 : Int32), ((w7, C, π, nI k, T) : XS))) fun v1 w2 => if v1 = 0 then some (((-1000002) : Int32), (w2.1, w2.2.1, w2.2.2.1, w2.2.2.2.1, w2.2.2.2.2)) else some (w2.2.2.2.1, (w2.1, w2.2.1, w2.2.2.1, w2.2.2.2.1, w2.2.2.2.2))) = _
      rw [w1, oB_some, oB2_some, if_neg (by decide)]
    · exact hm.cg w2 (fun i hi => a2 i (by omega) hi)
    · obtain ⟨m', hm'⟩ := hH j (by omega)
      refine ⟨m', ?_⟩
      show Rs (C (π j)) (fun i => y'.1 2 (251 * j + i)) m'
      rw [a5 2 (by decide)]
      exact hm'
theorem sim_count {x : XS} {y : St} (h : Rl x y) (p : Int32) : ∃ v, F_X3_count x p = some v ∧ F_X4_count y p = some v := by
  obtain ⟨n, k, t, H, hk, hx, hy, hP, hH, hT⟩ := h
  obtain ⟨r, ρ, hr⟩ := H.1.2.2.2.2.2.2.2.2.1
  obtain ⟨v0, a0, b0⟩ := how_eq H.1 0
  obtain ⟨v1, a1, b1⟩ := how_eq H.1 1
  obtain ⟨v2, a2, b2⟩ := how_eq H.1 2
  have l1 : aLd (y.1 0) (lnM 0) 1 = some (x.1.2.2 1) := (ldM (k := 1) (by decide)).trans (by rw [H.1.2.2.2.1])
  have l2 : aLd (y.1 0) (lnM 0) 2 = some (x.1.2.2 2) := (ldM (k := 2) (by decide)).trans (by rw [H.1.2.2.2.2.1])
  have l3 : aLd (y.1 0) (lnM 0) 3 = some (x.1.2.2 3) := (ldM (k := 3) (by decide)).trans (by rw [H.1.2.2.2.2.2.1])
  have l4 : aLd (y.1 0) (lnM 0) 4 = some (x.1.2.2 4) := (ldM (k := 4) (by decide)).trans (by rw [H.1.2.2.2.2.2.2.1])
  unfold F_X3_count F_X4_count
  by_cases c0 : p = 0
  · rw [if_pos c0, if_pos c0, H.1.n4, H.1.2.1]
    exact ⟨_, rfl, rfl⟩
  by_cases c1 : p = 1
  · rw [if_neg c0, if_neg c0, if_pos c1, if_pos c1, a0, c1, show (1 : Int32) - 1 = 0 by decide, b0]
    exact ⟨_, rfl, rfl⟩
  by_cases c2 : p = 2
  · rw [if_neg c0, if_neg c0, if_neg c1, if_neg c1, if_pos c2, if_pos c2, a1, c2, show (2 : Int32) - 1 = 1 by decide, b1]
    exact ⟨_, rfl, rfl⟩
  by_cases c3 : p = 3
  · rw [if_neg c0, if_neg c0, if_neg c1, if_neg c1, if_neg c2, if_neg c2, if_pos c3, if_pos c3, a2, c3, show (3 : Int32) - 1 = 2 by decide, b2]
    exact ⟨_, rfl, rfl⟩
  by_cases c4 : p = 4
  · rw [if_neg c0, if_neg c0, if_neg c1, if_neg c1, if_neg c2, if_neg c2, if_neg c3, if_neg c3, if_pos c4, if_pos c4, l1]
    exact ⟨_, rfl, rfl⟩
  by_cases c5 : p = 5
  · rw [if_neg c0, if_neg c0, if_neg c1, if_neg c1, if_neg c2, if_neg c2, if_neg c3, if_neg c3, if_neg c4, if_neg c4, if_pos c5, if_pos c5, l2]
    exact ⟨_, rfl, rfl⟩
  by_cases c6 : p = 6
  · rw [if_neg c0, if_neg c0, if_neg c1, if_neg c1, if_neg c2, if_neg c2, if_neg c3, if_neg c3, if_neg c4, if_neg c4, if_neg c5, if_neg c5, if_pos c6, if_pos c6, l3]
    exact ⟨_, rfl, rfl⟩
  by_cases c7 : p = 7
  · rw [if_neg c0, if_neg c0, if_neg c1, if_neg c1, if_neg c2, if_neg c2, if_neg c3, if_neg c3, if_neg c4, if_neg c4, if_neg c5, if_neg c5, if_neg c6, if_neg c6, if_pos c7, if_pos c7, l4]
    exact ⟨_, rfl, rfl⟩
  by_cases c8 : p = 8
  · rw [if_neg c0, if_neg c0, if_neg c1, if_neg c1, if_neg c2, if_neg c2, if_neg c3, if_neg c3, if_neg c4, if_neg c4, if_neg c5, if_neg c5, if_neg c6, if_neg c6, if_neg c7, if_neg c7, if_pos c8, if_pos c8, hx, hy]
    exact ⟨_, rfl, rfl⟩
  by_cases c9 : p = 9
  · rw [if_neg c0, if_neg c0, if_neg c1, if_neg c1, if_neg c2, if_neg c2, if_neg c3, if_neg c3, if_neg c4, if_neg c4, if_neg c5, if_neg c5, if_neg c6, if_neg c6, if_neg c7, if_neg c7, if_neg c8, if_neg c8, if_pos c9, if_pos c9, hT.2.1, hT.2.2.1]
    exact ⟨_, rfl, rfl⟩
  rw [if_neg c0, if_neg c0, if_neg c1, if_neg c1, if_neg c2, if_neg c2, if_neg c3, if_neg c3, if_neg c4, if_neg c4, if_neg c5, if_neg c5, if_neg c6, if_neg c6, if_neg c7, if_neg c7, if_neg c8, if_neg c8, if_neg c9, if_neg c9, in_eq, oB_some]
  by_cases d1 : p < 10
  · rw [if_pos d1, if_pos d1]
    exact ⟨_, rfl, rfl⟩
  have sx : (16 : Int32) ≤ p ↔ 15 < p := by
    rw [Int32.le_iff_toInt_le, Int32.lt_iff_toInt_lt]
    exact Iff.rfl
  by_cases d2 : 15 < p
  · rw [if_neg d1, if_neg d1, if_pos d2, if_pos (sx.mpr d2)]
    exact ⟨_, rfl, rfl⟩
  have d0 : ¬ p < 0 := fun q => d1 (by rw [Int32.lt_iff_toInt_lt] at q ⊢; exact Int.lt_trans q (by decide))
  obtain ⟨j, hj, ej⟩ := nI_of2 (M := 15) (n := 15) rfl d0 ((le_lt p 15).mpr d2)
  have hj10 : 10 ≤ j := by
    rcases Nat.lt_or_ge j 10 with q | q
    · exact absurd (by rw [ej]; exact nI_lt (b := 10) q (by decide)) d1
    · exact q
  rw [if_neg d1, if_neg d1, if_neg d2, if_neg (fun q => d2 (sx.mp q)), if_neg (show ¬ (1 : Int32) = 0 by decide), ej]
  have e1 : nI j - 10 = nI (j - 10) := pk_sub (b := 10) hj10
  have e2 : (5 : Int32) + nI j - 10 = nI (5 + (j - 10)) := by
    rw [ad5, show (10 : Int32) = nI 10 from rfl, pk_sub (by omega)]
    congr 1
    omega
  rw [e1, e2, rank_at hr (by omega), ldM (by omega), (hr.1 (j - 10) (by omega)).2.2]
  exact ⟨_, rfl, rfl⟩
