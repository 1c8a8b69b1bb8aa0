/-! The acting operations -/
theorem act_ok {x1 : XS} {y1 : St} {u' y' : St} {n' : Nat} (hM : Md x1 y1) (H' : Rs u' (y'.1 0) n') (hF : Fr y1 y') (v : Int32) : ∃ x2 y2, F_X3_settle (u', x1.2.1, x1.2.2.1, x1.2.2.2.1, x1.2.2.2.2) v = some (v, x2) ∧ F_X4_acted y' v = some (v, y2) ∧ Rl x2 y2 :=
  settle_ok (x := (u', x1.2.1, x1.2.2.1, x1.2.2.2.1, x1.2.2.2.2)) (hM.fr rfl hF.2 (by rw [hF.1]) (by rw [hF.1])) H' v
theorem bad_ok {x : XS} {y : St} (h : Rl x y) : ∃ y1 y2, F_X4_begins y = some y1 ∧ F_X4_acted y1 (-1000001) = some (-1000001, y2) ∧ Rl x y2 := by
  obtain ⟨n, k, t, H, hk, hx, hy, hP, hH, hT⟩ := h
  obtain ⟨y1, b1, b2, _, b4, b5⟩ := beg_loop 251 fuel 0 y rfl (by decide)
  obtain ⟨y2, a1, a2, _, a4, a5⟩ := ret_loop 251 fuel 0 y1 rfl (by decide)
  refine ⟨y1, y2, b1, ?_, n, k, t, H.cg ⟨fun _ _ _ _ => rfl, fun _ _ => rfl, fun _ _ => rfl⟩ (fun i hi => by rw [a2 i (by omega) hi, b2 i (by omega) hi]), hk, hx, by rw [a4, b4]; exact hy, hP, by rw [a5 2 (by decide), b5 2 (by decide)]; exact hH, hT.fr (by rw [a5 3 (by decide), b5 3 (by decide)]) (by rw [a4, b4])⟩
  unfold F_X4_acted
  rw [if_neg (by decide)]
  unfold F_X4_returns
  rw [show FL_X4_returns_2 fuel (y1.1, y1.2.1, y1.2.2) 0 = some y2 from a1]
  rfl
theorem sim_tell {x : XS} {y : St} (h : Rl x y) (p : Int32) : ∃ v x1 y1, F_X3_tell x p = some (v, x1) ∧ F_X4_tell y p = some (v, y1) ∧ Rl x1 y1 := by
  have bad : (if p < 0 then (0 : Int32) else if 4095 < p then 0 else 1) = 0 → ∃ y1, F_X4_tell y p = some (-1000001, y1) ∧ Rl x y1 := by
    intro hz
    obtain ⟨y1, y2, a, b, c⟩ := bad_ok h
    refine ⟨y2, ?_, c⟩
    unfold F_X4_tell
    rw [a, oB_some, in_eq, oB_some, if_pos hz, show F_X4_acted (y1.1, y1.2.1, y1.2.2) (-1000001) = some (-1000001, y2) from b]
    rfl
  by_cases h1 : p < 0
  · obtain ⟨y1, a, b⟩ := bad (if_pos h1)
    exact ⟨_, x, y1, by unfold F_X3_tell; rw [if_pos h1], a, b⟩
  by_cases h2 : 4095 < p
  · obtain ⟨y1, a, b⟩ := bad (by rw [if_neg h1, if_pos h2])
    exact ⟨_, x, y1, by unfold F_X3_tell; rw [if_neg h1, if_neg (fun q => (le_lt p 4095).mp q h2)], a, b⟩
  obtain ⟨x1, y1, n, b1, b2, hM, H, _⟩ := begin_ok h
  obtain ⟨m, hm, em⟩ := nI_of2 (M := 4095) (n := 4095) rfl h1 ((le_lt p 4095).mpr h2)
  obtain ⟨v, u', y', n', c1, c2, H', hF, _⟩ := bring_eq H (p0 := p) (p1 := -1) (p2 := -1) (p3 := -1) ⟨m, by omega, em⟩ (Or.inl ⟨rfl, rfl, rfl⟩)
  obtain ⟨x2, y2, d1, d2, hR⟩ := act_ok hM H' hF v
  refine ⟨v, x2, y2, ?_, ?_, hR⟩
  · unfold F_X3_tell
    rw [if_neg h1, if_pos ((le_lt p 4095).mpr h2), show F_X0_putAside (x.1, x.2.1, x.2.2.1, x.2.2.2.1, x.2.2.2.2) = some x1 from b1, oB_some, c1, oB2_some, d1]
    rfl
  · unfold F_X4_tell
    rw [b2, oB_some, in_eq, oB_some, if_neg h1, if_neg h2, if_neg (by decide), show F_X4_comes (y1.1, y1.2.1, y1.2.2) p (-1) (-1) (-1) = some (v, y') from c2, oB2_some, show F_X4_acted (y'.1, y'.2.1, y'.2.2) v = some (v, y2) from d2]
    rfl
theorem sim_step {x : XS} {y : St} (h : Rl x y) : ∃ v x1 y1, F_X3_step x = some (v, x1) ∧ F_X4_step y = some (v, y1) ∧ Rl x1 y1 := by
  obtain ⟨x1, y1, n, b1, b2, hM, H, _⟩ := begin_ok h
  obtain ⟨v, u', y', n', c1, c2, H', hF⟩ := step_eq H
  obtain ⟨x2, y2, d1, d2, hR⟩ := act_ok hM H' hF v
  refine ⟨v, x2, y2, ?_, ?_, hR⟩
  · unfold F_X3_step
    rw [show F_X0_putAside (x.1, x.2.1, x.2.2.1, x.2.2.2.1, x.2.2.2.2) = some x1 from b1, oB_some, c1, oB2_some, d1]
    rfl
  · unfold F_X4_step
    rw [b2, oB_some, show F_X4_steps (y1.1, y1.2.1, y1.2.2) = some (v, y') from c2, oB2_some, show F_X4_acted (y'.1, y'.2.1, y'.2.2) v = some (v, y2) from d2]
    rfl
theorem sim_empty {x : XS} {y : St} (h : Rl x y) : ∃ v x1 y1, F_X3_empty x = some (v, x1) ∧ F_X4_empty y = some (v, y1) ∧ Rl x1 y1 := by
  obtain ⟨x1, y1, n, b1, b2, hM, H, _⟩ := begin_ok h
  obtain ⟨y', c2, H', hF⟩ := clear_eq H
  obtain ⟨x2, y2, d1, d2, hR⟩ := act_ok hM H' hF (nI n)
  refine ⟨nI n, x2, y2, ?_, ?_, hR⟩
  · unfold F_X3_empty
    rw [show F_X0_putAside (x.1, x.2.1, x.2.2.1, x.2.2.2.1, x.2.2.2.2) = some x1 from b1, oB_some, H.1.2.1]
    rw [show F_X3_settle (((x1.1.1, x1.1.2.1, va_up x1.1.2.2 0 (0 : Int32)).1, (x1.1.1, x1.1.2.1, va_up x1.1.2.2 0 (0 : Int32)).2.1, va_up (x1.1.1, x1.1.2.1, va_up x1.1.2.2 0 (0 : Int32)).2.2 1 (0 : Int32)), x1.2.1, x1.2.2.1, x1.2.2.2.1, x1.2.2.2.2) (nI n) = some (nI n, x2) from d1]
    rfl
  · unfold F_X4_empty
    rw [b2, oB_some, show F_X4_clears (y1.1, y1.2.1, y1.2.2) = some (nI n, y') from c2, oB2_some, show F_X4_acted (y'.1, y'.2.1, y'.2.2) (nI n) = some (nI n, y2) from d2]
    rfl
theorem sim_set {x : XS} {y : St} (h : Rl x y) (p : Int32) : ∃ v x1 y1, F_X3_set x p = some (v, x1) ∧ F_X4_set y p = some (v, y1) ∧ Rl x1 y1 := by
  obtain ⟨x1, y1, n, b1, b2, hM, H, _⟩ := begin_ok h
  have l2 : aLd (y1.1 0) (lnM 0) 2 = some (x1.1.2.2 2) := (ldM (k := 2) (by decide)).trans (by rw [H.1.2.2.2.2.1])
  have s2 : ∀ v, aSt (y1.1 0) (lnM 0) 2 v = some (upd (y1.1 0) 2 v) := fun v => stM (k := 2) (by decide)
  have bad : (if p < 1 then (0 : Int32) else if 9 < p then 0 else 1) = 0 → ∃ y1, F_X4_set y p = some (-1000001, y1) ∧ Rl x y1 := by
    intro hz
    obtain ⟨y1', y2, a, b, c⟩ := bad_ok h
    have e : y1' = y1 := Option.some.inj (a.symm.trans b2)
    subst e
    refine ⟨y2, ?_, c⟩
    unfold F_X4_set
    have hs : wr y1' (upd (y1'.1 0) 2 (x1.1.2.2 2)) = y1' := by
      have h2 : upd (y1'.1 0) 2 (x1.1.2.2 2) = y1'.1 0 := by
        funext j
        by_cases hj : j = 2
        · rw [hj, pk_us, H.1.2.2.2.2.1]
        · rw [pk_un hj]
      rw [h2]
      unfold wr
      have h3 : va_up y1'.1 0 (y1'.1 0) = y1'.1 := by
        funext j
        by_cases hj : j = 0
        · rw [hj, va_up_self]
        · rw [va_up_ne _ _ hj]
      rw [h3]
    rw [b2, oB_some, l2, oB_some, in_eq, oB_some, if_pos hz, s2, oB_some, oB_some, if_pos hz, show F_X4_acted (va_up y1'.1 0 (upd (y1'.1 0) 2 (x1.1.2.2 2)), y1'.2.1, y1'.2.2) (-1000001) = some (-1000001, y2) from (congrArg (fun z => F_X4_acted z (-1000001)) hs).trans b]
    rfl
  by_cases h1 : p < 1
  · obtain ⟨y1, a, b⟩ := bad (if_pos h1)
    exact ⟨_, x, y1, by unfold F_X3_set; rw [if_pos h1], a, b⟩
  by_cases h2 : 9 < p
  · obtain ⟨y1, a, b⟩ := bad (by rw [if_neg h1, if_pos h2])
    exact ⟨_, x, y1, by unfold F_X3_set; rw [if_neg h1, if_neg (fun q => (le_lt p 9).mp q h2)], a, b⟩
  have h0 : ¬ p < 0 := fun q => h1 (by rw [Int32.lt_iff_toInt_lt] at q ⊢; exact Int.lt_trans q (by decide))
  obtain ⟨g, hg, eg⟩ := nI_of2 (M := 9) (n := 9) rfl h0 ((le_lt p 9).mpr h2)
  have hg1 : 1 ≤ g := by
    cases g with
    | zero => exact absurd (by rw [eg]; decide) h1
    | succ g => omega
  have H' : Rs (inr x1.1 2 p) ((wr y1 (upd (y1.1 0) 2 p)).1 0) n := by rw [wr_0, eg]; exact H.setg hg1 hg
  obtain ⟨x2, y2, d1, d2, hR⟩ := act_ok hM H' (Fr.wr y1 _) (x1.1.2.2 2)
  refine ⟨x1.1.2.2 2, x2, y2, ?_, ?_, hR⟩
  · unfold F_X3_set
    rw [if_neg h1, if_pos ((le_lt p 9).mpr h2), show F_X0_putAside (x.1, x.2.1, x.2.2.1, x.2.2.2.1, x.2.2.2.2) = some x1 from b1, oB_some]
    rw [show F_X3_settle ((x1.1.1, x1.1.2.1, va_up x1.1.2.2 2 p), x1.2.1, x1.2.2.1, x1.2.2.2.1, x1.2.2.2.2) (x1.1.2.2 2) = some (x1.1.2.2 2, x2) from d1]
    rfl
  · unfold F_X4_set
    rw [b2, oB_some, l2, oB_some, in_eq, oB_some, if_neg h1, if_neg h2, if_neg (show ¬ (1 : Int32) = 0 by decide), s2, oB_some, oB_some, if_neg (show ¬ (1 : Int32) = 0 by decide), show F_X4_acted (va_up y1.1 0 (upd (y1.1 0) 2 p), y1.2.1, y1.2.2) (x1.1.2.2 2) = some (x1.1.2.2 2, y2) from d2]
    rfl
