/-! The text -/
theorem sim_clearText {x : XS} {y : St} (h : Rl x y) : ∃ v x1 y1, F_X3_clearText x = some (v, x1) ∧ F_X4_clearText y = some (v, y1) ∧ Rl x1 y1 := by
  obtain ⟨n, k, t, H, hk, hx, hy, hP, hH, hT⟩ := h
  unfold F_X3_clearText F_X4_clearText
  rw [hT.2.1, hT.2.2.1]
  exact ⟨_, _, _, rfl, rfl, n, k, 0, H, hk, hx, (va_up_ne y.2.2 (0 : Int32) (show 0 ≠ 1 by decide)).trans hy, hP, hH, by omega, rfl, rfl, fun i hi => absurd hi (by omega)⟩
theorem sim_type {x : XS} {y : St} (h : Rl x y) (p : Int32) : ∃ v x1 y1, F_X3_type x p = some (v, x1) ∧ F_X4_type y p = some (v, y1) ∧ Rl x1 y1 := by
  have h0 := h
  obtain ⟨n, k, t, H, hk, hx, hy, hP, hH, ht, hT1, hT2, hT3⟩ := h
  unfold F_X3_type F_X4_type
  rw [in_eq, oB_some]
  by_cases h1 : p < 32
  · rw [if_pos h1, if_pos h1]
    exact ⟨_, x, y, rfl, rfl, h0⟩
  by_cases h2 : 126 < p
  · rw [if_neg h1, if_neg h1, if_pos h2, if_neg (fun q => (le_lt p 126).mp q h2)]
    exact ⟨_, x, y, rfl, rfl, h0⟩
  have d0 : ¬ p < 0 := fun q => h1 (by rw [Int32.lt_iff_toInt_lt] at q ⊢; exact Int.lt_trans q (by decide))
  obtain ⟨c, hc, ec⟩ := nI_of2 (M := 126) (n := 126) rfl d0 ((le_lt p 126).mpr h2)
  have hc32 : 32 ≤ c := by
    rcases Nat.lt_or_ge c 32 with q | q
    · exact absurd (by rw [ec]; exact nI_lt (b := 32) q (by decide)) h1
    · exact q
  rw [if_neg h1, if_neg h1, if_neg h2, if_pos ((le_lt p 126).mpr h2), if_neg (show ¬ (1 : Int32) = 0 by decide)]
  unfold F_X2_add
  rw [hT1, hT2]
  by_cases h3 : t = 60
  · rw [if_neg (show ¬ nI t < 60 by rw [h3]; decide), if_pos (show nI t = 60 by rw [h3]; rfl)]
    exact ⟨_, x, y, rfl, rfl, h0⟩
  · have ht60 : t < 60 := by omega
    rw [if_pos (show nI t < 60 from nI_lt (b := 60) ht60 (by decide)), if_neg (show ¬ nI t = 60 from fun q => h3 ((nI_eq (a := t) (b := 60) (by omega) (by decide)).mp q))]
    have e1 : F_X3_put (x.2.2.2.2.1 0) (lnT 0) (nI t) p = some (upd (x.2.2.2.2.1 0) t p) := put_nI (n := 60) ht60 (by decide)
    have e2 : aSt (y.1 3) (lnM 3) (nI t) p = some (upd (y.1 3) t p) := by
      rw [show lnM 3 = 60 from rfl, aSt_in (nI_in (N := 60) ht60 (by decide)), nI_clamp (by omega)]
    rw [e1, e2, oB_some, oB_some]
    refine ⟨nI t + 1, _, _, rfl, rfl, n, k, t + 1, H, hk, hx, (va_up_ne y.2.2 (nI t + 1) (show 0 ≠ 1 by decide)).trans hy, hP, hH, by omega, ?_, ?_, fun i hi => ?_⟩
    · rw [← nI_1]; rfl
    · rw [← nI_1]; rfl
    · show upd (x.2.2.2.2.1 0) t p i = upd (y.1 3) t p i ∧ ∃ c, 32 ≤ c ∧ c ≤ 126 ∧ upd (y.1 3) t p i = nI c
      by_cases hit : i = t
      · rw [hit, pk_us, pk_us]
        exact ⟨rfl, c, hc32, hc, ec⟩
      · rw [pk_un hit, pk_un hit]
        exact hT3 i (by omega)
