/-! The text played -/
def sm (r : Int32) : Prop := ∃ m, m < 4096 ∧ r = nI m
theorem lb_sm : ∀ m, m < 103 → 97 ≤ m → (lb (nI m) 0 &&& 4095 = lb (nI m) 0) ∧ (lb (nI m) 1 &&& 4095 = lb (nI m) 1) := by decide +kernel
theorem sm_and {r : Int32} (h : r &&& 4095 = r) : sm r := by
  obtain ⟨w, _, e⟩ := b_rep r
  refine ⟨w &&& 4095, Nat.lt_of_le_of_lt Nat.and_le_right (by decide), ?_⟩
  rw [← h, e, show (4095 : Int32) = nI 4095 from rfl, fa_and]
theorem sm_or {a b : Int32} (ha : sm a) (hb : sm b) : sm (a ||| b) := by
  obtain ⟨m, hm, rfl⟩ := ha
  obtain ⟨w, hw, rfl⟩ := hb
  exact ⟨m ||| w, Nat.or_lt_two_pow (n := 12) hm hw, or_nI m w⟩
theorem lb_ok {y : St} {t i : Nat} {T : St} (hT : Tx T y t) (h : isL (chr y t i) = true) : sm (lb (chr y t i) 0) ∧ sm (lb (chr y t i) 1) := by
  have hit := chr_lo h
  obtain ⟨_, c, _, hc, ec⟩ := hT.2.2.2 i hit
  have e : chr y t i = nI c := by
    unfold chr
    rw [if_pos hit, ec]
  rw [e] at h ⊢
  obtain ⟨h1, h2⟩ := (isL_c _).mp h
  have a1 : 97 ≤ c := by
    rcases Nat.lt_or_ge c 97 with q | q
    · exact absurd (nI_lt (b := 97) q (by decide)) h1
    · exact q
  have a2 : c < 103 := by
    rcases Nat.lt_or_ge c 103 with q | q
    · exact q
    · exact absurd (nI_le (a := 103) (b := c) q (by omega)) h2
  obtain ⟨b1, b2⟩ := lb_sm c a2 a1
  exact ⟨sm_and b1, sm_and b2⟩
theorem rd_sm {y T : St} {t : Nat} (hT : Tx T y t) : ∀ d i r, sm r → sm (rd (chr y t) d i r).2.2
  | 0, i, r, h => h
  | d + 1, i, r, h => by
    unfold rd
    cases hL : isL (chr y t i)
    · rw [if_neg (show ¬ false = true by decide)]
      by_cases h45 : chr y t i = 45
      · rw [if_pos h45]
        cases hM : isL (chr y t (i + 1))
        · rw [if_neg (show ¬ false = true by decide)]
          exact h
        · rw [if_pos rfl]
          exact rd_sm hT d (i + 2) _ (sm_or h (lb_ok hT hM).2)
      · rw [if_neg h45]
        by_cases h59 : chr y t i = 59
        · rw [if_pos h59]
          exact h
        · rw [if_neg h59]
          exact h
    · rw [if_pos rfl]
      exact rd_sm hT d (i + 1) _ (sm_or h (lb_ok hT hL).1)
theorem bx_step {x : XS} {y : St} {t i : Nat} (hT : Tx x.2.2.2.2 y t) (hi : i < t) (f : Nat) (a r s : Int32) (h59 : ¬ chr y t i = 59) : FL_X3_bringText_9 (f + 1) x a r s (nI i) = if chr y t i = 45 then FL_X3_bringText_9 f x a r 1 (nI (i + 1)) else FL_X3_bringText_9 f x a (r ||| lb (chr y t i) s) 0 (nI (i + 1)) := by
  have h60 := hT.1
  rw [FL_X3_bringText_9, hT.2.1, if_neg (nI_ge hi (by omega)), tx_at hT hi, oB_some, if_neg h59, nI_1]
  rfl
theorem bx_loop {x : XS} {y : St} {t : Nat} (hT : Tx x.2.2.2.2 y t) (a : Int32) : ∀ d i r f, t < i + d → i ≤ t → t < i + f → (rd (chr y t) d i r).1 = true →
    ∃ f', FL_X3_bringText_9 f x a r 0 (nI i) = FL_X3_bringText_9 (f' + 1) x a (rd (chr y t) d i r).2.2 0 (nI ((rd (chr y t) d i r).2.1 - 1)) ∧ t < (rd (chr y t) d i r).2.1 + f'
  | 0, i, r, f, hd, hi, _, _ => absurd hd (by omega)
  | d + 1, i, r, 0, hd, hi, hf, _ => absurd hf (by omega)
  | d + 1, i, r, f + 1, hd, hi, hf, hok => by
    unfold rd at hok ⊢
    have n59 : ∀ j, isL (chr y t j) = true → ¬ chr y t j = 59 := fun j h e => by
      rw [e] at h
      exact absurd h (by decide)
    cases hL : isL (chr y t i)
    · rw [hL, if_neg (show ¬ false = true by decide)] at hok
      rw [if_neg (show ¬ false = true by decide)]
      by_cases h45 : chr y t i = 45
      · rw [if_pos h45] at hok ⊢
        have hit : i < t := by
          rcases Nat.lt_or_ge i t with q | q
          · exact q
          · rw [chr_hi (by omega)] at h45
            exact absurd h45 (by decide)
        cases hM : isL (chr y t (i + 1))
        · rw [hM, if_neg (show ¬ false = true by decide)] at hok
          exact absurd (show false = true from hok) (by decide)
        · rw [hM, if_pos rfl] at hok
          rw [if_pos rfl]
          have h3 := chr_lo hM
          obtain ⟨f2, rfl⟩ : ∃ f2, f = f2 + 1 := ⟨f - 1, by omega⟩
          rw [bx_step hT hit _ _ _ _ (by rw [h45]; decide), if_pos h45, bx_step hT h3 _ _ _ _ (n59 _ hM), if_neg (isL_45 hM)]
          exact bx_loop hT a d (i + 2) _ f2 (by omega) (by omega) (by omega) hok
      · rw [if_neg h45] at hok ⊢
        by_cases h59 : chr y t i = 59
        · rw [if_pos h59]
          exact ⟨f, by show _ = FL_X3_bringText_9 (f + 1) x a r 0 (nI (i + 1 - 1)); rw [Nat.add_sub_cancel], by show t < i + 1 + f; omega⟩
        · rw [if_neg h59] at hok
          exact absurd (show false = true from hok) (by decide)
    · rw [hL, if_pos rfl] at hok
      rw [if_pos rfl]
      have h3 := chr_lo hL
      rw [bx_step hT h3 _ _ _ _ (n59 _ hL), if_neg (isL_45 hL)]
      exact bx_loop hT a d (i + 1) _ f (by omega) (by omega) (by omega) hok
