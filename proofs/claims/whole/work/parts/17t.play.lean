/-! Reading the text: the model -/
def isL (z : Int32) : Bool := if z < 97 then false else if 102 < z then false else true
theorem in_let (z : Int32) : F_X4_in z 97 102 = some (bI (isL z)) := by
  rw [in_eq]
  unfold isL
  split
  · rfl
  · split <;> rfl
theorem isL_45 {z : Int32} (h : isL z = true) : ¬ z = 45 := fun e => by
  rw [e] at h
  exact absurd h (by decide)
def chr (y : St) (t i : Nat) : Int32 := if i < t then y.1 3 i else -1
def lb (z s : Int32) : Int32 := (1 : Int32) <<< ((((2 : Int32) * (z - 97)) + s) &&& 31)
def rd (c : Nat → Int32) : Nat → Nat → Int32 → Bool × Nat × Int32
  | 0, i, r => (false, i, r)
  | d + 1, i, r => if isL (c i) = true then rd c d (i + 1) (r ||| lb (c i) 0) else if c i = 45 then (if isL (c (i + 1)) = true then rd c d (i + 2) (r ||| lb (c (i + 1)) 1) else (false, i + 1, r)) else if c i = 59 then (true, i + 1, r) else (false, i, r)
def At (y u : St) (i : Nat) (r : Int32) : Prop := u.1 = y.1 ∧ u.2.1 = y.2.1 ∧ u.2.2 0 = y.2.2 0 ∧ u.2.2 1 = y.2.2 1 ∧ u.2.2 2 = nI i ∧ u.2.2 3 = r
theorem here_eq {y u : St} {t i : Nat} {r : Int32} (ht : t ≤ 60) (hy : y.2.2 1 = nI t) (h : At y u i r) (hi : i < 1000) : F_X4_here u = some (chr y t i) := by
  obtain ⟨h1, _, _, h3, h4, _⟩ := h
  unfold F_X4_here chr
  rw [h3, h4, hy, h1]
  by_cases hit : i < t
  · rw [if_neg (nI_ge hit (by omega)), if_pos hit, show lnM 3 = 60 from rfl, aLd_in (nI_in (N := 60) (by omega) (by decide)), nI_clamp (by omega)]
    rfl
  · rw [if_pos (nI_le (by omega) (by omega)), if_neg hit]
theorem chr_hi {y : St} {t i : Nat} (h : ¬ i < t) : chr y t i = -1 := if_neg h
theorem chr_lo {y : St} {t i : Nat} (h : isL (chr y t i) = true) : i < t := by
  rcases Nat.lt_or_ge i t with q | q
  · exact q
  · rw [chr_hi (by omega)] at h
    exact absurd h (by decide)
theorem At.mv {y u : St} {i j : Nat} {r : Int32} {a : Int32} (h : At y u i r) (ha : nI i + a = nI j) : At y (u.1, u.2.1, va_up u.2.2 2 (u.2.2 2 + a)) j r := by
  obtain ⟨h1, h2, h3, h4, h5, h6⟩ := h
  refine ⟨h1, h2, ?_, ?_, ?_, ?_⟩
  · show va_up u.2.2 2 (u.2.2 2 + a) 0 = _
    rw [va_up_ne _ _ (by decide)]; exact h3
  · show va_up u.2.2 2 (u.2.2 2 + a) 1 = _
    rw [va_up_ne _ _ (by decide)]; exact h4
  · show va_up u.2.2 2 (u.2.2 2 + a) 2 = _
    rw [va_up_self, h5, ha]
  · show va_up u.2.2 2 (u.2.2 2 + a) 3 = _
    rw [va_up_ne _ _ (by decide)]; exact h6
theorem At.ad {y u : St} {i j : Nat} {r b : Int32} (h : At y u i r) (ha : nI i + 1 = nI j) : At y (u.1, u.2.1, va_up (va_up u.2.2 3 (u.2.2 3 ||| b)) 2 ((va_up u.2.2 3 (u.2.2 3 ||| b)) 2 + 1)) j (r ||| b) := by
  obtain ⟨h1, h2, h3, h4, h5, h6⟩ := h
  have e2 : (va_up u.2.2 3 (u.2.2 3 ||| b)) 2 = nI i := (va_up_ne u.2.2 (u.2.2 3 ||| b) (show 2 ≠ 3 by decide)).trans h5
  rw [e2, ha, h6]
  refine ⟨h1, h2, ?_, ?_, ?_, ?_⟩
  · show va_up (va_up u.2.2 3 (r ||| b)) 2 (nI j) 0 = _
    rw [va_up_ne _ _ (by decide), va_up_ne _ _ (by decide)]; exact h3
  · show va_up (va_up u.2.2 3 (r ||| b)) 2 (nI j) 1 = _
    rw [va_up_ne _ _ (by decide), va_up_ne _ _ (by decide)]; exact h4
  · show va_up (va_up u.2.2 3 (r ||| b)) 2 (nI j) 2 = _
    rw [va_up_self]
  · show va_up (va_up u.2.2 3 (r ||| b)) 2 (nI j) 3 = _
    rw [va_up_ne _ _ (by decide), va_up_self]
theorem reads_loop {y : St} {t : Nat} (ht : t ≤ 60) (hy : y.2.2 1 = nI t) : ∀ d g i (r : Int32) (u : St), At y u i r → t < i + d → i ≤ 100 → d < g → ∃ u', FL_X4_reads_5 g u = some (bI (rd (chr y t) d i r).1, u') ∧ At y u' (rd (chr y t) d i r).2.1 (rd (chr y t) d i r).2.2
  | d, 0, _, _, _, _, _, _, h => absurd h (by omega)
  | 0, g + 1, i, r, u, h, hd, hi, _ => by
    have h0 : At y (u.1, u.2.1, va_up u.2.2 2 (u.2.2 2 + 0)) i r := h.mv (Int32.add_zero _)
    rw [FL_X4_reads_5, here_eq ht hy h (by omega)]
    simp only [oB_some, in_let]
    rw [chr_hi (by omega), if_pos (show bI (isL (-1)) = 0 by decide), if_neg (show ¬ (-1 : Int32) = 45 by decide), if_neg (show ¬ (-1 : Int32) = 59 by decide)]
    exact ⟨_, rfl, h0⟩
  | d + 1, g + 1, i, r, u, h, hd, hi, hg => by
    have h0 : At y (u.1, u.2.1, va_up u.2.2 2 (u.2.2 2 + 0)) i r := h.mv (Int32.add_zero _)
    have h1 : At y (u.1, u.2.1, va_up u.2.2 2 (u.2.2 2 + 1)) (i + 1) r := h.mv (nI_1 i)
    rw [FL_X4_reads_5, here_eq ht hy h (by omega), here_eq ht hy h0 (by omega), here_eq ht hy h1 (by omega)]
    simp only [oB_some, in_let]
    unfold rd
    cases hL : isL (chr y t i)
    · rw [if_pos (show bI false = 0 from rfl), if_neg (show ¬ false = true by decide)]
      by_cases h45 : chr y t i = 45
      · rw [if_pos h45, if_pos h45, if_pos h45]
        cases hM : isL (chr y t (i + 1))
        · rw [if_pos (show bI false = 0 from rfl), if_neg (show ¬ false = true by decide)]
          exact ⟨_, rfl, h1⟩
        · rw [if_neg (show ¬ bI true = 0 by decide), if_pos rfl]
          have := chr_lo hM
          exact reads_loop ht hy d g (i + 2) _ _ (h1.ad (nI_1 (i + 1))) (by omega) (by omega) (by omega)
      · rw [if_neg h45, if_neg h45]
        by_cases h59 : chr y t i = 59
        · rw [if_pos h59, if_pos h59]
          exact ⟨_, rfl, h1⟩
        · rw [if_neg h59, if_neg h59]
          exact ⟨_, rfl, h0⟩
    · rw [if_neg (show ¬ bI true = 0 by decide), if_pos rfl, if_neg (isL_45 hL), if_neg (show ¬ bI true = 0 by decide)]
      have := chr_lo hL
      exact reads_loop ht hy d g (i + 1) _ _ (h0.ad (nI_1 i)) (by omega) (by omega) (by omega)
/-- where a reading ends -/
theorem rd_end (y : St) (t : Nat) : ∀ d i (r : Int32), t < i + d → i ≤ t → i ≤ (rd (chr y t) d i r).2.1 ∧ (rd (chr y t) d i r).2.1 ≤ t ∧ ((rd (chr y t) d i r).1 = true → i < (rd (chr y t) d i r).2.1 ∧ chr y t ((rd (chr y t) d i r).2.1 - 1) = 59) ∧ ((rd (chr y t) d i r).1 = false → ∀ j, i ≤ j → j < (rd (chr y t) d i r).2.1 → ¬ chr y t j = 59)
  | 0, i, r, hd, hi => absurd hd (by omega)
  | d + 1, i, r, hd, hi => by
    unfold rd
    cases hL : isL (chr y t i)
    · rw [if_neg (show ¬ false = true by decide)]
      by_cases h45 : chr y t i = 45
      · rw [if_pos h45]
        have hit : i < t := by
          rcases Nat.lt_or_ge i t with q | q
          · exact q
          · rw [chr_hi (by omega)] at h45
            exact absurd h45 (by decide)
        cases hM : isL (chr y t (i + 1))
        · rw [if_neg (show ¬ false = true by decide)]
          refine ⟨by show i ≤ i + 1; omega, by show i + 1 ≤ t; omega, fun h => absurd (show false = true from h) (by decide), fun _ j h1 h2 => ?_⟩
          have h2 : j < i + 1 := h2
          rw [show j = i by omega, h45]
          decide
        · rw [if_pos rfl]
          have h3 := chr_lo hM
          obtain ⟨a, b, c, e⟩ := rd_end y t d (i + 2) (r ||| lb (chr y t (i + 1)) 1) (by omega) (by omega)
          refine ⟨by omega, b, fun h => ⟨by have := (c h).1; omega, (c h).2⟩, fun h j h1 h2 => ?_⟩
          by_cases q : j = i
          · rw [q, h45]; decide
          · by_cases q2 : j = i + 1
            · rw [q2]
              intro e59
              rw [e59] at hM
              exact absurd hM (by decide)
            · exact e h j (by omega) h2
      · rw [if_neg h45]
        by_cases h59 : chr y t i = 59
        · rw [if_pos h59]
          have hit : i < t := by
            rcases Nat.lt_or_ge i t with q | q
            · exact q
            · rw [chr_hi (by omega)] at h59
              exact absurd h59 (by decide)
          exact ⟨by show i ≤ i + 1; omega, by show i + 1 ≤ t; omega, fun _ => ⟨by show i < i + 1; omega, by show chr y t (i + 1 - 1) = 59; rw [Nat.add_sub_cancel]; exact h59⟩, fun h => absurd (show true = false from h) (by decide)⟩
        · rw [if_neg h59]
          exact ⟨Nat.le_refl _, hi, fun h => absurd (show false = true from h) (by decide), fun _ j h1 h2 => by have h2 : j < i := h2; omega⟩
    · rw [if_pos rfl]
      have h3 := chr_lo hL
      obtain ⟨a, b, c, e⟩ := rd_end y t d (i + 1) (r ||| lb (chr y t i) 0) (by omega) (by omega)
      refine ⟨by omega, b, fun h => ⟨by have := (c h).1; omega, (c h).2⟩, fun h j h1 h2 => ?_⟩
      by_cases q : j = i
      · rw [q]
        intro e59
        rw [e59] at hL
        exact absurd hL (by decide)
      · exact e h j (by omega) h2
theorem tx_at {T y : St} {t i : Nat} (hT : Tx T y t) (hi : i < t) : F_X3_at (T.1 0) (lnT 0) (nI i) = some (chr y t i) := by
  have h60 := hT.1
  have h := at_in (f := T.1 0) (n := 60) (k := i) (by omega) (by decide)
  rw [(hT.2.2.2 i hi).1] at h
  unfold chr
  rw [if_pos hi]
  exact h
theorem isL_c (z : Int32) : isL z = true ↔ ¬ z < 97 ∧ ¬ 103 ≤ z := by
  unfold isL
  have e : (103 : Int32) ≤ z ↔ 102 < z := by
    rw [Int32.le_iff_toInt_le, Int32.lt_iff_toInt_lt]
    exact Iff.rfl
  by_cases h1 : z < 97
  · simp [h1]
  · by_cases h2 : 102 < z
    · simp [h1, h2, e]
    · simp [h1, h2, e]
/-- the class's scan, one character on -/
theorem wb_step {T y : St} {t i : Nat} (hT : Tx T y t) (hi : i < t) (f : Nat) (fl : Int32) : FL_X2_whereItBreaksOff_4 T (f + 1) fl (nI i) = if isL (chr y t i) = true then FL_X2_whereItBreaksOff_4 T f 0 (nI (i + 1)) else if fl = 0 then (if chr y t i = 45 then FL_X2_whereItBreaksOff_4 T f 1 (nI (i + 1)) else if chr y t i = 59 then FL_X2_whereItBreaksOff_4 T f 0 (nI (i + 1)) else some (nI i)) else some (nI i) := by
  have h60 := hT.1
  rw [FL_X2_whereItBreaksOff_4, hT.2.1, if_neg (nI_ge hi (by omega)), tx_at hT hi, oB_some, nI_1]
  generalize hz : chr y t i = z
  by_cases hL : isL z = true
  · obtain ⟨a, b⟩ := (isL_c z).mp hL
    rw [if_neg a, if_neg b, if_neg (isL_45 hL), if_pos hL]
  · rw [if_neg hL]
    have inner : (if fl = 0 then if z = 45 then if z = 45 then FL_X2_whereItBreaksOff_4 T f 1 (nI (i + 1)) else FL_X2_whereItBreaksOff_4 T f 0 (nI (i + 1)) else if z = 59 then if z = 45 then FL_X2_whereItBreaksOff_4 T f 1 (nI (i + 1)) else FL_X2_whereItBreaksOff_4 T f 0 (nI (i + 1)) else some (nI i) else some (nI i)) = if fl = 0 then (if z = 45 then FL_X2_whereItBreaksOff_4 T f 1 (nI (i + 1)) else if z = 59 then FL_X2_whereItBreaksOff_4 T f 0 (nI (i + 1)) else some (nI i)) else some (nI i) := by
      by_cases h0 : fl = 0
      · rw [if_pos h0, if_pos h0]
        by_cases h45 : z = 45
        · rw [if_pos h45, if_pos h45, if_pos h45]
        · by_cases h59 : z = 59
          · simp only [if_pos h59, if_neg h45]
          · simp only [if_neg h59, if_neg h45]
      · rw [if_neg h0, if_neg h0]
    by_cases a : z < 97
    · rw [if_pos a]
      exact inner
    · have b : (103 : Int32) ≤ z := by
        rcases Classical.em ((103 : Int32) ≤ z) with q | q
        · exact q
        · exact absurd ((isL_c z).mpr ⟨a, q⟩) hL
      rw [if_neg a, if_pos b]
      exact inner
theorem wb_end {T y : St} {t : Nat} (hT : Tx T y t) (f : Nat) (fl : Int32) (h0 : 0 < t) (h59 : ¬ chr y t (t - 1) = 59) : FL_X2_whereItBreaksOff_4 T (f + 1) fl (nI t) = some (nI t) := by
  have h60 := hT.1
  rw [FL_X2_whereItBreaksOff_4, hT.2.1, if_pos (end_le t), if_neg (nI_ne0 h0 (by omega)), show nI t - 1 = nI (t - 1) from pk_sub (b := 1) h0, tx_at hT (by omega), oB_some, if_neg h59]
theorem wb_loop {T y : St} {t : Nat} (hT : Tx T y t) : ∀ d i (r : Int32) f, t < i + d → i ≤ t → (i < t ∨ (0 < t ∧ ¬ chr y t (t - 1) = 59)) → t < i + f →
    ((rd (chr y t) d i r).1 = false → FL_X2_whereItBreaksOff_4 T f 0 (nI i) = some (nI (rd (chr y t) d i r).2.1)) ∧ ((rd (chr y t) d i r).1 = true → ∃ f', FL_X2_whereItBreaksOff_4 T f 0 (nI i) = FL_X2_whereItBreaksOff_4 T f' 0 (nI (rd (chr y t) d i r).2.1) ∧ t < (rd (chr y t) d i r).2.1 + f')
  | 0, i, r, f, hd, hi, _, _ => absurd hd (by omega)
  | d + 1, i, r, 0, hd, hi, _, hf => absurd hf (by omega)
  | d + 1, i, r, f + 1, hd, hi, hl, hf => by
    unfold rd
    rcases Nat.lt_or_ge i t with hit | hit
    · rw [wb_step hT hit]
      have nx : ∀ j, j + 1 ≤ t → isL (chr y t j) = true → (j + 1 < t ∨ (0 < t ∧ ¬ chr y t (t - 1) = 59)) := fun j h1 h2 => by
        rcases Nat.lt_or_ge (j + 1) t with q | q
        · exact Or.inl q
        · refine Or.inr ⟨by omega, ?_⟩
          rw [show t - 1 = j by omega]
          intro e
          rw [e] at h2
          exact absurd h2 (by decide)
      cases hL : isL (chr y t i)
      · rw [if_neg (show ¬ false = true by decide), if_neg (show ¬ false = true by decide), if_pos rfl]
        by_cases h45 : chr y t i = 45
        · rw [if_pos h45, if_pos h45]
          obtain ⟨f2, rfl⟩ : ∃ f2, f = f2 + 1 := ⟨f - 1, by omega⟩
          cases hM : isL (chr y t (i + 1))
          · rw [if_neg (show ¬ false = true by decide)]
            refine ⟨fun _ => ?_, fun h => absurd (show false = true from h) (by decide)⟩
            rcases Nat.lt_or_ge (i + 1) t with q | q
            · rw [wb_step hT q, hM, if_neg (show ¬ false = true by decide), if_neg (show ¬ (1 : Int32) = 0 by decide)]
            · have e : i + 1 = t := by omega
              rw [e]
              exact wb_end hT f2 1 (by omega) (by rw [show t - 1 = i by omega, h45]; decide)
          · rw [if_pos rfl]
            have h3 := chr_lo hM
            rw [wb_step hT h3, hM, if_pos rfl]
            exact wb_loop hT d (i + 2) _ f2 (by omega) (by omega) (nx (i + 1) (by omega) hM) (by omega)
        · rw [if_neg h45, if_neg h45]
          by_cases h59 : chr y t i = 59
          · rw [if_pos h59, if_pos h59]
            exact ⟨fun h => absurd (show true = false from h) (by decide), fun _ => ⟨f, rfl, by show t < i + 1 + f; omega⟩⟩
          · rw [if_neg h59, if_neg h59]
            exact ⟨fun _ => rfl, fun h => absurd (show false = true from h) (by decide)⟩
      · rw [if_pos rfl, if_pos rfl]
        exact wb_loop hT d (i + 1) _ f (by omega) (by omega) (nx i (by omega) hL) (by omega)
    · have e : i = t := by omega
      subst e
      rw [chr_hi (by omega), if_neg (show ¬ isL (-1) = true by decide), if_neg (show ¬ (-1 : Int32) = 45 by decide), if_neg (show ¬ (-1 : Int32) = 59 by decide)]
      rcases hl with q | ⟨q1, q2⟩
      · exact absurd q (by omega)
      · exact ⟨fun _ => wb_end hT f 0 q1 q2, fun h => absurd (show false = true from h) (by decide)⟩
theorem st_loop {T y : St} {t st : Nat} (hT : Tx T y t) (hst : st = 0 ∨ (0 < st ∧ chr y t (st - 1) = 59)) : ∀ d i f, st + d = i → i ≤ t → i < f → (∀ j, st ≤ j → j < i → ¬ chr y t j = 59) → FL_X2_startOfClause_4 T f (nI i - 1) = some (nI st)
  | _, _, 0, _, _, h, _ => absurd h (by omega)
  | 0, i, f + 1, hd, hi, _, hn => by
    have : i = st := by omega
    subst this
    unfold FL_X2_startOfClause_4
    rcases hst with q | ⟨q1, q2⟩
    · subst q
      rw [if_pos (by decide)]
      rfl
    · have h60 := hT.1
      rw [show nI i - 1 = nI (i - 1) from pk_sub (b := 1) q1, if_neg (nI_pos (by omega)), tx_at hT (by omega), oB_some, if_pos q2, nI_1, show i - 1 + 1 = i by omega]
  | d + 1, i, f + 1, hd, hi, hf, hn => by
    have h60 := hT.1
    obtain ⟨i2, rfl⟩ : ∃ i2, i = i2 + 1 := ⟨i - 1, by omega⟩
    unfold FL_X2_startOfClause_4
    rw [nI_pred, if_neg (nI_pos (by omega)), tx_at hT (by omega), oB_some, if_neg (hn i2 (by omega) (by omega))]
    exact st_loop hT hst d i2 f (by omega) (by omega) (by omega) (fun j h1 h2 => hn j h1 (by omega))
/-- the whole text: the class's scan beside the model's -/
theorem br_loop {T y : St} {t : Nat} (hT : Tx T y t) : ∀ d st g f (r : Int32) (u : St), At y u st r → t < st + d → st ≤ t → d ≤ g → t < st + f → (st = 0 ∨ (0 < st ∧ chr y t (st - 1) = 59)) →
    (FL_X2_whereItBreaksOff_4 T f 0 (nI st) = some (-1) ∧ (∃ u' i' r', FL_X4_brokenAt_5 g u = some (-1, u') ∧ At y u' i' r')) ∨
    (∃ a b, FL_X2_whereItBreaksOff_4 T f 0 (nI st) = some (nI b) ∧ F_X2_startOfClause T (nI b) = some (nI a) ∧ a ≤ b ∧ b ≤ t ∧ ∃ u' r', FL_X4_brokenAt_5 g u = some (nI a, u') ∧ At y u' b r')
  | 0, st, g, f, r, u, h, hd, hs, _, _, _ => absurd hd (by omega)
  | d + 1, st, 0, f, r, u, h, hd, hs, hg, _, _ => absurd hg (by omega)
  | d + 1, st, g + 1, 0, r, u, h, hd, hs, _, hf, _ => absurd hf (by omega)
  | d + 1, st, g + 1, f + 1, r, u, h, hd, hs, hg, hf, hst => by
    have h60 := hT.1
    have hu1 : u.2.2 1 = nI t := h.2.2.2.1.trans hT.2.2.1
    have hu2 : u.2.2 2 = nI st := h.2.2.2.2.1
    rw [FL_X4_brokenAt_5, hu1, hu2]
    rcases Nat.lt_or_ge st t with hlt | hge
    · rw [if_neg (nI_ge hlt (by omega))]
      have hA : At y (u.1, u.2.1, va_up u.2.2 3 0) st 0 := by
        obtain ⟨h1, h2, h3, h4, h5, h6⟩ := h
        refine ⟨h1, h2, ?_, ?_, ?_, ?_⟩
        · show va_up u.2.2 3 0 0 = _
          rw [va_up_ne _ _ (by decide)]; exact h3
        · show va_up u.2.2 3 0 1 = _
          rw [va_up_ne _ _ (by decide)]; exact h4
        · show va_up u.2.2 3 0 2 = _
          rw [va_up_ne _ _ (by decide)]; exact h5
        · show va_up u.2.2 3 0 3 = _
          rw [va_up_self]
      obtain ⟨u', q1, q2⟩ := reads_loop (y := y) h60 hT.2.2.1 100 fuel st 0 _ hA (by omega) (by omega) (by decide)
      obtain ⟨e1, e2, e3, e4⟩ := rd_end y t 100 st 0 (by omega) (by omega)
      obtain ⟨w1, w2⟩ := wb_loop hT 100 st 0 (f + 1) (by omega) (by omega) (Or.inl hlt) (by omega)
      rw [show F_X4_reads (u.1, u.2.1, u.2.2) = some (bI (rd (chr y t) 100 st 0).1, u') from q1, oB2_some]
      cases hok : (rd (chr y t) 100 st 0).1
      · rw [if_pos (show bI false = 0 from rfl)]
        refine Or.inr ⟨st, (rd (chr y t) 100 st 0).2.1, w1 hok, ?_, e1, e2, u', _, rfl, q2⟩
        exact st_loop hT hst ((rd (chr y t) 100 st 0).2.1 - st) _ fuel (by omega) e2 (by unfold fuel; omega) (e4 hok)
      · rw [if_neg (show ¬ bI true = 0 by decide)]
        obtain ⟨f', w3, w4⟩ := w2 hok
        obtain ⟨e5, e6⟩ := e3 hok
        rw [w3]
        exact br_loop hT d _ g f' _ u' q2 (by omega) e2 (by omega) w4 (Or.inr ⟨by omega, e6⟩)
    · have e : st = t := by omega
      subst e
      rw [if_pos (end_le _)]
      refine Or.inl ⟨?_, u, st, r, rfl, h⟩
      rw [FL_X2_whereItBreaksOff_4, hT.2.1, if_pos (end_le _)]
      rcases hst with q | ⟨q1, q2⟩
      · subst q
        rw [if_pos (by decide)]
      · rw [if_neg (nI_ne0 q1 (by omega)), show nI st - 1 = nI (st - 1) from pk_sub (b := 1) q1, tx_at hT (by omega), oB_some, if_pos q2]
theorem Rl.at {x : XS} {y u : St} {i : Nat} {r : Int32} (h : Rl x y) (ha : At y u i r) : Rl x u := by
  obtain ⟨n, k, t, H, hk, hx, hy, hP, hH, hT⟩ := h
  obtain ⟨h1, h2, h3, h4, _⟩ := ha
  exact ⟨n, k, t, by rw [h1]; exact H, hk, hx, h3.trans hy, hP, by rw [h1]; exact hH, hT.fr (by rw [h1]) h4⟩
theorem br_eq {T y : St} {t : Nat} (hT : Tx T y t) : (F_X2_whereItBreaksOff T = some (-1) ∧ (∃ u' i' r', F_X4_brokenAt y = some (-1, u') ∧ At y u' i' r')) ∨
    (∃ a b, F_X2_whereItBreaksOff T = some (nI b) ∧ F_X2_startOfClause T (nI b) = some (nI a) ∧ a ≤ b ∧ b ≤ t ∧ ∃ u' r', F_X4_brokenAt y = some (nI a, u') ∧ At y u' b r') := by
  have h60 := hT.1
  have hA : At y (y.1, y.2.1, va_up y.2.2 2 0) 0 (y.2.2 3) := by
    refine ⟨rfl, rfl, ?_, ?_, ?_, ?_⟩
    · show va_up y.2.2 2 0 0 = _
      rw [va_up_ne _ _ (by decide)]
    · show va_up y.2.2 2 0 1 = _
      rw [va_up_ne _ _ (by decide)]
    · show va_up y.2.2 2 0 2 = _
      rw [va_up_self]
      rfl
    · show va_up y.2.2 2 0 3 = _
      rw [va_up_ne _ _ (by decide)]
  exact br_loop hT 100 0 fuel fuel _ _ hA (by omega) (by omega) (by decide) (by unfold fuel; omega) (Or.inl rfl)
theorem sim_fault {x : XS} {y : St} (h : Rl x y) (p : Int32) : ∃ v y1, F_X3_fault x p = some v ∧ F_X4_fault y p = some (v, y1) ∧ Rl x y1 := by
  have hR := h
  obtain ⟨n, k, t, H, hk, hx, hy, hP, hH, hT⟩ := h
  have h60 := hT.1
  unfold F_X3_fault F_X4_fault
  rw [in_eq, oB_some]
  by_cases h1 : p < 0
  · rw [if_pos h1, if_pos h1]
    exact ⟨_, y, rfl, rfl, hR⟩
  by_cases h2 : 1 < p
  · rw [if_neg h1, if_neg h1, if_pos h2, if_neg (fun q => (le_lt p 1).mp q h2)]
    exact ⟨_, y, rfl, rfl, hR⟩
  rw [if_neg h1, if_neg h1, if_neg h2, if_pos ((le_lt p 1).mpr h2), if_neg (show ¬ (1 : Int32) = 0 by decide)]
  rcases br_eq hT with ⟨a1, u', i', r', a2, a3⟩ | ⟨a, b, a1, a2, hab, hbt, u', r', a3, a4⟩
  · rw [a1, a2, oB_some, oB2_some, if_pos rfl, if_neg (by decide)]
    exact ⟨_, u', rfl, rfl, hR.at a3⟩
  · rw [a1, a3, oB_some, oB2_some, if_neg (ge0 (by omega)), if_pos (nI_pos' (by omega)), a2, oB_some]
    by_cases hp : p = 0
    · rw [if_pos hp, if_pos hp]
      exact ⟨_, u', rfl, rfl, hR.at a4⟩
    · rw [if_neg hp, if_neg hp, show u'.2.2 2 = nI b from a4.2.2.2.2.1]
      exact ⟨_, u', rfl, rfl, hR.at a4⟩
