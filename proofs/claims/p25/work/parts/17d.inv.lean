/-! The store by itself: what always holds of it -/
def ha (c : Int32) : Nat → Bool
  | 0 => false
  | a + 1 => ha c a || (bt c (2 * a) && bt c (2 * a + 1))
def Rk (u : St) (r ρ : Nat → Nat) : Prop := (∀ a, a < 6 → r a < 6 ∧ ρ (r a) = a ∧ True) ∧ (∀ i, i < 6 → ρ i < 6 ∧ r (ρ i) = i ∧ u.1 0 i = nI (ρ i))
/-- s has the literals of a and b but those of the atom c -/
def Rsv (a b : Int32) (c : Nat) (s : Int32) : Prop := ∀ i, i < 32 → bt s i = ((bt a i || bt b i) && !(decide (i = 2 * c ∨ i = 2 * c + 1)))
def Pk (u : St) (k : Nat) : Prop := (u.1 3 k = -1 ∧ u.1 4 k = -1 ∧ u.1 6 k = nI 0) ∨ ∃ a b c d da db, a < k ∧ b < k ∧ c < 6 ∧ u.1 3 k = nI a ∧ u.1 4 k = nI b ∧ u.1 5 k = nI c ∧ u.1 6 k = nI d ∧ u.1 6 a = nI da ∧ u.1 6 b = nI db ∧ da < d ∧ db < d ∧ d ≤ k ∧ bt (u.1 1 a) (2 * c) = true ∧ bt (u.1 1 b) (2 * c + 1) = true ∧ Rsv (u.1 1 a) (u.1 1 b) c (u.1 1 k)
def Ck (u : St) (k : Nat) : Prop := (∃ m, m < 4096 ∧ u.1 1 k = nI m ∧ ha (u.1 1 k) 6 = false) ∧ F_X3_valuesOfClause (u.1 1 k) = some (u.2.1 k) ∧ (u.1 2 k = 0 ∨ u.1 2 k = 1 ∨ u.1 2 k = 2) ∧ Pk u k
def Cs (u : St) (n : Nat) : Prop := n ≤ 40 ∧ u.2.2 0 = nI n ∧ (∃ g, 1 ≤ g ∧ g ≤ 9 ∧ u.2.2 2 = nI g) ∧ ∀ k, k < n → Ck u k
def Nn (u : St) (n : Nat) : Prop := n ≤ 40 ∧ u.2.2 0 = nI n ∧ True
theorem Cs.nn {u : St} {n : Nat} (H : Cs u n) : Nn u n := ⟨H.1, H.2.1, trivial⟩
theorem Cs.cl {u : St} {n k : Nat} (H : Cs u n) (hk : k < n) : Ck u k := H.2.2.2 k hk
theorem Nn.lt {u : St} {n k : Nat} (H : Nn u n) (hk : k < n) : k < 40 := by have := H.1; omega
theorem Cs.lt {u : St} {n k : Nat} (H : Cs u n) (hk : k < n) : k < 40 := H.nn.lt hk
theorem lnS_p {j : Nat} (hj : 0 < j) : lnS j = 40 := if_neg (by omega)
theorem at_in {f : Nat → Int32} {n k : Nat} (h : k < n) (hn : n < 2 ^ 31) : F_X3_at f n (nI k) = some (f k) := by
  unfold F_X3_at
  have h2 : ¬ Int32.ofNat n ≤ nI k := nI_ge h hn
  rw [if_neg (nI_pos (by omega)), if_neg h2, aLd_in (nI_in h hn), nI_clamp (by omega)]
  rfl
theorem put_nI {f : Nat → Int32} {n k : Nat} {v : Int32} (h : k < n) (hn : n < 2 ^ 31) : F_X3_put f n (nI k) v = some (upd f k v) := by
  rw [put_in (nI_in h hn) (nI_ge h hn), nI_clamp (by omega)]
theorem aS {f : Nat → Int32} {j k : Nat} (hj : 0 < j) (hk : k < 40) : F_X3_at f (lnS j) (nI k) = some (f k) := by rw [lnS_p hj]; exact at_in hk (by decide)
theorem aR {f : Nat → Int32} {k : Nat} (hk : k < 6) : F_X3_at f (lnS 0) (nI k) = some (f k) := at_in (n := 6) hk (by decide)
theorem pS {f : Nat → Int32} {j k : Nat} {v : Int32} (hj : 0 < j) (hk : k < 40) : F_X3_put f (lnS j) (nI k) v = some (upd f k v) := by rw [lnS_p hj]; exact put_nI hk (by decide)
theorem pR {f : Nat → Int32} {k : Nat} {v : Int32} (hk : k < 6) : F_X3_put f (lnS 0) (nI k) v = some (upd f k v) := put_nI (n := 6) hk (by decide)
theorem aL {u : St} {k : Nat} (hk : k < 40) : F_X3_longAt u.2.1 (lnS 7) (nI k) = some (u.2.1 k) := by
  unfold F_X3_longAt
  have h2 : ¬ Int32.ofNat (lnS 7) ≤ nI k := nI_ge (b := 40) hk (by decide)
  rw [if_neg (nI_pos (by omega)), if_neg h2, show lnS 7 = 40 from rfl, aLd_in (nI_in (N := 40) hk (by decide)), nI_clamp (by omega)]
  rfl
theorem pL {f : Nat → Int64} {k : Nat} {v : Int64} (hk : k < 40) : F_X3_putLong f (lnS 7) (nI k) v = some (vp_updL f k v) := by
  unfold F_X3_putLong
  have h2 : ¬ Int32.ofNat (lnS 7) ≤ nI k := nI_ge (b := 40) hk (by decide)
  rw [if_neg (nI_pos (by omega)), if_neg h2]
  unfold aStL
  rw [show lnS 7 = 40 from rfl, if_neg (nI_in (N := 40) hk (by decide)), nI_clamp (by omega)]
  rfl
theorem end_le (n : Nat) : nI n ≤ nI n := by rw [Int32.le_iff_toInt_le]; exact Int.le_refl _
theorem go_nle {n i : Nat} (hn : n ≤ 64) (h : i < n) : ¬ nI n ≤ nI i := nI_ge h (by omega)
theorem Nn.ge {u : St} {n k : Nat} (H : Nn u n) (hk : k < n) : ¬ nI n ≤ nI k := go_nle (by have := H.1; omega) hk
theorem Cs.ge {u : St} {n k : Nat} (H : Cs u n) (hk : k < n) : ¬ nI n ≤ nI k := H.nn.ge hk
theorem Nn.f {u : St} {n : Nat} (H : Nn u n) : n < fuel := by have := H.1; unfold fuel; omega
theorem Cs.f {u : St} {n : Nat} (H : Cs u n) : n < fuel := H.nn.f
theorem ge0 {k : Nat} (h : k < 2 ^ 31) : ¬ nI k = -1 := fun e => by
  have := nI_pos (n := k) h
  rw [e] at this
  exact this (by decide)
theorem Nn.dr {u : St} {n k : Nat} (H : Nn u n) (hk : k < n) : F_X1_isDropped u (nI k) = some (bI (decide (u.1 2 k = 2))) := by
  unfold F_X1_isDropped
  rw [aS (by decide) (H.lt hk), oB_some]
  by_cases h : u.1 2 k = 2
  · rw [if_pos h, decide_eq_true h]; rfl
  · rw [if_neg h, decide_eq_false h]; rfl
theorem Cs.dr {u : St} {n k : Nat} (H : Cs u n) (hk : k < n) : F_X1_isDropped u (nI k) = some (bI (decide (u.1 2 k = 2))) := H.nn.dr hk
/-! the greatest literal -/
def key (r : Nat → Nat) (L : Nat) : Nat := 2 * r (L / 2) + L % 2
def isG (r : Nat → Nat) (c : Int32) (L : Nat) : Prop := L < 12 ∧ bt c L = true ∧ ∀ L', L' < 12 → bt c L' = true → key r L' ≤ key r L
theorem isG_one {u : St} {r ρ : Nat → Nat} (h : Rk u r ρ) {c : Int32} {L L' : Nat} (a : isG r c L) (b : isG r c L') : L = L' := by
  have h1 := a.2.2 L' b.1 b.2.1
  have h2 := b.2.2 L a.1 a.2.1
  unfold key at h1 h2
  have h3 : r (L / 2) = r (L' / 2) := by omega
  have h4 := (h.1 (L / 2) (by have := a.1; omega)).2.1
  have h5 := (h.1 (L' / 2) (by have := b.1; omega)).2.1
  rw [h3, h5] at h4
  omega
theorem g1_loop {u : St} {r ρ : Nat → Nat} (h : Rk u r ρ) (c : Int32) : ∀ i f, i ≤ 6 → i < f → (∀ L, L < 12 → bt c L = true → r (L / 2) < i) →
    (FL_X1_greatestOf_2 u f c (nI i - 1) = some (-1) ∧ ∀ L, L < 12 → bt c L = false) ∨ ∃ L, FL_X1_greatestOf_2 u f c (nI i - 1) = some (nI L) ∧ isG r c L
  | i, 0, _, h, _ => absurd h (by omega)
  | 0, f + 1, _, _, hb => by
    refine Or.inl ⟨?_, fun L hL => ?_⟩
    · unfold FL_X1_greatestOf_2
      exact if_pos (by decide)
    · cases hc : bt c L
      · rfl
      · exact absurd (hb L hL hc) (by omega)
  | i + 1, f + 1, hi, hf, hb => by
    obtain ⟨ha, har, hu⟩ := h.2 i (by omega)
    unfold FL_X1_greatestOf_2
    rw [nI_pred, if_neg (nI_pos (by omega)), aR (by omega), oB_some, hu]
    simp only [pr_eq c (show ρ i < 15 by omega), pr_0, pr_hi]
    have hL : ∀ L, L < 12 → r (L / 2) = i → L = 2 * ρ i ∨ L = 2 * ρ i + 1 := by
      intro L hL e
      have := (h.1 (L / 2) (by omega)).2.1
      rw [e] at this
      omega
    by_cases hz : bt c (2 * ρ i) = false ∧ bt c (2 * ρ i + 1) = false
    · rw [if_pos hz]
      refine g1_loop h c i f (by omega) (by omega) (fun L h1 h2 => ?_)
      have h3 := hb L h1 h2
      have h4 : r (L / 2) ≠ i := by
        intro e
        rcases hL L h1 e with q | q
        · rw [q, hz.1] at h2; cases h2
        · rw [q, hz.2] at h2; cases h2
      omega
    · rw [if_neg hz]
      refine Or.inr ⟨2 * ρ i + (bt c (2 * ρ i + 1)).toNat, ?_, ?_, ?_, ?_⟩
      · rw [show (2 : Int32) = nI 2 from rfl, pk_mul, nI_add]
      · have := Bool.toNat_le (bt c (2 * ρ i + 1)); omega
      · cases hx : bt c (2 * ρ i + 1)
        · cases hy : bt c (2 * ρ i)
          · exact absurd ⟨hy, hx⟩ hz
          · exact hy
        · exact hx
      · intro L h1 h2
        have h3 := hb L h1 h2
        have ht := Bool.toNat_le (bt c (2 * ρ i + 1))
        unfold key
        rw [show (2 * ρ i + (bt c (2 * ρ i + 1)).toNat) / 2 = ρ i by omega, har]
        by_cases e : r (L / 2) = i
        · rcases hL L h1 e with q | q
          · rw [e]; omega
          · rw [q] at h2
            rw [h2, e, q]
            show _ ≤ 2 * i + (2 * ρ i + 1) % 2
            omega
        · omega
theorem gr1 {u : St} {r ρ : Nat → Nat} (h : Rk u r ρ) (c : Int32) : (F_X1_greatestOf u c = some (-1) ∧ ∀ L, L < 12 → bt c L = false) ∨ ∃ L, F_X1_greatestOf u c = some (nI L) ∧ isG r c L :=
  g1_loop h c 6 fuel (Nat.le_refl _) (by decide) (fun L hL _ => (h.1 (L / 2) (by omega)).1)
theorem no_bits {m : Nat} (hm : m < 4096) (h : ∀ L, L < 12 → bt (nI m) L = false) : nI m = 0 := by
  apply b_ext
  intro i hi
  rw [b_0]
  by_cases hL : i < 12
  · exact h i hL
  · rw [bt_nI m hi]
    exact Nat.testBit_lt_two_pow (Nat.lt_of_lt_of_le hm (Nat.pow_le_pow_right (n := 2) (by decide) (show 12 ≤ i by omega)))
theorem Ck.z {u : St} {k : Nat} (h : Ck u k) (hb : ∀ L, L < 12 → bt (u.1 1 k) L = false) : u.1 1 k = 0 := by
  obtain ⟨m, hm, e, _⟩ := h.1
  rw [e]
  exact no_bits hm (by rw [← e]; exact hb)
theorem gr_cl {u : St} {r ρ : Nat → Nat} {n k : Nat} (h : Rk u r ρ) (H : Cs u n) (hk : k < n) : (u.1 1 k = 0 ∧ F_X1_greatestOf u (u.1 1 k) = some (-1)) ∨ ∃ L, ¬ u.1 1 k = 0 ∧ F_X1_greatestOf u (u.1 1 k) = some (nI L) ∧ isG r (u.1 1 k) L := by
  rcases gr1 h (u.1 1 k) with ⟨h1, h3⟩ | ⟨L, h1, hL⟩
  · exact Or.inl ⟨(H.cl hk).z h3, h1⟩
  · refine Or.inr ⟨L, fun q => ?_, h1, hL⟩
    have hb := hL.2.1
    rw [q, b_0] at hb
    cases hb
