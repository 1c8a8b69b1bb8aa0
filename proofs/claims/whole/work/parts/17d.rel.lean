/-! The store beside the model's row; the greatest literal -/
def ha (c : Int32) : Nat → Bool
  | 0 => false
  | a + 1 => ha c a || (bt c (2 * a) && bt c (2 * a + 1))
def Rk (u : St) (s : Nat → Int32) (r ρ : Nat → Nat) : Prop := (∀ a, a < 6 → r a < 6 ∧ ρ (r a) = a ∧ s (5 + a) = nI (r a)) ∧ (∀ i, i < 6 → ρ i < 6 ∧ r (ρ i) = i ∧ u.1 0 i = nI (ρ i))
def Cl (u : St) (s : Nat → Int32) (k : Nat) : Prop := (∃ m, m < 4096 ∧ u.1 1 k = nI m ∧ ha (u.1 1 k) 6 = false) ∧ s (11 + 6 * k) = u.1 1 k ∧ s (12 + 6 * k) = u.1 2 k ∧ F_X3_valuesOfClause (u.1 1 k) = some (u.2.1 k) ∧ s (13 + 6 * k) = u.1 3 k + 1 ∧ s (14 + 6 * k) = u.1 4 k + 1 ∧ s (15 + 6 * k) = u.1 5 k ∧ s (16 + 6 * k) = u.1 6 k ∧ ((u.1 3 k = -1 ∧ u.1 4 k = -1 ∧ u.1 5 k = -1) ∨ ∃ a b c, a < k ∧ b < k ∧ c < 6 ∧ u.1 3 k = nI a ∧ u.1 4 k = nI b ∧ u.1 5 k = nI c)
def Rc (u : St) (s : Nat → Int32) (n : Nat) : Prop := n ≤ 40 ∧ u.2.2 0 = nI n ∧ s 0 = nI n ∧ s 1 = u.2.2 1 ∧ s 2 = u.2.2 2 ∧ s 3 = u.2.2 3 ∧ s 4 = u.2.2 4 ∧ (∃ g, 1 ≤ g ∧ g ≤ 9 ∧ u.2.2 2 = nI g) ∧ (∃ r ρ, Rk u s r ρ) ∧ ∀ k, k < n → Cl u s k
def Re (u : St) (n : Nat) : Prop := ∀ k, k < n → u.1 1 k = 0 → k + 1 = n ∧ ¬ u.1 2 k = 2
def Rs (u : St) (s : Nat → Int32) (n : Nat) : Prop := Rc u s n ∧ Re u n
theorem lnS_p {j : Nat} (hj : 0 < j) : lnS j = 40 := if_neg (by omega)
theorem at_in {f : Nat → Int32} {n k : Nat} (h : k < n) (hn : n < 2 ^ 31) : F_X3_at f n (nI k) = some (f k) := by
  unfold F_X3_at
  have h2 : ¬ Int32.ofNat n ≤ nI k := nI_ge h hn
  rw [if_neg (nI_pos (by omega)), if_neg h2, aLd_in (nI_in h hn), nI_clamp (by omega)]
  rfl
theorem at_m1 {f : Nat → Int32} {n : Nat} : F_X3_at f n (-1) = some 0 := by
  unfold F_X3_at
  rw [if_pos (by decide)]
theorem put_nI {f : Nat → Int32} {n k : Nat} {v : Int32} (h : k < n) (hn : n < 2 ^ 31) : F_X3_put f n (nI k) v = some (upd f k v) := by
  rw [put_in (nI_in h hn) (nI_ge h hn), nI_clamp (by omega)]
theorem aS {f : Nat → Int32} {j k : Nat} (hj : 0 < j) (hk : k < 40) : F_X3_at f (lnS j) (nI k) = some (f k) := by rw [lnS_p hj]; exact at_in hk (by decide)
theorem aR {f : Nat → Int32} {k : Nat} (hk : k < 6) : F_X3_at f (lnS 0) (nI k) = some (f k) := at_in (n := 6) hk (by decide)
theorem pS {f : Nat → Int32} {j k : Nat} {v : Int32} (hj : 0 < j) (hk : k < 40) : F_X3_put f (lnS j) (nI k) v = some (upd f k v) := by rw [lnS_p hj]; exact put_nI hk (by decide)
theorem pR {f : Nat → Int32} {k : Nat} {v : Int32} (hk : k < 6) : F_X3_put f (lnS 0) (nI k) v = some (upd f k v) := put_nI (n := 6) hk (by decide)
theorem ldM {f : Nat → Int32} {k : Nat} (h : k < 251) : aLd f (lnM 0) (nI k) = some (f k) := by
  rw [show lnM 0 = 251 from rfl, aLd_in (nI_in (N := 251) h (by decide)), nI_clamp (by omega)]
theorem ldM0 {f : Nat → Int32} : aLd f (lnM 0) 0 = some (f 0) := ldM (k := 0) (by decide)
theorem stM {f : Nat → Int32} {k : Nat} {v : Int32} (h : k < 251) : aSt f (lnM 0) (nI k) v = some (upd f k v) := by
  rw [show lnM 0 = 251 from rfl, aSt_in (nI_in (N := 251) h (by decide)), nI_clamp (by omega)]
theorem ofE (y : St) {k w : Nat} (hk : k < 40) (hw : w < 6) : F_X4_of y (nI k) (nI w) = some (y.1 0 (11 + 6 * k + w)) := by
  unfold F_X4_of
  rw [show (11 : Int32) + (6 : Int32) * nI k + nI w = nI (11 + 6 * k + w) by rw [show (6 : Int32) = nI 6 from rfl, show (11 : Int32) = nI 11 from rfl, pk_mul, nI_add, nI_add], ldM (by omega)]
  rfl
theorem of0 (y : St) {k : Nat} (hk : k < 40) : F_X4_of y (nI k) 0 = some (y.1 0 (11 + 6 * k)) := ofE y hk (w := 0) (by decide)
theorem of1 (y : St) {k : Nat} (hk : k < 40) : F_X4_of y (nI k) 1 = some (y.1 0 (12 + 6 * k)) := (ofE y hk (w := 1) (by decide)).trans (by rw [show 11 + 6 * k + 1 = 12 + 6 * k by omega])
theorem of2 (y : St) {k : Nat} (hk : k < 40) : F_X4_of y (nI k) 2 = some (y.1 0 (13 + 6 * k)) := (ofE y hk (w := 2) (by decide)).trans (by rw [show 11 + 6 * k + 2 = 13 + 6 * k by omega])
theorem of3 (y : St) {k : Nat} (hk : k < 40) : F_X4_of y (nI k) 3 = some (y.1 0 (14 + 6 * k)) := (ofE y hk (w := 3) (by decide)).trans (by rw [show 11 + 6 * k + 3 = 14 + 6 * k by omega])
theorem of4 (y : St) {k : Nat} (hk : k < 40) : F_X4_of y (nI k) 4 = some (y.1 0 (15 + 6 * k)) := (ofE y hk (w := 4) (by decide)).trans (by rw [show 11 + 6 * k + 4 = 15 + 6 * k by omega])
theorem of5 (y : St) {k : Nat} (hk : k < 40) : F_X4_of y (nI k) 5 = some (y.1 0 (16 + 6 * k)) := (ofE y hk (w := 5) (by decide)).trans (by rw [show 11 + 6 * k + 5 = 16 + 6 * k by omega])
def wr (y : St) (s : Nat → Int32) : St := (va_up y.1 0 s, y.2.1, y.2.2)
theorem wr_0 (y : St) (s : Nat → Int32) : (wr y s).1 0 = s := va_up_self y.1 0 s
theorem putsE (y : St) {k w : Nat} {v : Int32} (hk : k < 40) (hw : w < 6) : F_X4_puts y (nI k) (nI w) v = some (wr y (upd (y.1 0) (11 + 6 * k + w) v)) := by
  unfold F_X4_puts
  rw [show (11 : Int32) + (6 : Int32) * nI k + nI w = nI (11 + 6 * k + w) by rw [show (6 : Int32) = nI 6 from rfl, show (11 : Int32) = nI 11 from rfl, pk_mul, nI_add, nI_add], stM (by omega)]
  rfl
/-- what the model's writers of its row leave -/
def Fr (y z : St) : Prop := z.2 = y.2 ∧ ∀ j, j ≠ 0 → z.1 j = y.1 j
theorem Fr.rf (y : St) : Fr y y := ⟨rfl, fun _ _ => rfl⟩
theorem Fr.tr {x y z : St} (h : Fr x y) (h2 : Fr y z) : Fr x z := ⟨h2.1.trans h.1, fun j hj => (h2.2 j hj).trans (h.2 j hj)⟩
theorem Fr.wr (y : St) (s : Nat → Int32) : Fr y (wr y s) := ⟨rfl, fun j hj => va_up_ne _ _ hj⟩
def key (r : Nat → Nat) (L : Nat) : Nat := 2 * r (L / 2) + L % 2
def isG (r : Nat → Nat) (c : Int32) (L : Nat) : Prop := L < 12 ∧ bt c L = true ∧ ∀ L', L' < 12 → bt c L' = true → key r L' ≤ key r L
theorem isG_one {u : St} {s : Nat → Int32} {r ρ : Nat → Nat} (h : Rk u s r ρ) {c : Int32} {L L' : Nat} (a : isG r c L) (b : isG r c L') : L = L' := by
  have h1 := a.2.2 L' b.1 b.2.1
  have h2 := b.2.2 L a.1 a.2.1
  unfold key at h1 h2
  have h3 : r (L / 2) = r (L' / 2) := by omega
  have h4 := (h.1 (L / 2) (by have := a.1; omega)).2.1
  have h5 := (h.1 (L' / 2) (by have := b.1; omega)).2.1
  rw [h3, h5] at h4
  omega
theorem g1_loop {u : St} {s : Nat → Int32} {r ρ : Nat → Nat} (h : Rk u s r ρ) (c : Int32) : ∀ i f, i ≤ 6 → i < f → (∀ L, L < 12 → bt c L = true → r (L / 2) < i) →
    (FL_X1_greatestOf_2 u f c (nI i - 1) = some (-1) ∧ ∀ L, L < 12 → bt c L = false) ∨ ∃ L, FL_X1_greatestOf_2 u f c (nI i - 1) = some (nI L) ∧ isG r c L
  | i, 0, _, h, _ => absurd h (by omega)
  | 0, f + 1, _, _, hb => by
    refine Or.inl ⟨?_, fun L hL => ?_⟩
    · unfold FL_X1_greatestOf_2
      exact if_pos (by decide)
    · cases hc : bt c L
      · rfl
      · exact absurd (hb L hL hc) (by omega)
  | i + 1, f + 1, hi, hf, hb => by
    obtain ⟨ha, har, hu⟩ := h.2 i (by omega)
    unfold FL_X1_greatestOf_2
    rw [nI_pred, if_neg (nI_pos (by omega)), aR (by omega), oB_some, hu]
    simp only [pr_eq c (show ρ i < 15 by omega), pr_0, pr_hi]
    have hL : ∀ L, L < 12 → r (L / 2) = i → L = 2 * ρ i ∨ L = 2 * ρ i + 1 := by
      intro L hL e
      have := (h.1 (L / 2) (by omega)).2.1
      rw [e] at this
      omega
    by_cases hz : bt c (2 * ρ i) = false ∧ bt c (2 * ρ i + 1) = false
    · rw [if_pos hz]
      refine g1_loop h c i f (by omega) (by omega) (fun L h1 h2 => ?_)
      have h3 := hb L h1 h2
      have h4 : r (L / 2) ≠ i := by
        intro e
        rcases hL L h1 e with q | q
        · rw [q, hz.1] at h2; cases h2
        · rw [q, hz.2] at h2; cases h2
      omega
    · rw [if_neg hz]
      refine Or.inr ⟨2 * ρ i + (bt c (2 * ρ i + 1)).toNat, ?_, ?_, ?_, ?_⟩
      · rw [show (2 : Int32) = nI 2 from rfl, pk_mul, nI_add]
      · have := Bool.toNat_le (bt c (2 * ρ i + 1)); omega
      · cases hx : bt c (2 * ρ i + 1)
        · cases hy : bt c (2 * ρ i)
          · exact absurd ⟨hy, hx⟩ hz
          · exact hy
        · exact hx
      · intro L h1 h2
        have h3 := hb L h1 h2
        have ht := Bool.toNat_le (bt c (2 * ρ i + 1))
        unfold key
        rw [show (2 * ρ i + (bt c (2 * ρ i + 1)).toNat) / 2 = ρ i by omega, har]
        by_cases e : r (L / 2) = i
        · rcases hL L h1 e with q | q
          · rw [e]; omega
          · rw [q] at h2
            rw [h2, e, q]
            show _ ≤ 2 * i + (2 * ρ i + 1) % 2
            omega
        · omega
theorem keyOf_eq {u y : St} {r ρ : Nat → Nat} (h : Rk u (y.1 0) r ρ) {L : Nat} (hL : L < 12) : F_X4_keyOf y (nI L) = some (nI (key r L)) := by
  unfold F_X4_keyOf
  rw [div2 (by omega), oB_some, rem2 (by omega), show (5 : Int32) + nI (L / 2) = nI (5 + L / 2) from nI_add 5 (L / 2), ldM (by omega), (h.1 (L / 2) (by omega)).2.2]
  show some ((2 : Int32) * nI (r (L / 2)) + nI (L % 2)) = _
  rw [show (2 : Int32) = nI 2 from rfl, pk_mul, nI_add]
  rfl
theorem g4_loop {u y : St} {r ρ : Nat → Nat} (h : Rk u (y.1 0) r ρ) (c : Int32) : ∀ d f i (b : Int32), i + d = 12 → d < f →
    ((b = -1 ∧ ∀ L, L < i → bt c L = false) ∨ ∃ L, b = nI L ∧ L < i ∧ bt c L = true ∧ ∀ L', L' < i → bt c L' = true → key r L' ≤ key r L) →
    (FL_X4_greatest_4 y f c b (nI i) = some (-1) ∧ ∀ L, L < 12 → bt c L = false) ∨ ∃ L, FL_X4_greatest_4 y f c b (nI i) = some (nI L) ∧ isG r c L
  | d, 0, _, _, _, h, _ => absurd h (by omega)
  | 0, f + 1, i, b, hi, _, hb => by
    have : i = 12 := by omega
    subst this
    unfold FL_X4_greatest_4
    rw [if_pos (by decide)]
    rcases hb with ⟨e, h1⟩ | ⟨L, e, h1, h2, h3⟩
    · exact Or.inl ⟨by rw [e], h1⟩
    · exact Or.inr ⟨L, by rw [e], h1, h2, h3⟩
  | d + 1, f + 1, i, b, hi, hf, hb => by
    have h12 : ¬ (12 : Int32) ≤ nI i := fun h => absurd ((nI_leI (a := 12) (b := i) (by decide) (by omega)).mp h) (by omega)
    have go := fun b2 => g4_loop h c d f (i + 1) b2 (by omega) (by omega)
    have ki := keyOf_eq h (L := i) (by omega)
    unfold FL_X4_greatest_4
    rw [if_neg h12, x4_has c (show i < 32 by omega), oB_some, nI_1, ki]
    have up : ∀ {L : Nat} {P : Prop}, L < i + 1 → (L < i → P) → (L = i → P) → P := fun h a b => by
      rcases Nat.lt_succ_iff_lt_or_eq.mp h with q | q
      · exact a q
      · exact b q
    cases hc : bt c i
    · rw [if_pos (show bI false = 0 from rfl)]
      refine go b ?_
      rcases hb with ⟨e, h1⟩ | ⟨L, e, h1, h2, h3⟩
      · exact Or.inl ⟨e, fun L hL => up hL (h1 L) (fun q => q ▸ hc)⟩
      · exact Or.inr ⟨L, e, by omega, h2, fun L' hL' hq => up hL' (fun z => h3 L' z hq) (fun z => by rw [z, hc] at hq; cases hq)⟩
    · rw [if_neg (by decide)]
      rcases hb with ⟨e, h1⟩ | ⟨L, e, h1, h2, h3⟩
      · rw [e, if_pos (by decide)]
        exact go _ (Or.inr ⟨i, rfl, by omega, hc, fun L' hL' hq => up hL' (fun z => by rw [h1 L' z] at hq; cases hq) (fun z => by rw [z]; exact Nat.le_refl _)⟩)
      · have hr : key r i < 2 ^ 31 ∧ key r L < 2 ^ 31 := by
          have := (h.1 (i / 2) (by omega)).1
          have := (h.1 (L / 2) (by omega)).1
          unfold key
          omega
        rw [e, if_neg (nI_pos (by omega)), oB_some, keyOf_eq h (by omega), oB_some]
        by_cases hk : key r i ≤ key r L
        · rw [if_pos ((nI_leI hr.1 hr.2).mpr hk)]
          exact go _ (Or.inr ⟨L, rfl, by omega, h2, fun L' hL' hq => up hL' (fun z => h3 L' z hq) (fun z => by rw [z]; exact hk)⟩)
        · rw [if_neg (fun q => hk ((nI_leI hr.1 hr.2).mp q))]
          exact go _ (Or.inr ⟨i, rfl, by omega, hc, fun L' hL' hq => up hL' (fun z => by have := h3 L' z hq; omega) (fun z => by rw [z]; exact Nat.le_refl _)⟩)
theorem gr_eq {u y : St} {r ρ : Nat → Nat} (h : Rk u (y.1 0) r ρ) (c : Int32) :
    (F_X1_greatestOf u c = some (-1) ∧ F_X4_greatest y c = some (-1) ∧ ∀ L, L < 12 → bt c L = false) ∨ ∃ L, L < 12 ∧ bt c L = true ∧ F_X1_greatestOf u c = some (nI L) ∧ F_X4_greatest y c = some (nI L) := by
  have h1 := g1_loop h c 6 fuel (Nat.le_refl _) (by decide) (fun L hL _ => (h.1 (L / 2) (by omega)).1)
  have h2 := g4_loop h c 12 fuel 0 (-1) rfl (by decide) (Or.inl ⟨rfl, fun L hL => absurd hL (by omega)⟩)
  rcases h1 with ⟨a1, a2⟩ | ⟨L, a1, a2⟩
  · rcases h2 with ⟨b1, b2⟩ | ⟨L', b1, b2⟩
    · exact Or.inl ⟨a1, b1, a2⟩
    · have := a2 L' b2.1
      rw [b2.2.1] at this
      cases this
  · rcases h2 with ⟨b1, b2⟩ | ⟨L', b1, b2⟩
    · have := b2 L a2.1
      rw [a2.2.1] at this
      cases this
    · have e := isG_one h a2 b2
      subst e
      exact Or.inr ⟨L, a2.1, a2.2.1, a1, b1⟩
theorem bl_i (x : Int32) {L : Nat} (h : L < 32) : bl x.toInt64 L = bt x L := by
  unfold bl bt
  rw [Int32.toBitVec_toInt64, BitVec.getLsbD_signExtend]
  simp [h, show L < 64 by omega]
theorem less_eq {u y : St} {r ρ : Nat → Nat} (h : Rk u (y.1 0) r ρ) (a b : Int32) : ∃ z : Bool, F_X1_isLess u a b = some (bI z) ∧ F_X4_isLess y a b = some (bI z) := by
  unfold F_X1_isLess F_X4_isLess
  rcases gr_eq h (a ^^^ b) with ⟨h1, h2, _⟩ | ⟨L, hL, _, h1, h2⟩
  · rw [h1, h2]
    exact ⟨false, rfl, rfl⟩
  · rw [h1, h2, oB_some, oB_some, if_neg (fun e => by have := nI_pos (n := L) (by omega); rw [e] at this; exact this (by decide)), if_neg (nI_pos (by omega)), x3_isIn _ (show L < 64 by omega), x4_has b (show L < 32 by omega), bl_i b (by omega), oB_some]
    cases bt b L
    · exact ⟨false, rfl, rfl⟩
    · exact ⟨true, rfl, rfl⟩
