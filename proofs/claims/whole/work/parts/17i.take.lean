/-! A clause is taken in -/
theorem pL {f : Nat → Int64} {k : Nat} {v : Int64} (hk : k < 40) : F_X3_putLong f (lnS 7) (nI k) v = some (vp_updL f k v) := by
  unfold F_X3_putLong
  have h2 : ¬ Int32.ofNat (lnS 7) ≤ nI k := nI_ge (b := 40) hk (by decide)
  rw [if_neg (nI_pos (by omega)), if_neg h2]
  unfold aStL
  rw [show lnS 7 = 40 from rfl, if_neg (nI_in (N := 40) hk (by decide)), nI_clamp (by omega)]
  rfl
theorem take1 {u : St} {n : Nat} (h0 : u.2.2 0 = nI n) (hn : n < 40) {p0 p1 p2 p3 dv : Int32} (hd : p1 = -1 ∧ dv = 0 ∨ ∃ a b, a < 40 ∧ b < 40 ∧ p1 = nI a ∧ p2 = nI b ∧ dv = 1 + (if u.1 6 a < u.1 6 b then u.1 6 b else u.1 6 a)) :
    ∃ u' V, F_X1_takeIn u p0 p1 p2 p3 = some (nI n, u') ∧ F_X3_valuesOfClause p0 = some V ∧ u'.1 0 = u.1 0 ∧ u'.1 1 = upd (u.1 1) n p0 ∧ u'.1 2 = upd (u.1 2) n 0 ∧ u'.1 3 = upd (u.1 3) n p1 ∧ u'.1 4 = upd (u.1 4) n p2 ∧ u'.1 5 = upd (u.1 5) n p3 ∧ u'.1 6 = upd (u.1 6) n dv ∧ u'.2.1 = vp_updL u.2.1 n V ∧ u'.2.2 = va_up u.2.2 0 (nI (n + 1)) := by
  obtain ⟨V, hV, _⟩ := vals p0
  unfold F_X1_takeIn
  rw [h0, hV]
  rcases hd with ⟨e1, ed⟩ | ⟨a, b, ha, hb, e1, e2, ed⟩
  · rw [if_pos e1]
    rw [pS (by decide) hn, oB_some, pS (by decide) hn, oB_some, pS (by decide) hn, oB_some, pS (by decide) hn, oB_some, pS (by decide) hn, oB_some, pS (by decide) hn, oB_some, oB_some, pL hn, oB_some]
    exact ⟨_, V, rfl, rfl, rfl, rfl, rfl, rfl, rfl, rfl, by rw [ed]; rfl, rfl, by rw [← nI_1]⟩
  · rw [if_neg (by rw [e1]; exact ge0 (by omega))]
    rw [pS (by decide) hn, oB_some, pS (by decide) hn, oB_some, pS (by decide) hn, oB_some, pS (by decide) hn, oB_some, pS (by decide) hn, oB_some]
    rw [e1, e2, aS (by decide) ha, oB_some, aS (by decide) hb, oB_some, pS (by decide) hn, oB_some, oB_some, pL hn, oB_some]
    exact ⟨_, V, rfl, rfl, rfl, rfl, rfl, rfl, rfl, rfl, by rw [ed]; rfl, rfl, by rw [← nI_1]⟩
theorem wr_wr (y : St) (s s' : Nat → Int32) : wr (wr y s) s' = wr y s' := by
  unfold wr
  have : va_up (va_up y.1 0 s) 0 s' = va_up y.1 0 s' := by
    funext j
    unfold va_up
    by_cases h : j = 0
    · rw [if_pos h, if_pos h]
    · rw [if_neg h, if_neg h, if_neg h]
  show (va_up (va_up y.1 0 s) 0 s', _, _) = _
  rw [this]
theorem putsW (y : St) (s : Nat → Int32) {k w : Nat} (v : Int32) (hk : k < 40) (hw : w < 6) : F_X4_puts (wr y s) (nI k) (nI w) v = some (wr y (upd s (11 + 6 * k + w) v)) := by
  rw [putsE (wr y s) hk hw, wr_0, wr_wr]
theorem pwA (y : St) (s : Nat → Int32) {k : Nat} (v : Int32) (hk : k < 40) : F_X4_puts (va_up y.1 0 s, y.2.1, y.2.2) (nI k) 0 v = some (wr y (upd s (11 + 6 * k + 0) v)) := putsW y s v hk (w := 0) (by decide)
theorem pw1 (y : St) (s : Nat → Int32) {k : Nat} (v : Int32) (hk : k < 40) : F_X4_puts (wr y s) (nI k) 1 v = some (wr y (upd s (11 + 6 * k + 1) v)) := putsW y s v hk (w := 1) (by decide)
theorem pw2 (y : St) (s : Nat → Int32) {k : Nat} (v : Int32) (hk : k < 40) : F_X4_puts (wr y s) (nI k) 2 v = some (wr y (upd s (11 + 6 * k + 2) v)) := putsW y s v hk (w := 2) (by decide)
theorem pw3 (y : St) (s : Nat → Int32) {k : Nat} (v : Int32) (hk : k < 40) : F_X4_puts (wr y s) (nI k) 3 v = some (wr y (upd s (11 + 6 * k + 3) v)) := putsW y s v hk (w := 3) (by decide)
theorem pw4 (y : St) (s : Nat → Int32) {k : Nat} (v : Int32) (hk : k < 40) : F_X4_puts (wr y s) (nI k) 4 v = some (wr y (upd s (11 + 6 * k + 4) v)) := putsW y s v hk (w := 4) (by decide)
theorem pw5 (y : St) (s : Nat → Int32) {k : Nat} (v : Int32) (hk : k < 40) : F_X4_puts (wr y s) (nI k) 5 v = some (wr y (upd s (11 + 6 * k + 5) v)) := putsW y s v hk (w := 5) (by decide)
theorem stM0 {f : Nat → Int32} {v : Int32} : aSt f (lnM 0) 0 v = some (upd f 0 v) := stM (k := 0) (by decide)
def ch (s : Nat → Int32) (n : Nat) (p0 a b c : Int32) : Nat → Int32 := upd (upd (upd (upd (upd (upd (upd s 0 (nI (n + 1))) (11 + 6 * n + 0) p0) (11 + 6 * n + 1) 0) (11 + 6 * n + 2) a) (11 + 6 * n + 3) b) (11 + 6 * n + 4) c) (11 + 6 * n + 5) 0
theorem ch_lo {s : Nat → Int32} {n : Nat} {p0 a b c : Int32} {i : Nat} (h0 : i ≠ 0) (h : i < 11 + 6 * n) : ch s n p0 a b c i = s i := by
  unfold ch
  rw [pk_un (by omega), pk_un (by omega), pk_un (by omega), pk_un (by omega), pk_un (by omega), pk_un (by omega), pk_un h0]
theorem ch_at {s : Nat → Int32} {n : Nat} {p0 a b c : Int32} : ch s n p0 a b c 0 = nI (n + 1) ∧ ch s n p0 a b c (11 + 6 * n) = p0 ∧ ch s n p0 a b c (12 + 6 * n) = 0 ∧ ch s n p0 a b c (13 + 6 * n) = a ∧ ch s n p0 a b c (14 + 6 * n) = b ∧ ch s n p0 a b c (15 + 6 * n) = c ∧ ch s n p0 a b c (16 + 6 * n) = 0 := by
  unfold ch
  rw [show 12 + 6 * n = 11 + 6 * n + 1 by omega, show 13 + 6 * n = 11 + 6 * n + 2 by omega, show 14 + 6 * n = 11 + 6 * n + 3 by omega, show 15 + 6 * n = 11 + 6 * n + 4 by omega, show 16 + 6 * n = 11 + 6 * n + 5 by omega]
  refine ⟨?_, ?_, ?_, ?_, ?_, ?_, ?_⟩
  · rw [pk_un (by omega), pk_un (by omega), pk_un (by omega), pk_un (by omega), pk_un (by omega), pk_un (by omega), pk_us]
  · rw [pk_un (by omega), pk_un (by omega), pk_un (by omega), pk_un (by omega), pk_un (by omega)]; exact pk_us
  · rw [pk_un (by omega), pk_un (by omega), pk_un (by omega), pk_un (by omega), pk_us]
  · rw [pk_un (by omega), pk_un (by omega), pk_un (by omega), pk_us]
  · rw [pk_un (by omega), pk_un (by omega), pk_us]
  · rw [pk_un (by omega), pk_us]
  · rw [pk_us]
theorem comes_end {u y : St} {n : Nat} (H : Rc u (y.1 0) n) (hn : n < 40) {p0 p1 p2 p3 dv : Int32} (hd : p1 = -1 ∧ dv = 0 ∨ ∃ a b, a < n ∧ b < n ∧ p1 = nI a ∧ p2 = nI b ∧ dv = 1 + (if u.1 6 a < u.1 6 b then u.1 6 b else u.1 6 a)) (g : Nat) :
    ∃ s', FL_X4_comes_57 (g + 1) y p0 p1 p2 p3 (nI n) = some (nI n, wr y s') ∧ s' 0 = nI (n + 1) ∧ (∀ i, i ≠ 0 → i < 11 + 6 * n → s' i = y.1 0 i) ∧ s' (11 + 6 * n) = p0 ∧ s' (12 + 6 * n) = 0 ∧ s' (13 + 6 * n) = p1 + 1 ∧ s' (14 + 6 * n) = p2 + 1 ∧ s' (15 + 6 * n) = p3 ∧ s' (16 + 6 * n) = dv := by
  rw [FL_X4_comes_57, H.n4, oB_some, if_pos (end_le n), oB_some, oB_some, stM0, oB_some, pwA y _ _ hn, oB_some]
  simp only [eta3, pw1 _ _ _ hn, pw2 _ _ _ hn, pw3 _ _ _ hn, pw4 _ _ _ hn, pw5 _ _ _ hn, oB_some, nI_1]
  show ∃ s', (if p1 < 0 then some (nI n, wr y (ch (y.1 0) n p0 (p1 + 1) (p2 + 1) p3)) else oB (F_X4_of (wr y (ch (y.1 0) n p0 (p1 + 1) (p2 + 1) p3)) p1 5) fun v34 => oB (F_X4_of (wr y (ch (y.1 0) n p0 (p1 + 1) (p2 + 1) p3)) p2 5) fun v36 => if v34 ≤ v36 then some (nI n, wr y (upd (ch (y.1 0) n p0 (p1 + 1) (p2 + 1) p3) (11 + 6 * n + 5) (v36 + 1))) else some (nI n, wr y (upd (ch (y.1 0) n p0 (p1 + 1) (p2 + 1) p3) (11 + 6 * n + 5) (v34 + 1)))) = some (nI n, wr y s') ∧ _
  obtain ⟨c0, c1, c2, c3, c4, c5, c6⟩ := @ch_at (y.1 0) n p0 (p1 + 1) (p2 + 1) p3
  rcases hd with ⟨e1, ed⟩ | ⟨a, b, ha, hb, e1, e2, ed⟩
  · rw [if_pos (by rw [e1]; decide)]
    exact ⟨_, rfl, c0, fun i h0 h => ch_lo h0 h, c1, c2, c3, c4, c5, c6.trans ed.symm⟩
  · have hA : F_X4_of (wr y (ch (y.1 0) n p0 (p1 + 1) (p2 + 1) p3)) p1 5 = some (u.1 6 a) := by
      rw [e1, of5 _ (by omega), wr_0, ch_lo (by omega) (by omega), (H.cl ha).2.2.2.2.2.2.2.1]
    have hB : F_X4_of (wr y (ch (y.1 0) n p0 (p1 + 1) (p2 + 1) p3)) p2 5 = some (u.1 6 b) := by
      rw [e2, of5 _ (by omega), wr_0, ch_lo (by omega) (by omega), (H.cl hb).2.2.2.2.2.2.2.1]
    have fin : ∀ d, d = dv → ∃ s', some (nI n, wr y (upd (ch (y.1 0) n p0 (p1 + 1) (p2 + 1) p3) (11 + 6 * n + 5) d)) = some (nI n, wr y s') ∧ s' 0 = nI (n + 1) ∧ (∀ i, i ≠ 0 → i < 11 + 6 * n → s' i = y.1 0 i) ∧ s' (11 + 6 * n) = p0 ∧ s' (12 + 6 * n) = 0 ∧ s' (13 + 6 * n) = p1 + 1 ∧ s' (14 + 6 * n) = p2 + 1 ∧ s' (15 + 6 * n) = p3 ∧ s' (16 + 6 * n) = dv := fun d hd => by
      refine ⟨_, rfl, ?_, fun i h0 h => ?_, ?_, ?_, ?_, ?_, ?_, ?_⟩
      · rw [pk_un (by omega)]; exact c0
      · rw [pk_un (by omega)]; exact ch_lo h0 h
      · rw [pk_un (by omega)]; exact c1
      · rw [pk_un (by omega)]; exact c2
      · rw [pk_un (by omega)]; exact c3
      · rw [pk_un (by omega)]; exact c4
      · rw [pk_un (by omega)]; exact c5
      · rw [show 16 + 6 * n = 11 + 6 * n + 5 by omega, pk_us]; exact hd
    rw [if_neg (by rw [e1]; exact nI_pos (by omega)), hA, hB, oB_some, oB_some]
    by_cases hle : u.1 6 a ≤ u.1 6 b
    · rw [if_pos hle]
      refine fin _ ?_
      rw [ed, Int32.add_comm]
      by_cases hlt : u.1 6 a < u.1 6 b
      · rw [if_pos hlt]
      · rw [if_neg hlt]
        have : u.1 6 a = u.1 6 b := by
          rw [Int32.le_iff_toInt_le] at hle
          rw [Int32.lt_iff_toInt_lt] at hlt
          exact Int32.toInt_inj.mp (by omega)
        rw [this]
    · rw [if_neg hle]
      refine fin _ ?_
      rw [ed, Int32.add_comm, if_neg (fun h => hle ((le_lt _ _).mpr (fun q => by
        rw [Int32.lt_iff_toInt_lt] at h q
        omega)))]
