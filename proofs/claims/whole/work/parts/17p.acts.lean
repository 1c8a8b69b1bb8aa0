/-! What an operation that acts leaves: kept or taken back -/
theorem ldP {f : Nat → Int32} {k : Nat} (h : k < 1004) : aLd f (lnM 2) (nI k) = some (f k) := by
  rw [show lnM 2 = 1004 from rfl, aLd_in (nI_in (N := 1004) h (by decide)), nI_clamp (by omega)]
theorem stP {f : Nat → Int32} {k : Nat} {v : Int32} (h : k < 1004) : aSt f (lnM 2) (nI k) v = some (upd f k v) := by
  rw [show lnM 2 = 1004 from rfl, aSt_in (nI_in (N := 1004) h (by decide)), nI_clamp (by omega)]
theorem ldB {f : Nat → Int32} {k : Nat} (h : k < 251) : aLd f (lnM 1) (nI k) = some (f k) := ldM (f := f) h
theorem pos_P (k i : Nat) : (251 : Int32) * nI k + nI i = nI (251 * k + i) := by
  rw [show (251 : Int32) = nI 251 from rfl, pk_mul, nI_add]
def wp (y : St) (j : Nat) (s : Nat → Int32) : St := (va_up y.1 j s, y.2.1, y.2.2)
theorem wp_s (y : St) (j : Nat) (s : Nat → Int32) : (wp y j s).1 j = s := va_up_self y.1 j s
theorem wp_n (y : St) (j : Nat) (s : Nat → Int32) {i : Nat} (h : i ≠ j) : (wp y j s).1 i = y.1 i := va_up_ne y.1 s h
theorem cp63 (v : Int32) {k : Nat} (hk : k < 4) : ∀ d g i (y : St), i + d = 251 → d < g → y.2.2 0 = nI k → ∃ y', FL_X4_acted_63 g y v (nI i) = some (v, y') ∧ (∀ j, i ≤ j → j < 251 → y'.1 2 (251 * k + j) = y.1 1 j) ∧ (∀ q, q < 251 * k + i ∨ 251 * k + 251 ≤ q → y'.1 2 q = y.1 2 q) ∧ y'.2.2 0 = nI (k + 1) ∧ y'.2.2 1 = y.2.2 1 ∧ ∀ j, j ≠ 2 → y'.1 j = y.1 j
  | d, 0, _, _, _, h, _ => absurd h (by omega)
  | 0, g + 1, i, y, hi, _, h0 => by
    have : i = 251 := by omega
    subst this
    unfold FL_X4_acted_63
    rw [if_pos (show (251 : Int32) ≤ nI 251 by decide)]
    refine ⟨_, rfl, fun j h1 h2 => absurd h2 (by omega), fun _ _ => rfl, ?_, ?_, fun _ _ => rfl⟩
    · show (va_up y.2.2 0 (y.2.2 0 + 1)) 0 = _
      rw [va_up_self, h0, nI_1]
    · exact va_up_ne y.2.2 (y.2.2 0 + 1) (show 1 ≠ 0 by decide)
  | d + 1, g + 1, i, y, hi, _, h0 => by
    unfold FL_X4_acted_63
    rw [if_neg (show ¬ (251 : Int32) ≤ nI i from nI_ge (a := i) (b := 251) (by omega) (by decide)), ldB (by omega), oB_some, h0, pos_P, stP (by omega), oB_some, nI_1]
    obtain ⟨y', a, b, c, e, e1, f⟩ := cp63 v hk d g (i + 1) (wp y 2 (upd (y.1 2) (251 * k + i) (y.1 1 i))) (by omega) (by omega) h0
    refine ⟨y', a, fun j h1 h2 => ?_, fun q hq => ?_, e, e1, fun j hj => (f j hj).trans (wp_n y 2 _ hj)⟩
    · by_cases hji : j = i
      · rw [c _ (by omega), wp_s, hji, pk_us]
      · rw [b j (by omega) h2, wp_n y 2 _ (by decide)]
    · rw [c q (by omega), wp_s, pk_un (by omega)]
theorem sh22 (v : Int32) : ∀ d g i (y : St), i + d = 753 → d < g → y.2.2 0 = nI 4 → ∃ y', FL_X4_acted_22 g y v (nI i) = FL_X4_acted_63 fuel y' v (nI 0) ∧ (∀ q, i ≤ q → q < 753 → y'.1 2 q = y.1 2 (q + 251)) ∧ (∀ q, q < i → y'.1 2 q = y.1 2 q) ∧ y'.2.2 0 = nI 3 ∧ y'.2.2 1 = y.2.2 1 ∧ ∀ j, j ≠ 2 → y'.1 j = y.1 j
  | d, 0, _, _, _, h, _ => absurd h (by omega)
  | 0, g + 1, i, y, hi, _, h0 => by
    have : i = 753 := by omega
    subst this
    unfold FL_X4_acted_22
    rw [if_pos (show (753 : Int32) ≤ nI 753 by decide)]
    refine ⟨_, rfl, fun j h1 h2 => absurd h2 (by omega), fun _ _ => rfl, ?_, ?_, fun _ _ => rfl⟩
    · show (va_up y.2.2 0 (y.2.2 0 - 1)) 0 = _
      rw [va_up_self, h0]
      rfl
    · exact va_up_ne y.2.2 (y.2.2 0 - 1) (show 1 ≠ 0 by decide)
  | d + 1, g + 1, i, y, hi, _, h0 => by
    unfold FL_X4_acted_22
    rw [if_neg (show ¬ (753 : Int32) ≤ nI i from nI_ge (a := i) (b := 753) (by omega) (by decide)), show nI i + 251 = nI (i + 251) from nI_add i 251, ldP (by omega), oB_some, stP (by omega), oB_some, nI_1]
    obtain ⟨y', a, b, c, e, e1, f⟩ := sh22 v d g (i + 1) (wp y 2 (upd (y.1 2) i (y.1 2 (i + 251)))) (by omega) (by omega) h0
    refine ⟨y', a, fun q h1 h2 => ?_, fun q hq => ?_, e, e1, fun j hj => (f j hj).trans (wp_n y 2 _ hj)⟩
    · by_cases hqi : q = i
      · rw [c _ (by omega), wp_s, hqi, pk_us]
      · rw [b q (by omega) h2, wp_s, pk_un (by omega)]
    · rw [c q (by omega), wp_s, pk_un (by omega)]
theorem ret_loop : ∀ d g i (y : St), i + d = 251 → d < g → ∃ y', FL_X4_returns_2 g y (nI i) = some y' ∧ (∀ j, i ≤ j → j < 251 → y'.1 0 j = y.1 1 j) ∧ (∀ j, j < i → y'.1 0 j = y.1 0 j) ∧ y'.2 = y.2 ∧ ∀ j, j ≠ 0 → y'.1 j = y.1 j
  | d, 0, _, _, _, h => absurd h (by omega)
  | 0, g + 1, i, y, hi, _ => by
    have : i = 251 := by omega
    subst this
    unfold FL_X4_returns_2
    rw [if_pos (show (251 : Int32) ≤ nI 251 by decide)]
    exact ⟨y, rfl, fun j h1 h2 => absurd h2 (by omega), fun _ _ => rfl, rfl, fun _ _ => rfl⟩
  | d + 1, g + 1, i, y, hi, _ => by
    unfold FL_X4_returns_2
    rw [if_neg (show ¬ (251 : Int32) ≤ nI i from nI_ge (a := i) (b := 251) (by omega) (by decide)), ldB (by omega), oB_some, stM (by omega), oB_some, nI_1]
    obtain ⟨y', a, b, c, e, f⟩ := ret_loop d g (i + 1) (wp y 0 (upd (y.1 0) i (y.1 1 i))) (by omega) (by omega)
    refine ⟨y', a, fun j h1 h2 => ?_, fun j h1 => ?_, e, fun j hj => (f j hj).trans (wp_n y 0 _ hj)⟩
    · by_cases hji : j = i
      · rw [c j (by omega), wp_s, hji, pk_us]
      · rw [b j (by omega) h2, wp_n y 0 _ (by decide)]
    · rw [c j (by omega), wp_s, pk_un (by omega)]
theorem undo_loop {k : Nat} (hk : k < 4) : ∀ d g i (y : St), i + d = 251 → d < g → y.2.2 0 = nI k → ∃ y', FL_X4_undo_22 g y (nI i) = some (nI k, y') ∧ (∀ j, i ≤ j → j < 251 → y'.1 0 j = y.1 2 (251 * k + j)) ∧ (∀ j, j < i → y'.1 0 j = y.1 0 j) ∧ y'.2 = y.2 ∧ ∀ j, j ≠ 0 → y'.1 j = y.1 j
  | d, 0, _, _, _, h, _ => absurd h (by omega)
  | 0, g + 1, i, y, hi, _, h0 => by
    have : i = 251 := by omega
    subst this
    unfold FL_X4_undo_22
    rw [if_pos (show (251 : Int32) ≤ nI 251 by decide), h0]
    exact ⟨y, rfl, fun j h1 h2 => absurd h2 (by omega), fun _ _ => rfl, rfl, fun _ _ => rfl⟩
  | d + 1, g + 1, i, y, hi, _, h0 => by
    unfold FL_X4_undo_22
    rw [if_neg (show ¬ (251 : Int32) ≤ nI i from nI_ge (a := i) (b := 251) (by omega) (by decide)), h0, pos_P, ldP (by omega), oB_some, stM (by omega), oB_some, nI_1]
    obtain ⟨y', a, b, c, e, f⟩ := undo_loop hk d g (i + 1) (wp y 0 (upd (y.1 0) i (y.1 2 (251 * k + i)))) (by omega) (by omega) h0
    refine ⟨y', a, fun j h1 h2 => ?_, fun j h1 => ?_, e, fun j hj => (f j hj).trans (wp_n y 0 _ hj)⟩
    · by_cases hji : j = i
      · rw [c j (by omega), wp_s, hji, pk_us]
      · rw [b j (by omega) h2, wp_n y 0 _ (by decide)]
    · rw [c j (by omega), wp_s, pk_un (by omega)]
theorem rSt_ok {π : Nat → Nat} {k p : Nat} (hk : k < 5) : rSt π (nI k) p = some (va_up π k p) := by
  unfold rSt
  rw [if_neg (nI_in (N := 5) hk (by decide)), nI_clamp (by omega)]
theorem old_loop {M : St} {C : Nat → St} {K : Int32} {T : St} (p0 : Nat) : ∀ d f i (π : Nat → Nat), i + d = 4 → d < f → (∀ j, j < 5 → π j < 5) → ∃ π', FL_X0_dropOldest_16 f (M, C, π, K, T) p0 4 (nI i) = some (M, C, π', K, T) ∧ (∀ j, i ≤ j → j < 4 → π' j = π (j + 1)) ∧ π' 4 = p0 ∧ ∀ j, j < i → π' j = π j
  | d, 0, _, _, _, h, _ => absurd h (by omega)
  | 0, f + 1, i, π, hi, _, hp => by
    have : i = 4 := by omega
    subst this
    unfold FL_X0_dropOldest_16
    rw [if_pos (show (4 : Int32) ≤ nI 4 by decide), if_neg (show ¬ (4 : Int32) < 0 by decide), show (4 : Int32) = nI 4 from rfl]
    show ∃ π', (oB (rSt π (nI 4) p0) fun pi6 => some (M, C, pi6, K, T)) = some (M, C, π', K, T) ∧ _
    rw [rSt_ok (by decide)]
    exact ⟨va_up π 4 p0, rfl, fun j h1 h2 => absurd h2 (by omega), va_up_self _ _ _, fun j hj => va_up_ne _ _ (by omega)⟩
  | d + 1, f + 1, i, π, hi, _, hp => by
    unfold FL_X0_dropOldest_16
    rw [if_neg (show ¬ (4 : Int32) ≤ nI i from nI_ge (a := i) (b := 4) (by omega) (by decide)), nI_1, st_at (π := π) (by omega), oB_some, oM_lt (hp (i + 1) (by omega))]
    show ∃ π', (oB (rSt π (nI i) (π (i + 1))) fun pi11 => FL_X0_dropOldest_16 f (M, C, pi11, K, T) p0 4 (nI (i + 1))) = some (M, C, π', K, T) ∧ _
    rw [rSt_ok (by omega), oB_some]
    obtain ⟨π', a, b, c, e⟩ := old_loop p0 d f (i + 1) (va_up π i (π (i + 1))) (by omega) (by omega) (fun j hj => by
      by_cases hji : j = i
      · rw [hji, va_up_self]; exact hp _ (by omega)
      · rw [va_up_ne _ _ hji]; exact hp j hj)
    refine ⟨π', a, fun j h1 h2 => ?_, c, fun j hj => ?_⟩
    · by_cases hji : j = i
      · rw [e j (by omega), hji, va_up_self]
      · rw [b j (by omega) h2, va_up_ne _ _ (by omega)]
    · rw [e j (by omega), va_up_ne _ _ (by omega)]
theorem settle_ok {x : XS} {y : St} {n : Nat} (h : Md x y) (H : Rs x.1 (y.1 0) n) (v : Int32) : ∃ x' y', F_X3_settle x v = some (v, x') ∧ F_X4_acted y v = some (v, y') ∧ Rl x' y' := by
  obtain ⟨k, t, n0, hk, hx, hy, hP, hH, hT, hB⟩ := h
  obtain ⟨M, C, π, K, T⟩ := x
  dsimp only at hx hP hH hT hB H
  unfold F_X3_settle F_X4_acted
  by_cases hv : (-1000001 : Int32) < v
  · rw [if_pos hv, if_pos hv]
    by_cases hk4 : k = 4
    · subst hk4
      rw [if_pos (show y.2.2 0 = 4 from hy)]
      obtain ⟨y1, a1, a2, _, a4, a5, a6⟩ := sh22 v 753 fuel 0 y rfl (by decide) hy
      obtain ⟨y2, b1, b2, b3, b4, b5, b6⟩ := cp63 v (k := 3) (by decide) 251 fuel 0 y1 rfl (by decide) a4
      obtain ⟨π', c1, c2, c3, _⟩ := old_loop (M := M) (C := C) (K := K) (T := T) (π 0) 4 fuel 0 π rfl (by decide) hP.1
      have hc : ∀ j, j < 4 → π' j = π (j + 1) := fun j hj => c2 j (by omega) hj
      refine ⟨(M, C, π', K, T), y2, ?_, a1.trans b1, n, 4, t, ?_, Nat.le_refl _, hx, b4, ⟨fun j hj => ?_, fun i j hi hj e => ?_⟩, fun j hj => ?_, hT.fr (by rw [b6 3 (by decide), a6 3 (by decide)]) (b5.trans a5)⟩
      · have : F_X0_keep (M, C, π, K, T) = some (M, C, π', K, T) := by
          unfold F_X0_keep
          dsimp only
          rw [hx, if_pos (show (4 : Int32) ≤ nI 4 by decide)]
          rw [hx] at c1
          unfold F_X0_dropOldest
          rw [show (0 : Int32) = nI 0 from rfl, st_at (π := π) (by omega), oB_some, oM_lt (hP.1 0 (by omega))]
          rw [show FL_X0_dropOldest_16 fuel (M, C, π, nI 4, T) (π 0) (Int32.ofNat 5 - 1) (nI 0) = some (M, C, π', nI 4, T) from c1]
          rfl
        show (oB (F_X0_keep (M, C, π, K, T)) fun w3 => some (v, (w3.1, w3.2.1, w3.2.2.1, w3.2.2.2.1, w3.2.2.2.2))) = _
        rw [this]
        rfl
      · show Rs M (y2.1 0) n
        rw [b6 0 (by decide), a6 0 (by decide)]
        exact H
      · show π' j < 5
        by_cases h4 : j = 4
        · rw [h4, c3]; exact hP.1 0 (by omega)
        · rw [hc j (by omega)]; exact hP.1 _ (by omega)
      · have e : π' i = π' j := e
        by_cases h4 : i = 4
        · by_cases h5 : j = 4
          · omega
          · rw [h4, c3, hc j (by omega)] at e
            have := hP.2 0 (j + 1) (by omega) (by omega) e
            omega
        · by_cases h5 : j = 4
          · rw [h5, c3, hc i (by omega)] at e
            have := hP.2 (i + 1) 0 (by omega) (by omega) e
            omega
          · rw [hc i (by omega), hc j (by omega)] at e
            have := hP.2 (i + 1) (j + 1) (by omega) (by omega) e
            omega
      · show ∃ m, Rs (C (π' j)) (fun i => y2.1 2 (251 * j + i)) m
        rw [hc j hj]
        by_cases h3 : j = 3
        · subst h3
          exact ⟨n0, hB.cg ⟨fun _ _ _ _ => rfl, fun _ _ => rfl, fun _ _ => rfl⟩ (fun i hi => by
            show y2.1 2 (251 * 3 + i) = _
            rw [b2 i (by omega) hi, a6 1 (by decide)])⟩
        · obtain ⟨m, hm⟩ := hH (j + 1) (by omega)
          refine ⟨m, hm.cg ⟨fun _ _ _ _ => rfl, fun _ _ => rfl, fun _ _ => rfl⟩ (fun i hi => ?_)⟩
          show y2.1 2 (251 * j + i) = y.1 2 (251 * (j + 1) + i)
          rw [b3 _ (by omega), a2 _ (by omega) (by omega), show 251 * j + i + 251 = 251 * (j + 1) + i by omega]
    · rw [if_neg (show ¬ y.2.2 0 = 4 from fun q => hk4 ((nI_eq (a := k) (b := 4) (by omega) (by decide)).mp (hy.symm.trans q)))]
      obtain ⟨y2, b1, b2, b3, b4, b5, b6⟩ := cp63 v (k := k) (by omega) 251 fuel 0 y rfl (by decide) hy
      refine ⟨(M, C, π, nI (k + 1), T), y2, ?_, b1, n, k + 1, t, ?_, by omega, rfl, b4, hP, fun j hj => ?_, hT.fr (b6 3 (by decide)) b5⟩
      · have : F_X0_keep (M, C, π, K, T) = some (M, C, π, nI (k + 1), T) := by
          unfold F_X0_keep
          dsimp only
          rw [hx, if_neg (show ¬ (4 : Int32) ≤ nI k from nI_ge (a := k) (b := 4) (by omega) (by decide)), nI_1]
        show (oB (F_X0_keep (M, C, π, K, T)) fun w3 => some (v, (w3.1, w3.2.1, w3.2.2.1, w3.2.2.2.1, w3.2.2.2.2))) = _
        rw [this]
        rfl
      · show Rs M (y2.1 0) n
        rw [b6 0 (by decide)]
        exact H
      · show ∃ m, Rs (C (π j)) (fun i => y2.1 2 (251 * j + i)) m
        by_cases hjk : j = k
        · subst hjk
          exact ⟨n0, hB.cg ⟨fun _ _ _ _ => rfl, fun _ _ => rfl, fun _ _ => rfl⟩ (fun i hi => b2 i (by omega) hi)⟩
        · obtain ⟨m, hm⟩ := hH j (by omega)
          exact ⟨m, hm.cg ⟨fun _ _ _ _ => rfl, fun _ _ => rfl, fun _ _ => rfl⟩ (fun i hi => b3 _ (by omega))⟩
  · rw [if_neg hv, if_neg hv]
    obtain ⟨y1, a1, a2, _, a4, a5⟩ := ret_loop 251 fuel 0 y rfl (by decide)
    obtain ⟨w, w1, w2⟩ := copy_eq M (C (π k))
    refine ⟨(w, C, π, K, T), y1, ?_, ?_, n0, k, t, ?_, hk, hx, by rw [a4]; exact hy, hP, fun j hj => ?_, hT.fr (a5 3 (by decide)) (by rw [a4])⟩
    · have : F_X0_takeBack (M, C, π, K, T) = some (w, C, π, K, T) := by
        unfold F_X0_takeBack
        dsimp only
        rw [hx, st_at (π := π) (by omega), oB_some, oM_lt (hP.1 k (by omega))]
        show (oB (F_X1_copyFrom M (C (π k))) fun w5 => some (w5, C, π, nI k, T)) = _
        rw [w1]
        rfl
      show (oB (F_X0_takeBack (M, C, π, K, T)) fun w3 => some (v, (w3.1, w3.2.1, w3.2.2.1, w3.2.2.2.1, w3.2.2.2.2))) = _
      rw [this]
      rfl
    · unfold F_X4_returns
      rw [show FL_X4_returns_2 fuel (y.1, y.2.1, y.2.2) 0 = some y1 from a1]
      rfl
    · show Rs w (y1.1 0) n0
      exact hB.cg w2 (fun i hi => a2 i (by omega) hi)
    · obtain ⟨m, hm⟩ := hH j hj
      refine ⟨m, ?_⟩
      show Rs (C (π j)) (fun i => y1.1 2 (251 * j + i)) m
      rw [a5 2 (by decide)]
      exact hm
