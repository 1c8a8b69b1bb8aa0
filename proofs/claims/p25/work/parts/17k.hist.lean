/-! Copies, the history -/
def Ag (u v : St) : Prop := (∀ j, j < 7 → ∀ i, i < lnS j → u.1 j i = v.1 j i) ∧ (∀ i, i < 40 → u.2.1 i = v.2.1 i) ∧ ∀ j, j < 5 → u.2.2 j = v.2.2 j
theorem cp_ok {α : Type} {n : Nat} (hn : n < 2 ^ 31) (f g : Nat → α) : ∃ w, aCp f n g n 0 0 (if (Int32.ofNat n) < (Int32.ofNat n) then (Int32.ofNat n) else (Int32.ofNat n)) = some w ∧ ∀ i, i < n → w i = f i := by
  have e : (if (Int32.ofNat n) < (Int32.ofNat n) then (Int32.ofNat n) else (Int32.ofNat n)) = nI n := by
    split <;> rfl
  rw [e]
  unfold aCp
  have h0 : (0 : Int32).toNatClampNeg = 0 := rfl
  rw [if_pos ⟨by decide, by decide, nI_pos hn, by rw [h0, nI_clamp hn]; omega, by rw [h0, nI_clamp hn]; omega⟩, h0, nI_clamp hn]
  refine ⟨_, rfl, fun i hi => ?_⟩
  rw [pk_cpy_in (by omega) (by omega)]
  congr 1
  omega
theorem cpR (f g : Nat → Int32) (j : Nat) : ∃ w, F_X3_copyRow f (lnS j) g (lnS j) = some w ∧ ∀ i, i < lnS j → w i = f i := by
  obtain ⟨w, h1, h2⟩ := cp_ok (n := lnS j) (by unfold lnS; split <;> decide) f g
  refine ⟨w, ?_, h2⟩
  unfold F_X3_copyRow
  rw [h1]
  rfl
theorem cpL (f g : Nat → Int64) : ∃ w, F_X3_copyLongRow f (lnS 7) g (lnS 7) = some w ∧ ∀ i, i < 40 → w i = f i := by
  obtain ⟨w, h1, h2⟩ := cp_ok (n := lnS 7) (by decide) f g
  refine ⟨w, ?_, h2⟩
  unfold F_X3_copyLongRow
  rw [h1]
  rfl
theorem copy_eq (u v : St) : ∃ w, F_X1_copyFrom u v = some w ∧ Ag w v := by
  unfold F_X1_copyFrom
  obtain ⟨w0, e0, c0⟩ := cpR (v.1 0) (u.1 0) 0
  rw [e0, oB_some]
  obtain ⟨w1, e1, c1⟩ := cpR (v.1 1) ((va_up u.1 0 w0) 1) 1
  rw [e1, oB_some]
  obtain ⟨w2, e2, c2⟩ := cpR (v.1 2) ((va_up (va_up u.1 0 w0) 1 w1) 2) 2
  rw [e2, oB_some]
  obtain ⟨w3, e3, c3⟩ := cpR (v.1 3) ((va_up (va_up (va_up u.1 0 w0) 1 w1) 2 w2) 3) 3
  rw [e3, oB_some]
  obtain ⟨w4, e4, c4⟩ := cpR (v.1 4) ((va_up (va_up (va_up (va_up u.1 0 w0) 1 w1) 2 w2) 3 w3) 4) 4
  rw [e4, oB_some]
  obtain ⟨w5, e5, c5⟩ := cpR (v.1 5) ((va_up (va_up (va_up (va_up (va_up u.1 0 w0) 1 w1) 2 w2) 3 w3) 4 w4) 5) 5
  rw [e5, oB_some]
  obtain ⟨w6, e6, c6⟩ := cpR (v.1 6) ((va_up (va_up (va_up (va_up (va_up (va_up u.1 0 w0) 1 w1) 2 w2) 3 w3) 4 w4) 5 w5) 6) 6
  rw [e6, oB_some]
  obtain ⟨wl, el, cl⟩ := cpL v.2.1 u.2.1
  rw [el, oB_some]
  refine ⟨_, rfl, fun j hj i hi => ?_, cl, fun j hj => ?_⟩
  · rcases (show j = 0 ∨ j = 1 ∨ j = 2 ∨ j = 3 ∨ j = 4 ∨ j = 5 ∨ j = 6 by omega) with h | h | h | h | h | h | h <;> subst h
    · exact c0 i hi
    · exact c1 i hi
    · exact c2 i hi
    · exact c3 i hi
    · exact c4 i hi
    · exact c5 i hi
    · exact c6 i hi
  · rcases (show j = 0 ∨ j = 1 ∨ j = 2 ∨ j = 3 ∨ j = 4 by omega) with h | h | h | h | h <;> subst h <;> rfl
def Pi (π : Nat → Nat) : Prop := (∀ j, j < 5 → π j < 5) ∧ ∀ i j, i < 5 → j < 5 → π i = π j → i = j
theorem st_at {π : Nat → Nat} {x : XS} {k : Nat} (hk : k < 5) : F_X0_stateAt x (nI k) = some (some (x.2.2.1 k)) := by
  unfold F_X0_stateAt
  have h2 : ¬ Int32.ofNat 5 ≤ nI k := nI_ge (a := k) (b := 5) hk (by decide)
  rw [if_neg (nI_pos (by omega)), if_neg h2]
  unfold rLd
  rw [if_neg (nI_in (N := 5) hk (by decide)), nI_clamp (by omega)]
  rfl
theorem oM_lt {β : Type} {p : Nat} (hp : p < 5) (b : Option β) (f : Nat → Option β) : oM (some p) b f = f p := by
  unfold oM
  simp only
  rw [if_pos hp]
theorem rSt_ok {π : Nat → Nat} {k p : Nat} (hk : k < 5) : rSt π (nI k) p = some (va_up π k p) := by
  unfold rSt
  rw [if_neg (nI_in (N := 5) hk (by decide)), nI_clamp (by omega)]
theorem old_loop {M : St} {C : Nat → St} {K : Int32} {T : St} (p0 : Nat) : ∀ d f i (π : Nat → Nat), i + d = 4 → d < f → (∀ j, j < 5 → π j < 5) → ∃ π', FL_X0_dropOldest_16 f (M, C, π, K, T) p0 4 (nI i) = some (M, C, π', K, T) ∧ (∀ j, i ≤ j → j < 4 → π' j = π (j + 1)) ∧ π' 4 = p0 ∧ ∀ j, j < i → π' j = π j
  | d, 0, _, _, _, h, _ => absurd h (by omega)
  | 0, f + 1, i, π, hi, _, hp => by
    have : i = 4 := by omega
    subst this
    unfold FL_X0_dropOldest_16
    rw [if_pos (show (4 : Int32) ≤ nI 4 by decide), if_neg (show ¬ (4 : Int32) < 0 by decide), show (4 : Int32) = nI 4 from rfl]
    show ∃ π', (oB (rSt π (nI 4) p0) fun pi6 => some (M, C, pi6, K, T)) = some (M, C, π', K, T) ∧ _
    rw [rSt_ok (by decide)]
    exact ⟨va_up π 4 p0, rfl, fun j h1 h2 => absurd h2 (by omega), va_up_self _ _ _, fun j hj => va_up_ne _ _ (by omega)⟩
  | d + 1, f + 1, i, π, hi, _, hp => by
    unfold FL_X0_dropOldest_16
    rw [if_neg (show ¬ (4 : Int32) ≤ nI i from nI_ge (a := i) (b := 4) (by omega) (by decide)), nI_1, st_at (π := π) (by omega), oB_some, oM_lt (hp (i + 1) (by omega))]
    show ∃ π', (oB (rSt π (nI i) (π (i + 1))) fun pi11 => FL_X0_dropOldest_16 f (M, C, pi11, K, T) p0 4 (nI (i + 1))) = some (M, C, π', K, T) ∧ _
    rw [rSt_ok (by omega), oB_some]
    obtain ⟨π', a, b, c, e⟩ := old_loop p0 d f (i + 1) (va_up π i (π (i + 1))) (by omega) (by omega) (fun j hj => by
      by_cases hji : j = i
      · rw [hji, va_up_self]; exact hp _ (by omega)
      · rw [va_up_ne _ _ hji]; exact hp j hj)
    refine ⟨π', a, fun j h1 h2 => ?_, c, fun j hj => ?_⟩
    · by_cases hji : j = i
      · rw [e j (by omega), hji, va_up_self]
      · rw [b j (by omega) h2, va_up_ne _ _ (by omega)]
    · rw [e j (by omega), va_up_ne _ _ (by omega)]
theorem Ag.rf (u : St) : Ag u u := ⟨fun _ _ _ _ => rfl, fun _ _ => rfl, fun _ _ => rfl⟩
theorem Ag.tr {u v w : St} (h : Ag u v) (h2 : Ag v w) : Ag u w := ⟨fun j hj i hi => (h.1 j hj i hi).trans (h2.1 j hj i hi), fun i hi => (h.2.1 i hi).trans (h2.2.1 i hi), fun j hj => (h.2.2 j hj).trans (h2.2.2 j hj)⟩
theorem Ag.row {u v : St} (h : Ag u v) {j k : Nat} (h1 : 1 ≤ j) (h6 : j ≤ 6) (hk : k < 40) : u.1 j k = v.1 j k := h.1 j (by omega) k (by rw [lnS_p (by omega)]; exact hk)
theorem Cs.cg {u u' : St} {n : Nat} (H : Cs u n) (a : Ag u' u) : Cs u' n := by
  have hn := H.1
  refine ⟨H.1, by rw [a.2.2 0 (by decide)]; exact H.2.1, by rw [a.2.2 2 (by decide)]; exact H.2.2.1, fun k hk => (H.cl hk).cg (fun j h1 h2 _ q hq => a.row h1 h2 (by omega)) (a.2.1 k (by omega)) ?_⟩
  rw [a.row (j := 2) (by decide) (by decide) (by omega)]
  exact (H.cl hk).2.2.1
theorem Iv.cg {u u' : St} {n : Nat} (H : Iv u n) (a : Ag u' u) : Iv u' n := by
  obtain ⟨r, ρ, HC, HR, hk, HS⟩ := H
  have hn := HC.1
  have r1 : ∀ k, k < n → u'.1 1 k = u.1 1 k := fun k hk => a.row (by decide) (by decide) (by omega)
  have r2 : ∀ k, k < n → u'.1 2 k = u.1 2 k := fun k hk => a.row (by decide) (by decide) (by omega)
  have car : ∀ e, e < n → ¬ u.1 2 e = 2 → ∃ e', e' < n ∧ ¬ u'.1 2 e' = 2 ∧ sb (u'.1 1 e') (u.1 1 e) := fun e he hd => ⟨e, he, by rw [r2 e he]; exact hd, by rw [r1 e he]; exact sb_rf _⟩
  refine ⟨r, ρ, HC.cg a, fun k hk => ?_, ⟨hk.1, fun i hi => by rw [a.1 0 (by decide) i hi]; exact hk.2 i hi⟩, fun i j c R hi hj hc s1 s2 g1 g2 hP hR => ?_⟩
  · obtain ⟨e, x1, x2, x3⟩ := HR k hk
    exact ⟨e, x1, by rw [r2 e x1]; exact x2, by rw [r1 e x1, r1 k hk]; exact x3⟩
  · rw [r2 i hi] at s1
    rw [r2 j hj] at s2
    rw [r1 i hi] at g1 hR
    rw [r1 j hj] at g2 hR
    exact (HS i j c R hi hj hc s1 s2 g1 g2 hP hR).mono car
def Hx (x : XS) (k : Nat) : Prop := k ≤ 4 ∧ x.2.2.2.1 = nI k ∧ Pi x.2.2.1 ∧ ∀ j, j < k → ∃ m, Iv (x.2.1 (x.2.2.1 j)) m
def Tt (T : St) (t : Nat) : Prop := t ≤ 60 ∧ T.2.2 0 = nI t
def Ix (x : XS) (n k t : Nat) : Prop := Iv x.1 n ∧ Hx x k ∧ Tt x.2.2.2.2 t
/-- what an act leaves: the same, or what was before put aside -/
def Ef (x : XS) (k : Nat) (x' : XS) : Prop := (∃ n', Iv x'.1 n') ∧ x'.2.2.2.2 = x.2.2.2.2 ∧ ((Hx x' k ∧ (k = 4 ∨ Ag x'.1 x.1)) ∨ (Hx x' (k + 1) ∧ Ag (x'.2.1 (x'.2.2.1 k)) x.1))
theorem Ef.rf {x : XS} {n k t : Nat} (h : Ix x n k t) : Ef x k x := ⟨⟨n, h.1⟩, rfl, Or.inl ⟨h.2.1, Or.inr (Ag.rf _)⟩⟩
theorem begin_ok {x : XS} {n k t : Nat} (h : Ix x n k t) : ∃ x1, F_X0_putAside x = some x1 ∧ x1.1 = x.1 ∧ x1.2.2 = x.2.2 ∧
    (∀ u' n' v, Iv u' n' → (-1000001 : Int32) < v → ∃ x2, F_X3_settle (u', x1.2.1, x1.2.2.1, x1.2.2.2.1, x1.2.2.2.2) v = some (v, x2) ∧ x2.1 = u' ∧ Ef x k x2) ∧
    (∀ u' v, ¬ (-1000001 : Int32) < v → ∃ x2, F_X3_settle (u', x1.2.1, x1.2.2.1, x1.2.2.2.1, x1.2.2.2.2) v = some (v, x2) ∧ Ag x2.1 x.1 ∧ Ef x k x2) := by
  obtain ⟨H, ⟨hk, hx, hP, hH⟩, hT⟩ := h
  obtain ⟨w, w1, w2⟩ := copy_eq (x.2.1 (x.2.2.1 k)) x.1
  have hp5 := hP.1 k (by omega)
  obtain ⟨M, C, π, K, T⟩ := x
  dsimp only at H hk hx hP hH hT w1 w2 hp5
  have hC : ∀ j, j < k → (va_up C (π k) w) (π j) = C (π j) := fun j hj => va_up_ne _ _ (fun q => by have := hP.2 j k (by omega) (by omega) q; omega)
  have hCk : (va_up C (π k) w) (π k) = w := va_up_self _ _ _
  have hH1 : ∀ j, j < k → ∃ m, Iv ((va_up C (π k) w) (π j)) m := fun j hj => by rw [hC j hj]; exact hH j hj
  refine ⟨(M, va_up C (π k) w, π, K, T), ?_, rfl, rfl, fun u' n' v hu hv => ?_, fun u' v hv => ?_⟩
  · unfold F_X0_putAside
    dsimp only
    rw [hx, st_at (π := π) (by omega), oB_some, oM_lt hp5, w1]
    rfl
  · unfold F_X3_settle
    rw [if_pos hv]
    by_cases hk4 : k = 4
    · subst hk4
      obtain ⟨π', c1, c2, c3, _⟩ := old_loop (M := u') (C := va_up C (π 4) w) (K := K) (T := T) (π 0) 4 fuel 0 π rfl (by decide) hP.1
      have hc : ∀ j, j < 4 → π' j = π (j + 1) := fun j hj => c2 j (by omega) hj
      have hkeep : F_X0_keep (u', va_up C (π 4) w, π, K, T) = some (u', va_up C (π 4) w, π', K, T) := by
        unfold F_X0_keep
        dsimp only
        rw [hx, if_pos (show (4 : Int32) ≤ nI 4 by decide)]
        rw [hx] at c1
        unfold F_X0_dropOldest
        rw [show (0 : Int32) = nI 0 from rfl, st_at (π := π) (by omega), oB_some, oM_lt (hP.1 0 (by omega))]
        rw [show FL_X0_dropOldest_16 fuel (u', va_up C (π 4) w, π, nI 4, T) (π 0) (Int32.ofNat 5 - 1) (nI 0) = some (u', va_up C (π 4) w, π', nI 4, T) from c1]
        rfl
      refine ⟨(u', va_up C (π 4) w, π', K, T), ?_, rfl, ⟨n', hu⟩, rfl, Or.inl ⟨⟨Nat.le_refl _, hx, ⟨fun j hj => ?_, fun i j hi hj e => ?_⟩, fun j hj => ?_⟩, Or.inl rfl⟩⟩
      · show (oB (F_X0_keep (u', va_up C (π 4) w, π, K, T)) fun w3 => some (v, (w3.1, w3.2.1, w3.2.2.1, w3.2.2.2.1, w3.2.2.2.2))) = _
        rw [hkeep]
        rfl
      · show π' j < 5
        by_cases h4 : j = 4
        · rw [h4, c3]; exact hP.1 0 (by omega)
        · rw [hc j (by omega)]; exact hP.1 _ (by omega)
      · have e : π' i = π' j := e
        by_cases h4 : i = 4
        · by_cases h5 : j = 4
          · omega
          · rw [h4, c3, hc j (by omega)] at e
            have := hP.2 0 (j + 1) (by omega) (by omega) e
            omega
        · by_cases h5 : j = 4
          · rw [h5, c3, hc i (by omega)] at e
            have := hP.2 (i + 1) 0 (by omega) (by omega) e
            omega
          · rw [hc i (by omega), hc j (by omega)] at e
            have := hP.2 (i + 1) (j + 1) (by omega) (by omega) e
            omega
      · show ∃ m, Iv ((va_up C (π 4) w) (π' j)) m
        rw [hc j hj]
        by_cases h3 : j = 3
        · subst h3
          rw [hCk]
          exact ⟨n, H.cg w2⟩
        · exact hH1 (j + 1) (by omega)
    · have hkeep : F_X0_keep (u', va_up C (π k) w, π, K, T) = some (u', va_up C (π k) w, π, nI (k + 1), T) := by
        unfold F_X0_keep
        dsimp only
        rw [hx, if_neg (show ¬ (4 : Int32) ≤ nI k from nI_ge (a := k) (b := 4) (by omega) (by decide)), nI_1]
      refine ⟨(u', va_up C (π k) w, π, nI (k + 1), T), ?_, rfl, ⟨n', hu⟩, rfl, Or.inr ⟨⟨by omega, rfl, hP, fun j hj => ?_⟩, ?_⟩⟩
      · show (oB (F_X0_keep (u', va_up C (π k) w, π, K, T)) fun w3 => some (v, (w3.1, w3.2.1, w3.2.2.1, w3.2.2.2.1, w3.2.2.2.2))) = _
        rw [hkeep]
        rfl
      · show ∃ m, Iv ((va_up C (π k) w) (π j)) m
        by_cases hjk : j = k
        · subst hjk
          rw [hCk]
          exact ⟨n, H.cg w2⟩
        · exact hH1 j (by omega)
      · show Ag ((va_up C (π k) w) (π k)) M
        rw [hCk]
        exact w2
  · unfold F_X3_settle
    rw [if_neg hv]
    obtain ⟨z, z1, z2⟩ := copy_eq u' w
    have hback : F_X0_takeBack (u', va_up C (π k) w, π, K, T) = some (z, va_up C (π k) w, π, K, T) := by
      unfold F_X0_takeBack
      dsimp only
      rw [hx, st_at (π := π) (by omega), oB_some, oM_lt hp5, hCk, z1]
      rfl
    have hz : Ag z M := z2.tr w2
    refine ⟨(z, va_up C (π k) w, π, K, T), ?_, hz, ⟨n, H.cg hz⟩, rfl, Or.inl ⟨⟨hk, hx, hP, hH1⟩, Or.inr hz⟩⟩
    show (oB (F_X0_takeBack (u', va_up C (π k) w, π, K, T)) fun w3 => some (v, (w3.1, w3.2.1, w3.2.2.1, w3.2.2.2.1, w3.2.2.2.2))) = _
    rw [hback]
    rfl
theorem undo_0 {x : XS} (h : Hx x 0) : F_X3_undo x = some (-1000002, x) := by
  unfold F_X3_undo F_X0_restoreLatest
  dsimp only
  rw [h.2.1, if_neg (show ¬ (0 : Int32) < nI 0 by decide), oB2_some, if_pos rfl]
  rw [← h.2.1]
theorem undo_s {x : XS} {k : Nat} (h : Hx x (k + 1)) : ∃ x', F_X3_undo x = some (nI k, x') ∧ Ag x'.1 (x.2.1 (x.2.2.1 k)) ∧ Hx x' k ∧ x'.2.2.2.2 = x.2.2.2.2 ∧ ∃ m, Iv x'.1 m := by
  obtain ⟨hk, hx, hP, hH⟩ := h
  obtain ⟨M, C, π, K, T⟩ := x
  dsimp only at hk hx hP hH
  obtain ⟨w, w1, w2⟩ := copy_eq M (C (π k))
  obtain ⟨m, hm⟩ := hH k (by omega)
  refine ⟨(w, C, π, nI k, T), ?_, w2, ⟨by omega, rfl, hP, fun j hj => hH j (by omega)⟩, rfl, m, hm.cg w2⟩
  unfold F_X3_undo F_X0_restoreLatest
  dsimp only
  rw [hx, if_pos (show (0 : Int32) < nI (k + 1) from nI_lt (a := 0) (by omega) (by omega)), show nI (k + 1) - 1 = nI k from by rw [nI_pred], st_at (π := π) (by omega), oB_some, oM_lt (hP.1 k (by omega)), w1, oB_some, oB2_some, if_neg (by decide)]
