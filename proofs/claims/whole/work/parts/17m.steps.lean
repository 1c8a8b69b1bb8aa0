/-! takeStep and the model's steps; the ranks; clearing -/
theorem Re.none {u : St} {s : Nat → Int32} {n : Nat} (H : Rs u s n) (h : eC u n = -1) : ∀ k, k < n → ¬ u.1 1 k = 0 := by
  intro k hk e
  have h1 := (H.2 k hk e).1
  have h40 := H.1.lt hk
  unfold eC at h
  rw [if_pos ⟨by omega, by rw [show n - 1 = k by omega]; exact e⟩] at h
  exact ge0 (by omega) h
theorem step_eq {u y : St} {n : Nat} (H : Rs u (y.1 0) n) : ∃ v u' y' n', F_X1_takeStep u = some (v, u') ∧ F_X4_steps y = some (v, y') ∧ Rs u' (y'.1 0) n' ∧ Fr y y' := by
  unfold F_X1_takeStep F_X4_steps
  obtain ⟨R, c4, c1, cR⟩ := choice_eq H
  rw [empty1 H, oB_some, c4, oB_some]
  rcases eC_or H.1 with e | ⟨j, hj, _, _, e⟩
  · rw [e, if_pos rfl, c1, oB_some, if_neg (show ¬ (0 : Int32) ≤ -1 by decide)]
    rcases cR with er | ⟨k, hk, er⟩
    · rw [if_pos er, er, if_neg (show ¬ (0 : Int32) ≤ -1 by decide)]
      exact ⟨_, u, y, n, rfl, rfl, H, Fr.rf y⟩
    · have h40 := H.1.lt hk
      rw [er, if_neg (ge0 (by omega)), if_pos (nI_pos' (by omega)), pS (by decide) h40, oB_some, puts1 y h40, oB_some]
      have hu1 : Rs (inr (stat u k 1) 1 (u.2.2 1 + 1)) ((wr y (upd (upd (y.1 0) (12 + 6 * k) 1) 1 (u.2.2 1 + 1))).1 0) n := by
        rw [wr_0]
        exact ⟨(H.1.stat hk 1).int (Or.inl rfl) _, fun i hi h0 => absurd h0 (Re.none H e i hi)⟩
      have hz : ¬ u.1 1 k = 0 := Re.none H e k hk
      have l1 : aLd ((wr y (upd (y.1 0) (12 + 6 * k) 1)).1 0) (lnM 0) 1 = some (u.2.2 1) := by
        rw [wr_0, show ∀ f, aLd f (lnM 0) 1 = some (f 1) from fun f => ldM (k := 1) (by decide), pk_un (by omega), H.1.2.2.2.1]
      have l2 : ∀ v, aSt ((wr y (upd (y.1 0) (12 + 6 * k) 1)).1 0) (lnM 0) 1 v = some (upd (upd (y.1 0) (12 + 6 * k) 1) 1 v) := fun v => by
        rw [wr_0]
        exact stM (k := 1) (by decide)
      have yy : ∀ s', ((va_up (wr y (upd (y.1 0) (12 + 6 * k) 1)).1 0 s', (wr y (upd (y.1 0) (12 + 6 * k) 1)).2.1, (wr y (upd (y.1 0) (12 + 6 * k) 1)).2.2) : St) = wr y s' := fun s' => wr_wr y _ s'
      rw [l1, oB_some, l2, oB_some]
      simp only [yy]
      have l3 : aLd ((va_up (wr y (upd (y.1 0) (12 + 6 * k) 1)).1 0 (upd (upd (y.1 0) (12 + 6 * k) 1) 1 (u.2.2 1 + 1))) 0) (lnM 0) 0 = some (nI n) := by
        rw [va_up_self, ldM0, pk_un (by omega), pk_un (by omega), H.1.2.2.1]
      rw [l3, oB_some]
      obtain ⟨L, hL, gG⟩ : ∃ L, L < 12 ∧ F_X1_greatestOf (inr (stat u k 1) 1 (u.2.2 1 + 1)) (u.1 1 k) = some (nI L) := by
        rcases gr_cl hu1.1 hk with ⟨q, _, _⟩ | ⟨L, hL, _, a, _⟩
        · exact absurd q hz
        · exact ⟨L, hL, a⟩
      obtain ⟨b, u', y', n', r1, r2, r3, r4⟩ := res_loop hL hk n fuel fuel 0 n _ _ hu1 (Nat.le_refl _) (by omega) (by unfold fuel; have := H.1.1; omega) (Rs.f H.1) gG
      have cls : F_X1_resolveWithDone (inr (stat u k 1) 1 (u.2.2 1 + 1)) (nI k) = some (bI b, u') := by
        rw [← r1]
        unfold F_X1_resolveWithDone
        rw [show F_X3_at ((inr (stat u k 1) 1 (u.2.2 1 + 1)).1 1) (lnS 1) (nI k) = some (u.1 1 k) from aS (f := u.1 1) (by decide) h40, oB_some, gG, oB_some, mask_eq L hL]
        have hf := flag_eq L hL
        by_cases hodd : L % 2 = 1
        · rw [decide_eq_true hodd, decide_eq_true_eq] at hf
          rw [if_pos hf, decide_eq_true hodd, show (inr (stat u k 1) 1 (u.2.2 1 + 1)).2.2 0 = nI n from hu1.1.2.1]
          rfl
        · rw [decide_eq_false hodd, decide_eq_false_iff_not] at hf
          rw [if_neg hf, decide_eq_false hodd, show (inr (stat u k 1) 1 (u.2.2 1 + 1)).2.2 0 = nI n from hu1.1.2.1]
          rfl
      have cls2 : F_X1_resolveWithDone (va_up u.1 2 (upd (u.1 2) k 1), u.2.1, va_up u.2.2 1 (u.2.2 1 + 1)) (nI k) = some (bI b, u') := cls
      have r2' : FL_X4_steps_38 fuel (wr y (upd (upd (y.1 0) (12 + 6 * k) 1) 1 (u.2.2 1 + 1))) (nI k) (nI n) 0 = some (if b = true then nI k else -1000003, y') := r2
      rw [cls2, oB2_some, r2']
      have fr : Fr y y' := (Fr.wr y _).tr r4
      cases b
      · exact ⟨_, u', y', n', rfl, rfl, r3, fr⟩
      · exact ⟨_, u', y', n', rfl, rfl, r3, fr⟩
  · have h40 := H.1.lt hj
    rw [e, if_neg (ge0 (by omega)), if_pos (nI_pos' (by omega)), if_neg (show ¬ (0 : Int32) ≤ -1 by decide)]
    exact ⟨_, u, y, n, rfl, rfl, H, Fr.rf y⟩
/-- the rank of an atom, looked up -/
theorem rank_loop {u : St} {s : Nat → Int32} {r ρ : Nat → Nat} (h : Rk u s r ρ) {a : Nat} (ha : a < 6) : ∀ d f i, i + d = r a → d < f → FL_X1_rankOf_2 u f (nI a) (nI i) = some (nI (r a))
  | d, 0, _, _, h => absurd h (by omega)
  | 0, f + 1, i, hi, _ => by
    obtain ⟨h1, h2, _⟩ := h.1 a ha
    have : i = r a := by omega
    subst this
    unfold FL_X1_rankOf_2
    rw [if_neg (show ¬ (6 : Int32) ≤ nI (r a) from nI_ge (a := r a) (b := 6) h1 (by decide)), aR h1, oB_some, (h.2 (r a) h1).2.2, h2, if_pos rfl]
  | d + 1, f + 1, i, hi, hf => by
    obtain ⟨h1, h2, _⟩ := h.1 a ha
    unfold FL_X1_rankOf_2
    rw [if_neg (show ¬ (6 : Int32) ≤ nI i from nI_ge (a := i) (b := 6) (by omega) (by decide)), aR (by omega), oB_some, (h.2 i (by omega)).2.2, nI_1, if_neg (fun q => by
      have := (nI_eq (a := ρ i) (b := a) (by have := (h.2 i (by omega)).1; omega) (by omega)).mp q
      have h3 := (h.2 i (by omega)).2.1
      rw [this] at h3
      omega)]
    exact rank_loop h ha d f (i + 1) (by omega) (by omega)
theorem rank_at {u : St} {s : Nat → Int32} {r ρ : Nat → Nat} (h : Rk u s r ρ) {a : Nat} (ha : a < 6) : F_X1_rankOf u (nI a) = some (nI (r a)) :=
  rank_loop h ha (r a) fuel 0 (by omega) (by have := (h.1 a ha).1; unfold fuel; omega)
/-- done clauses are waiting again -/
theorem wait_loop {n : Nat} (v : Int32) : ∀ d f g i (u y : St), Rc u (y.1 0) n → i + d = n → d < f → d < g → ∃ u' y', FL_X1_changeRank_34 f u v (nI i) = some (v, u') ∧ FL_X4_ranks_72 g y v (nI i) = some (v, y') ∧ Rc u' (y'.1 0) n ∧ Fr y y' ∧ u'.1 1 = u.1 1 ∧ ∀ k, u'.1 2 k = 2 → u.1 2 k = 2
  | d, 0, _, _, _, _, _, _, h, _ => absurd h (by omega)
  | d, _ + 1, 0, _, _, _, _, _, _, h => absurd h (by omega)
  | 0, f + 1, g + 1, i, u, y, H, hi, _, _ => by
    have : i = n := by omega
    subst this
    unfold FL_X1_changeRank_34 FL_X4_ranks_72
    rw [H.2.1, H.n4, oB_some, if_pos (end_le _), if_pos (end_le _)]
    exact ⟨u, y, rfl, rfl, H, Fr.rf y, rfl, fun _ h => h⟩
  | d + 1, f + 1, g + 1, i, u, y, H, hi, _, _ => by
    have hn : i < n := by omega
    have h40 := H.lt hn
    unfold FL_X1_changeRank_34 FL_X4_ranks_72
    rw [H.2.1, H.n4, oB_some, if_neg (H.ge hn), if_neg (H.ge hn), aS (by decide) h40, oB_some, H.o1 hn, oB_some, oB_some, pS (by decide) h40, oB_some, puts1 y h40, puts1 y h40, oB_some, oB_some, nI_1]
    by_cases h1 : u.1 2 i = 1
    · rw [if_pos h1, if_pos h1]
      obtain ⟨u', y', a, b, c, e, l, l2⟩ := wait_loop v d f g (i + 1) (stat u i 0) (wr y (upd (y.1 0) (12 + 6 * i) 0)) (by rw [wr_0]; exact H.stat hn 0) (by omega) (by omega) (by omega)
      refine ⟨u', y', a, b, c, (Fr.wr y _).tr e, l.trans (stat_n u i 0 (by decide)), fun k hk => ?_⟩
      have h2 := l2 k hk
      rw [stat_2] at h2
      by_cases hki : k = i
      · rw [hki, pk_us] at h2
        exact absurd h2 (by decide)
      · rwa [pk_un hki] at h2
    · rw [if_neg h1, if_neg h1]
      have hsame : upd (y.1 0) (12 + 6 * i) (u.1 2 i) = y.1 0 := by
        funext j
        by_cases hj : j = 12 + 6 * i
        · rw [hj, pk_us, (H.cl hn).2.2.1]
        · rw [pk_un hj]
      obtain ⟨u', y', a, b, c, e, l, l2⟩ := wait_loop v d f g (i + 1) u (wr y (upd (y.1 0) (12 + 6 * i) (u.1 2 i))) (by rw [wr_0, hsame]; exact H) (by omega) (by omega) (by omega)
      exact ⟨u', y', a, b, c, (Fr.wr y _).tr e, l, l2⟩
