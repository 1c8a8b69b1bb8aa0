/-! A clause comes -/
theorem ha_loop (c : Int32) : ∀ d f a b, a + d = 6 → d < f → b = ha c a → FL_X4_holdsAlways_4 f c (bI b) (nI a) = some (bI (ha c 6))
  | d, 0, _, _, _, h, _ => absurd h (by omega)
  | 0, f + 1, a, b, ha, _, hb => by
    have : a = 6 := by omega
    subst this
    unfold FL_X4_holdsAlways_4
    rw [if_pos (by decide)]
    unfold oZ
    rw [if_pos (bI_z b), hb]
  | d + 1, f + 1, a, b, hd, _, hb => by
    have h6 : ¬ (6 : Int32) ≤ nI a := fun h => absurd ((nI_leI (a := 6) (b := a) (by decide) (by omega)).mp h) (by omega)
    have ih := fun b2 hb2 => ha_loop c d f (a + 1) b2 (by omega) (by omega) hb2
    have k1 : true = ha c (a + 1) → FL_X4_holdsAlways_4 f c 1 (nI (a + 1)) = _ := ih true
    have k0 : false = ha c (a + 1) → FL_X4_holdsAlways_4 f c 0 (nI (a + 1)) = _ := ih false
    simp only [ha, ← hb] at k1 k0
    unfold FL_X4_holdsAlways_4
    rw [if_neg h6, nI_1]
    simp only [pr_eq c (show a < 15 by omega), pr_3]
    cases b <;> cases h1 : bt c (2 * a) <;> cases h2 : bt c (2 * a + 1) <;> rw [h1, h2] at k0 k1 <;> first | exact k1 rfl | exact k0 rfl
theorem ha4 (c : Int32) : F_X4_holdsAlways c = some (bI (ha c 6)) := ha_loop c 6 fuel 0 false rfl (by decide) rfl
theorem b_1365 : ∀ i, i < 32 → bt 1365 i = decide (i < 12 ∧ i % 2 = 0) := by decide +kernel
theorem ha_t (c : Int32) : ∀ n, ha c n = false ↔ ∀ a, a < n → (bt c (2 * a) && bt c (2 * a + 1)) = false
  | 0 => ⟨fun _ i hi => absurd hi (by omega), fun _ => rfl⟩
  | n + 1 => by
    show (ha c n || _) = false ↔ _
    rw [Bool.or_eq_false_iff, ha_t c n]
    constructor
    · intro h i hi
      rcases Nat.lt_succ_iff_lt_or_eq.mp hi with h2 | h2
      · exact h.1 i h2
      · subst h2; exact h.2
    · intro h
      exact ⟨fun i hi => h i (by omega), h n (by omega)⟩
theorem b_s1 (x : Int32) {i : Nat} (hi : i < 31) : bt (x >>> ((1 : Int32) &&& 31)) i = bt x (i + 1) :=
  (b_sshr 1 (by decide) x (by omega)).trans (by rw [if_pos (by omega), Nat.add_comm])
theorem ha3 (c : Int32) : F_X3_holdsAlways c = some (bI (ha c 6)) := by
  unfold F_X3_holdsAlways
  have key : ((c &&& (c >>> ((1 : Int32) &&& 31))) &&& 1365) = 0 ↔ ha c 6 = false := by
    rw [ha_t]
    constructor
    · intro h a ha
      have h1 := congrArg (fun z => bt z (2 * a)) h
      simp only [b_and, b_0] at h1
      rw [b_1365 _ (by omega), decide_eq_true (by omega), Bool.and_true, b_s1 c (by omega)] at h1
      exact h1
    · intro h
      apply b_ext
      intro i hi
      rw [b_and, b_and, b_0, b_1365 i hi]
      by_cases h2 : i < 12 ∧ i % 2 = 0
      · rw [b_s1 c (by omega)]
        have h3 := h (i / 2) (by omega)
        rw [show 2 * (i / 2) = i by omega] at h3
        rw [h3]
        rfl
      · rw [decide_eq_false h2, Bool.and_false]
  by_cases h : ha c 6 = false
  · rw [if_pos (key.mpr h), h]
    rfl
  · rw [if_neg (fun q => h (key.mp q)), (Bool.not_eq_false _).mp h]
    rfl
def hw (u : St) (p : Int32) : Nat → Bool
  | 0 => false
  | i + 1 => hw u p i || (!decide (u.1 2 i = 2) && decide ((u.1 1 i &&& (p ^^^ (-1))) = 0))
theorem hw_up {u : St} {p : Int32} : ∀ d i, hw u p i = true → hw u p (i + d) = true
  | 0, _, h => h
  | d + 1, i, h => by
    show (hw u p (i + d) || _) = true
    rw [hw_up d i h]
    rfl
theorem hw1_loop {u : St} {s : Nat → Int32} {n : Nat} (H : Rc u s n) (p : Int32) : ∀ d f i, i + d = n → d < f → hw u p i = false → FL_X1_hasAnotherWithin_2 u f p (nI i) = some (bI (hw u p n))
  | d, 0, _, _, h, _ => absurd h (by omega)
  | 0, f + 1, i, hi, _, hb => by
    have : i = n := by omega
    subst this
    unfold FL_X1_hasAnotherWithin_2
    rw [H.2.1, if_pos (end_le _), hb]
    rfl
  | d + 1, f + 1, i, hi, _, hb => by
    have hn : i < n := by omega
    have h40 := H.lt hn
    have ih := hw1_loop H p d f (i + 1) (by omega) (by omega)
    have up : hw u p (i + 1) = true → hw u p n = true := fun h => by
      have := hw_up d (i + 1) h
      rwa [show i + 1 + d = n by omega] at this
    simp only [hw, hb] at ih up
    unfold FL_X1_hasAnotherWithin_2 F_X3_isWithin
    rw [H.2.1, if_neg (H.ge hn), H.dr hn, oB_some, aS (by decide) h40, oB_some, nI_1]
    by_cases h1 : u.1 2 i = 2
    · rw [decide_eq_true h1] at ih ⊢
      exact ih rfl
    · by_cases h2 : (u.1 1 i &&& (p ^^^ (-1))) = 0
      · rw [decide_eq_false h1, decide_eq_true h2] at up
        rw [decide_eq_false h1, if_pos h2, up rfl]
        rfl
      · rw [decide_eq_false h1, decide_eq_false h2] at ih
        rw [decide_eq_false h1, if_neg h2]
        exact ih rfl
theorem hw4_loop {u y : St} {n : Nat} (H : Rc u (y.1 0) n) (p : Int32) : ∀ d f i b, i + d = n → d < f → b = hw u p i → FL_X4_hasWithin_4 y f p (bI b) (nI i) = some (bI (hw u p n))
  | d, 0, _, _, _, h, _ => absurd h (by omega)
  | 0, f + 1, i, b, hi, _, hb => by
    have : i = n := by omega
    subst this
    unfold FL_X4_hasWithin_4
    rw [H.n4, oB_some, if_pos (end_le _)]
    unfold oZ
    rw [if_pos (bI_z b), hb]
  | d + 1, f + 1, i, b, hi, _, hb => by
    have hn : i < n := by omega
    have ih := fun b2 hb2 => hw4_loop H p d f (i + 1) b2 (by omega) (by omega) hb2
    have k1 : true = hw u p (i + 1) → FL_X4_hasWithin_4 y f p 1 (nI (i + 1)) = _ := ih true
    have k0 : false = hw u p (i + 1) → FL_X4_hasWithin_4 y f p 0 (nI (i + 1)) = _ := ih false
    simp only [hw, ← hb] at k1 k0
    unfold FL_X4_hasWithin_4
    rw [H.n4, oB_some, if_neg (H.ge hn), H.ke hn, oB_some, H.o0 hn, oB_some, nI_1]
    cases b
    · by_cases h1 : u.1 2 i = 2
      · rw [decide_eq_true h1] at k0 ⊢
        exact k0 rfl
      · by_cases h2 : (u.1 1 i &&& (p ^^^ (-1))) = 0
        · rw [decide_eq_false h1, decide_eq_true h2] at k1
          rw [decide_eq_false h1, if_pos h2]
          exact k1 rfl
        · rw [decide_eq_false h1, decide_eq_false h2] at k0
          rw [decide_eq_false h1, if_neg h2]
          exact k0 rfl
    · exact k1 (by rw [Bool.true_or])
theorem hw1 {u : St} {s : Nat → Int32} {n : Nat} (H : Rc u s n) (p : Int32) : F_X1_hasAnotherWithin u p = some (bI (hw u p n)) := hw1_loop H p n fuel 0 (by omega) (Rs.f H) rfl
theorem hw4 {u y : St} {n : Nat} (H : Rc u (y.1 0) n) (p : Int32) : F_X4_hasWithin y p = some (bI (hw u p n)) := hw4_loop H p n fuel 0 false (by omega) (Rs.f H) rfl
theorem Cl.congr {u u' : St} {s s' : Nat → Int32} {k : Nat} (h : Cl u s k) (hu : ∀ j, 1 ≤ j → j ≤ 6 → u'.1 j k = u.1 j k) (hl : u'.2.1 k = u.2.1 k) (hs : ∀ w, w < 6 → s' (11 + 6 * k + w) = s (11 + 6 * k + w)) : Cl u' s' k := by
  unfold Cl at h ⊢
  rw [hu 1 (by omega) (by omega), hu 2 (by omega) (by omega), hu 3 (by omega) (by omega), hu 4 (by omega) (by omega), hu 5 (by omega) (by omega), hu 6 (by omega) (by omega), hl]
  have h0 := hs 0 (by omega)
  have h1 := hs 1 (by omega)
  have h2 := hs 2 (by omega)
  have h3 := hs 3 (by omega)
  have h4 := hs 4 (by omega)
  have h5 := hs 5 (by omega)
  rw [show 11 + 6 * k + 1 = 12 + 6 * k by omega] at h1
  rw [show 11 + 6 * k + 2 = 13 + 6 * k by omega] at h2
  rw [show 11 + 6 * k + 3 = 14 + 6 * k by omega] at h3
  rw [show 11 + 6 * k + 4 = 15 + 6 * k by omega] at h4
  rw [show 11 + 6 * k + 5 = 16 + 6 * k by omega] at h5
  rw [Nat.add_zero] at h0
  rw [h0, h1, h2, h3, h4, h5]
  exact h
theorem Cl.st {u u' : St} {s s' : Nat → Int32} {k : Nat} {v : Int32} (h : Cl u s k) (hu : ∀ j, 1 ≤ j → j ≤ 6 → j ≠ 2 → u'.1 j k = u.1 j k) (h2 : u'.1 2 k = v) (hl : u'.2.1 k = u.2.1 k) (hs : ∀ w, w < 6 → w ≠ 1 → s' (11 + 6 * k + w) = s (11 + 6 * k + w)) (hs1 : s' (12 + 6 * k) = v) : Cl u' s' k := by
  unfold Cl at h ⊢
  rw [hu 1 (by omega) (by omega) (by omega), h2, hu 3 (by omega) (by omega) (by omega), hu 4 (by omega) (by omega) (by omega), hu 5 (by omega) (by omega) (by omega), hu 6 (by omega) (by omega) (by omega), hl, hs1]
  have h0 := hs 0 (by omega) (by omega)
  have h2 := hs 2 (by omega) (by omega)
  have h3 := hs 3 (by omega) (by omega)
  have h4 := hs 4 (by omega) (by omega)
  have h5 := hs 5 (by omega) (by omega)
  rw [show 11 + 6 * k + 2 = 13 + 6 * k by omega] at h2
  rw [show 11 + 6 * k + 3 = 14 + 6 * k by omega] at h3
  rw [show 11 + 6 * k + 4 = 15 + 6 * k by omega] at h4
  rw [show 11 + 6 * k + 5 = 16 + 6 * k by omega] at h5
  rw [Nat.add_zero] at h0
  rw [h0, h2, h3, h4, h5]
  exact ⟨h.1, h.2.1, rfl, h.2.2.2⟩
def stat (u : St) (k : Nat) (v : Int32) : St := (va_up u.1 2 (upd (u.1 2) k v), u.2.1, u.2.2)
theorem stat_2 (u : St) (k : Nat) (v : Int32) : (stat u k v).1 2 = upd (u.1 2) k v := va_up_self u.1 2 _
theorem stat_n (u : St) (k : Nat) (v : Int32) {j : Nat} (h : j ≠ 2) : (stat u k v).1 j = u.1 j := va_up_ne u.1 _ h
theorem Rc.stat {u : St} {s : Nat → Int32} {n k : Nat} (H : Rc u s n) (hk : k < n) (v : Int32) : Rc (stat u k v) (upd s (12 + 6 * k) v) n := by
  obtain ⟨h1, h2, h3, h4, h5, h6, h7, h8, ⟨r, ρ, hr⟩, hc⟩ := H
  refine ⟨h1, h2, ?_, ?_, ?_, ?_, ?_, h8, ⟨r, ρ, fun a ha => ?_, fun i hi => ?_⟩, fun j hj => ?_⟩
  · rw [pk_un (by omega)]; exact h3
  · rw [pk_un (by omega)]; exact h4
  · rw [pk_un (by omega)]; exact h5
  · rw [pk_un (by omega)]; exact h6
  · rw [pk_un (by omega)]; exact h7
  · rw [pk_un (by omega)]; exact hr.1 a ha
  · rw [stat_n u k v (by decide)]; exact hr.2 i hi
  · by_cases e : j = k
    · subst e
      exact (hc j hj).st (v := v) (fun i _ _ h => by rw [stat_n u j v h]) (by rw [stat_2, pk_us]) rfl (fun w hw h => pk_un (by omega)) pk_us
    · exact (hc j hj).congr (fun i _ _ => by
        by_cases h : i = 2
        · subst h
          rw [stat_2, pk_un e]
        · rw [stat_n u k v h]) rfl (fun w hw => pk_un (by omega))
theorem puts1 (y : St) {k : Nat} {v : Int32} (hk : k < 40) : F_X4_puts y (nI k) 1 v = some (wr y (upd (y.1 0) (12 + 6 * k) v)) := (putsE y hk (w := 1) (by decide)).trans (by rw [show 11 + 6 * k + 1 = 12 + 6 * k by omega])
theorem eta3 (u : St) : (u.1, u.2.1, u.2.2) = u := rfl
theorem drop_loop {n : Nat} (p p1 p2 p3 : Int32) : ∀ d f g i (u y : St), Rc u (y.1 0) n → i + d = n → d < f → ∃ u' y', FL_X1_dropAllAround_2 f u p (nI i) = some u' ∧ FL_X4_comes_57 (g + d) y p p1 p2 p3 (nI i) = FL_X4_comes_57 g y' p p1 p2 p3 (nI n) ∧ Rc u' (y'.1 0) n ∧ Fr y y' ∧ (∀ j, j ≠ 2 → u'.1 j = u.1 j) ∧ u'.2 = u.2 ∧ (∀ k, k < i → u'.1 2 k = u.1 2 k) ∧ (p = 0 → ∀ k, i ≤ k → k < n → u'.1 2 k = 2)
  | d, 0, _, _, _, _, _, _, h => absurd h (by omega)
  | 0, f + 1, g, i, u, y, H, hi, _ => by
    have : i = n := by omega
    subst this
    unfold FL_X1_dropAllAround_2
    rw [H.2.1, if_pos (end_le _)]
    exact ⟨u, y, rfl, rfl, H, Fr.rf y, fun _ _ => rfl, rfl, fun _ _ => rfl, fun _ k h1 h2 => absurd h2 (by omega)⟩
  | d + 1, f + 1, g, i, u, y, H, hi, _ => by
    have hn : i < n := by omega
    have h40 := H.lt hn
    rw [show g + (d + 1) = (g + d) + 1 by omega]
    rw [FL_X1_dropAllAround_2, FL_X4_comes_57]
    unfold F_X3_isWithin
    rw [H.2.1, if_neg (H.ge hn), H.n4, oB_some, if_neg (H.ge hn), aS (by decide) h40, oB_some, H.o0 hn, oB_some, pS (by decide) h40, oB_some, puts1 y h40, oB_some, nI_1]
    by_cases h2 : (p &&& (u.1 1 i ^^^ (-1))) = 0
    · rw [if_pos h2, if_pos h2, oB_some, if_neg (by decide)]
      obtain ⟨u', y', a, b, c, e, l, l2, l3, l4⟩ := drop_loop p p1 p2 p3 d f g (i + 1) (stat u i 2) (wr y (upd (y.1 0) (12 + 6 * i) 2)) (by rw [wr_0]; exact H.stat hn 2) (by omega) (by omega)
      refine ⟨u', y', a, b, c, (Fr.wr y _).tr e, fun j hj => (l j hj).trans (stat_n u i 2 hj), l2, fun k hk => (l3 k (by omega)).trans (by rw [stat_2, pk_un (by omega)]), fun hp k h1 h3 => ?_⟩
      by_cases hk : k = i
      · rw [l3 k (by omega), stat_2, hk, pk_us]
      · exact l4 hp k (by omega) h3
    · rw [if_neg h2, if_neg h2, oB_some, if_pos rfl]
      obtain ⟨u', y', a, b, c, e, l, l2, l3, l4⟩ := drop_loop p p1 p2 p3 d f g (i + 1) u y H (by omega) (by omega)
      refine ⟨u', y', a, b, c, e, l, l2, fun k hk => l3 k (by omega), fun hp => absurd (by rw [hp]; exact Int32.zero_and) h2⟩
