/-! A rank is given; all is cleared; the setting; the counts -/
theorem ad5 (a : Nat) : (5 : Int32) + nI a = nI (5 + a) := nI_add 5 a
theorem perm_loop {r : Nat → Nat} {a t : Nat} (hr : ∀ b, b < 6 → r b < 6) (ha : a < 6) (ht : t < 6) : ∀ d g i (y : St), i + d = 6 → d < g → (∀ b, b < 6 → y.1 0 (5 + b) = if b < i ∧ r b = t then nI (r a) else nI (r b)) →
    ∃ y', FL_X4_ranks_12 g y (nI a) (nI t) (nI (r a)) (nI i) = FL_X4_ranks_72 fuel y' (nI (r a)) 0 ∧ (∀ b, b < 6 → y'.1 0 (5 + b) = if b = a then nI t else if r b = t then nI (r a) else nI (r b)) ∧ (∀ j, j < 5 ∨ 11 ≤ j → y'.1 0 j = y.1 0 j) ∧ Fr y y'
  | d, 0, _, _, _, h, _ => absurd h (by omega)
  | 0, g + 1, i, y, hi, _, hb => by
    have : i = 6 := by omega
    subst this
    rw [FL_X4_ranks_12, if_pos (show (6 : Int32) ≤ nI 6 by decide), ad5, stM (by omega), oB_some]
    refine ⟨wr y (upd (y.1 0) (5 + a) (nI t)), rfl, fun b hb6 => ?_, fun j hj => ?_, Fr.wr y _⟩
    · rw [wr_0]
      by_cases e : b = a
      · rw [if_pos e, e, pk_us]
      · rw [if_neg e, pk_un (by omega), hb b hb6]
        by_cases e2 : r b = t
        · rw [if_pos ⟨hb6, e2⟩, if_pos e2]
        · rw [if_neg (fun q => e2 q.2), if_neg e2]
    · rw [wr_0, pk_un (by omega)]
  | d + 1, g + 1, i, y, hi, hg, hb => by
    have h6 : ¬ (6 : Int32) ≤ nI i := nI_ge (a := i) (b := 6) (by omega) (by decide)
    have hv := hb i (by omega)
    rw [if_neg (fun q => absurd q.1 (by omega))] at hv
    have ri := hr i (by omega)
    rw [FL_X4_ranks_12, if_neg h6, ad5, ldM (by omega), oB_some, stM (by omega), oB_some, oB_some, stM (by omega), oB_some, nI_1, hv]
    have go : ∀ v : Int32, (v = if r i = t then nI (r a) else nI (r i)) → ∃ y', FL_X4_ranks_12 g (wr y (upd (y.1 0) (5 + i) v)) (nI a) (nI t) (nI (r a)) (nI (i + 1)) = FL_X4_ranks_72 fuel y' (nI (r a)) 0 ∧ (∀ b, b < 6 → y'.1 0 (5 + b) = if b = a then nI t else if r b = t then nI (r a) else nI (r b)) ∧ (∀ j, j < 5 ∨ 11 ≤ j → y'.1 0 j = y.1 0 j) ∧ Fr y y' := by
      intro v ev
      obtain ⟨y', q1, q2, q3, q4⟩ := perm_loop hr ha ht d g (i + 1) (wr y (upd (y.1 0) (5 + i) v)) (by omega) (by omega) (fun b hb6 => by
        rw [wr_0]
        by_cases e : b = i
        · subst e
          rw [pk_us, ev]
          by_cases e2 : r b = t
          · rw [if_pos e2, if_pos ⟨by omega, e2⟩]
          · rw [if_neg e2, if_neg (fun q => e2 q.2)]
        · rw [pk_un (by omega), hb b hb6]
          by_cases e2 : b < i ∧ r b = t
          · rw [if_pos e2, if_pos ⟨by omega, e2.2⟩]
          · rw [if_neg e2, if_neg (fun q => e2 ⟨by omega, q.2⟩)])
      exact ⟨y', q1, q2, fun j hj => (q3 j hj).trans (by rw [wr_0, pk_un (by omega)]), (Fr.wr y _).tr q4⟩
    by_cases e : r i = t
    · rw [if_pos (by rw [e])]
      exact go _ (by rw [if_pos e])
    · rw [if_neg (fun q => e ((nI_eq (by omega) (by omega)).mp q))]
      exact go _ (by rw [if_neg e])
theorem rank_eq {u y : St} {n a t : Nat} (H : Rs u (y.1 0) n) (ha : a < 6) (ht : t < 6) : ∃ w u' y' n', w < 6 ∧ F_X1_changeRank u (nI a) (nI t) = some (nI w, u') ∧ F_X4_ranks y (nI a) (nI t) = some (nI w, y') ∧ Rs u' (y'.1 0) n' ∧ Fr y y' := by
  obtain ⟨r, ρ, hk⟩ := H.1.2.2.2.2.2.2.2.2.1
  obtain ⟨ra6, rar, ras⟩ := hk.1 a ha
  obtain ⟨rt6, rtr, rts⟩ := hk.2 t ht
  obtain ⟨y1, q1, q2, q3, q4⟩ := perm_loop (r := r) (fun b hb => (hk.1 b hb).1) ha ht 6 fuel 0 y rfl (by decide) (fun b hb => by
    rw [if_neg (fun q => absurd q.1 (by omega))]
    exact (hk.1 b hb).2.2)
  have hinj : ∀ b c, b < 6 → c < 6 → r b = r c → b = c := fun b c hb hc e => by
    have h1 := (hk.1 b hb).2.1
    have h2 := (hk.1 c hc).2.1
    rw [e, h2] at h1
    exact h1.symm
  have row : Nat → Int32 := upd (upd (u.1 0) (r a) (nI (ρ t))) t (nI a)
  have hRk : Rk (va_up (va_up u.1 0 (upd (u.1 0) (r a) (nI (ρ t)))) 0 (upd (upd (u.1 0) (r a) (nI (ρ t))) t (nI a)), u.2.1, u.2.2) (y1.1 0) (fun b => if b = a then t else if r b = t then r a else r b) (fun i => if i = t then a else if i = r a then ρ t else ρ i) := by
    refine ⟨fun b hb => ?_, fun i hi => ?_⟩
    · obtain ⟨h1, h2, h3⟩ := hk.1 b hb
      show (if b = a then t else if r b = t then r a else r b) < 6 ∧ (if (if b = a then t else if r b = t then r a else r b) = t then a else if (if b = a then t else if r b = t then r a else r b) = r a then ρ t else ρ (if b = a then t else if r b = t then r a else r b)) = b ∧ y1.1 0 (5 + b) = nI (if b = a then t else if r b = t then r a else r b)
      rw [q2 b hb]
      by_cases e : b = a
      · subst e
        simp only [if_true]
        exact ⟨ht, trivial, trivial⟩
      · by_cases e2 : r b = t
        · have e3 : ¬ r a = t := fun q => e (hinj b a hb ha (e2.trans q.symm))
          simp only [if_neg e, if_pos e2, if_neg e3, if_true]
          refine ⟨ra6, ?_, trivial⟩
          rw [← e2, h2]
        · have e3 : ¬ r b = r a := fun q => e (hinj b a hb ha q)
          simp only [if_neg e, if_neg e2, if_neg e3]
          exact ⟨h1, h2, trivial⟩
    · obtain ⟨h1, h2, h3⟩ := hk.2 i hi
      show (if i = t then a else if i = r a then ρ t else ρ i) < 6 ∧ (if (if i = t then a else if i = r a then ρ t else ρ i) = a then t else if r (if i = t then a else if i = r a then ρ t else ρ i) = t then r a else r (if i = t then a else if i = r a then ρ t else ρ i)) = i ∧ _
      show _ ∧ _ ∧ (va_up (va_up u.1 0 (upd (u.1 0) (r a) (nI (ρ t)))) 0 (upd (upd (u.1 0) (r a) (nI (ρ t))) t (nI a))) 0 i = nI (if i = t then a else if i = r a then ρ t else ρ i)
      rw [va_up_self]
      by_cases e : i = t
      · subst e
        simp only [if_true]
        exact ⟨ha, trivial, pk_us⟩
      · by_cases e2 : i = r a
        · have e3 : ¬ ρ t = a := fun q => by
            rw [q] at rtr
            exact e (e2.trans rtr)
          simp only [if_neg e, if_pos e2, if_neg e3, if_pos rtr]
          refine ⟨rt6, e2.symm, ?_⟩
          rw [pk_un (by omega), e2, pk_us]
        · have e3 : ¬ ρ i = a := fun q => by
            rw [q] at h2
            exact e2 h2.symm
          have e4 : ¬ r (ρ i) = t := fun q => e (h2.symm.trans q)
          simp only [if_neg e, if_neg e2, if_neg e3, if_neg e4]
          refine ⟨h1, h2, ?_⟩
          rw [pk_un e, pk_un e2]
          exact h3
  have hRc : Rc (va_up (va_up u.1 0 (upd (u.1 0) (r a) (nI (ρ t)))) 0 (upd (upd (u.1 0) (r a) (nI (ρ t))) t (nI a)), u.2.1, u.2.2) (y1.1 0) n := by
    obtain ⟨h1, h2, h3, h4, h5, h6, h7, h8, _, hc⟩ := H.1
    refine ⟨h1, h2, ?_, ?_, ?_, ?_, ?_, h8, ⟨_, _, hRk⟩, fun k hk2 => (hc k hk2).congr (fun j h1 h2 => ?_) rfl (fun w hw => q3 _ (Or.inr (by omega)))⟩
    · rw [q3 0 (by omega)]; exact h3
    · rw [q3 1 (by omega)]; exact h4
    · rw [q3 2 (by omega)]; exact h5
    · rw [q3 3 (by omega)]; exact h6
    · rw [q3 4 (by omega)]; exact h7
    · show (va_up (va_up u.1 0 _) 0 _) j k = _
      rw [va_up_ne _ _ (by omega), va_up_ne _ _ (by omega)]
  obtain ⟨u', y', w1, w2, w3, w4, w5, w6⟩ := wait_loop (nI (r a)) n fuel fuel 0 _ y1 hRc (by omega) (Rs.f H.1) (Rs.f H.1)
  refine ⟨r a, u', y', n, ra6, ?_, ?_, ⟨w3, fun k hk2 h0 => ?_⟩, q4.tr w4⟩
  · unfold F_X1_changeRank
    rw [rank_at hk ha, oB_some, aR ht, oB_some, pR ra6, oB_some, rts]
    have e1 : (va_up u.1 0 (upd (u.1 0) (r a) (nI (ρ t)))) 0 = upd (u.1 0) (r a) (nI (ρ t)) := va_up_self _ _ _
    rw [e1, pR ht, oB_some]
    exact w1
  · unfold F_X4_ranks
    rw [ad5, ldM (by omega), oB_some, ras]
    exact q1.trans w2
  · have e1 : u'.1 1 = u.1 1 := w5
    rw [e1] at h0
    obtain ⟨r1, r2⟩ := H.2 k hk2 h0
    exact ⟨r1, fun q => r2 (w6 k q)⟩
theorem clear_loop (v : Int32) : ∀ d g i (y : St), i + d = 251 → 11 ≤ i → d < g → ∃ y', FL_X4_clears_10 g y v (nI i) = some (v, y') ∧ y'.1 0 0 = 0 ∧ y'.1 0 1 = 0 ∧ (∀ j, 2 ≤ j → j < 11 → y'.1 0 j = y.1 0 j) ∧ Fr y y'
  | d, 0, _, _, _, _, h => absurd h (by omega)
  | 0, g + 1, i, y, hi, _, _ => by
    have : i = 251 := by omega
    subst this
    unfold FL_X4_clears_10
    rw [if_pos (show (251 : Int32) ≤ nI 251 by decide), stM0, oB_some]
    rw [show ∀ f v, aSt f (lnM 0) 1 v = some (upd f 1 v) from fun f v => stM (k := 1) (by decide), oB_some]
    have e1 : (va_up y.1 0 (upd (y.1 0) 0 0)) 0 = upd (y.1 0) 0 0 := va_up_self _ _ _
    rw [e1]
    refine ⟨wr (wr y (upd (y.1 0) 0 0)) (upd (upd (y.1 0) 0 0) 1 0), rfl, ?_, ?_, fun j h1 h2 => ?_, (Fr.wr y _).tr (Fr.wr _ _)⟩
    · rw [wr_0, pk_un (by omega), pk_us]
    · rw [wr_0, pk_us]
    · rw [wr_0, pk_un (by omega), pk_un (by omega)]
  | d + 1, g + 1, i, y, hi, h11, _ => by
    unfold FL_X4_clears_10
    rw [if_neg (show ¬ (251 : Int32) ≤ nI i from nI_ge (a := i) (b := 251) (by omega) (by decide)), stM (by omega), oB_some, nI_1]
    obtain ⟨y', a, b, c, e, f⟩ := clear_loop v d g (i + 1) (wr y (upd (y.1 0) i 0)) (by omega) (by omega) (by omega)
    exact ⟨y', a, b, c, fun j h1 h2 => (e j h1 h2).trans (by rw [wr_0, pk_un (by omega)]), (Fr.wr y _).tr f⟩
theorem clear_eq {u y : St} {n : Nat} (H : Rs u (y.1 0) n) : ∃ y', F_X4_clears y = some (nI n, y') ∧ Rs (inr (inr u 0 0) 1 0) (y'.1 0) 0 ∧ Fr y y' := by
  obtain ⟨y', a, b, c, e, f⟩ := clear_loop (nI n) 240 fuel 11 y rfl (Nat.le_refl _) (by decide)
  obtain ⟨h1, h2, h3, h4, h5, h6, h7, h8, ⟨r, ρ, hr⟩, hc⟩ := H.1
  refine ⟨y', ?_, ⟨⟨by omega, rfl, b, c, ?_, ?_, ?_, h8, ⟨r, ρ, fun a ha => ?_, hr.2⟩, fun k hk => absurd hk (by omega)⟩, fun k hk => absurd hk (by omega)⟩, f⟩
  · unfold F_X4_clears
    rw [H.1.n4, oB_some]
    exact a
  · rw [e 2 (by omega) (by omega)]; exact h5
  · rw [e 3 (by omega) (by omega)]; exact h6
  · rw [e 4 (by omega) (by omega)]; exact h7
  · rw [e (5 + a) (by omega) (by omega)]; exact hr.1 a ha
theorem Rs.setg {u : St} {s : Nat → Int32} {n g : Nat} (H : Rs u s n) (h1 : 1 ≤ g) (h9 : g ≤ 9) : Rs (inr u 2 (nI g)) (upd s 2 (nI g)) n := by
  obtain ⟨⟨h1, h2, h3, h4, h5, h6, h7, h8, ⟨r, ρ, hr⟩, hc⟩, he⟩ := H
  refine ⟨⟨h1, h2, ?_, ?_, pk_us, ?_, ?_, ⟨g, by assumption, h9, rfl⟩, ⟨r, ρ, fun a ha => ?_, hr.2⟩, fun k hk => (hc k hk).congr (fun _ _ _ => rfl) rfl (fun w hw => pk_un (by omega))⟩, he⟩
  · rw [pk_un (by omega)]; exact h3
  · rw [pk_un (by omega)]; exact h4
  · rw [pk_un (by omega)]; exact h6
  · rw [pk_un (by omega)]; exact h7
  · rw [pk_un (by omega)]; exact hr.1 a ha
