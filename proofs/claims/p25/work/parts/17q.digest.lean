/-! The digest sees only what copies keep -/
theorem al_cg {u u' : St} {S : Int64} {v : Nat} : ∀ n, (∀ k, k < n → u'.1 1 k = u.1 1 k) → al u' S v n = al u S v n
  | 0, _ => rfl
  | n + 1, h => by
    show (al u' S v n && _) = (al u S v n && _)
    rw [al_cg n (fun k hk => h k (by omega)), h n (by omega)]
theorem dg_models {x x' : XS} {n : Nat} (H : Iv x.1 n) (a : Ag x'.1 x.1) : ∃ c, F_X3_models x' = some c ∧ F_X3_models x = some c := by
  have HC := H.cs
  have h40 := HC.1
  have HC' := HC.cg a
  obtain ⟨T, h1, h2⟩ := told_eq HC.nn
  obtain ⟨T', h1', h2'⟩ := told_eq HC'.nn
  have eT : T' = T := by
    apply l_ext
    intro j hj
    rw [h2 j hj, h2' j hj]
    by_cases q : j < n
    · rw [a.row (j := 3) (by decide) (by decide) (by omega)]
    · rw [decide_eq_false q]; rfl
  subst eT
  obtain ⟨V, v1, v2⟩ := vf HC T'
  obtain ⟨V', v1', v2'⟩ := vf HC' T'
  have eV : V' = V := by
    apply l_ext
    intro j hj
    rw [v2 j hj, v2' j hj]
    exact al_cg n (fun k hk => a.row (by decide) (by decide) (by omega))
  subst eV
  refine ⟨nI (cn (bl V') 64), ?_, ?_⟩
  · unfold F_X3_models
    rw [h1', oB_some, v1', oB_some, j13_cn]
    rfl
  · unfold F_X3_models
    rw [h1, oB_some, v1, oB_some, j13_cn]
    rfl
theorem dg_count {x x' : XS} {n : Nat} (H : Iv x.1 n) (a : Ag x'.1 x.1) : ∀ q, q < 16 → q ≠ 8 → q ≠ 9 → ∃ c, F_X3_count x' (nI q) = some c ∧ F_X3_count x (nI q) = some c := by
  have HC := H.cs
  have h40 := HC.1
  have HC' := HC.cg a
  obtain ⟨r, ρ, hW⟩ := id H
  have hk := hW.2.2.1
  have hk' : Rk x'.1 r ρ := ⟨hk.1, fun i hi => by rw [a.1 0 (by decide) i hi]; exact hk.2 i hi⟩
  have cc : ∀ s, ct x'.1 s n = ct x.1 s n := fun s => cn_cong n (fun k hk => by rw [a.row (j := 2) (by decide) (by decide) (by omega)])
  intro q hq h8 h9
  by_cases h10 : 10 ≤ q
  · obtain ⟨b, rfl⟩ : ∃ b, q = 10 + b := ⟨q - 10, by omega⟩
    exact ⟨_, q_rank hk' (by omega), q_rank hk (by omega)⟩
  · rcases (show q = 0 ∨ q = 1 ∨ q = 2 ∨ q = 3 ∨ q = 4 ∨ q = 5 ∨ q = 6 ∨ q = 7 by omega) with e | e | e | e | e | e | e | e <;> subst e
    · exact ⟨_, q_n HC'.nn, q_n HC.nn⟩
    · exact ⟨_, q_open HC'.nn, by rw [cc]; exact q_open HC.nn⟩
    · exact ⟨_, q_done HC'.nn, by rw [cc]; exact q_done HC.nn⟩
    · exact ⟨_, q_drop HC'.nn, by rw [cc]; exact q_drop HC.nn⟩
    · exact ⟨x.1.2.2 1, congrArg some (a.2.2 1 (by decide)), rfl⟩
    · exact ⟨x.1.2.2 2, congrArg some (a.2.2 2 (by decide)), rfl⟩
    · exact ⟨x.1.2.2 3, congrArg some (a.2.2 3 (by decide)), rfl⟩
    · exact ⟨x.1.2.2 4, congrArg some (a.2.2 4 (by decide)), rfl⟩
theorem dg_loop {x x' : XS} {n : Nat} (H : Iv x.1 n) (a : Ag x'.1 x.1) : ∀ d f i v, i + d = n → d < f → ∃ D, FL_L_digest_49 x' f v (nI i) = some D ∧ FL_L_digest_49 x f v (nI i) = some D
  | d, 0, _, _, _, h => absurd h (by omega)
  | 0, f + 1, i, v, hi, _ => by
    have : i = n := by omega
    subst this
    have q' : F_X3_count (x'.1, x'.2.1, x'.2.2.1, x'.2.2.2.1, x'.2.2.2.2) 0 = some (nI i) := q_n (x := x') (H.cs.cg a).nn
    have q : F_X3_count (x.1, x.2.1, x.2.2.1, x.2.2.2.1, x.2.2.2.2) 0 = some (nI i) := q_n (x := x) H.cs.nn
    obtain ⟨c, m', m⟩ := dg_models H a
    rw [FL_L_digest_49, FL_L_digest_49, q', q, oB_some, oB_some, if_pos (end_le _), if_pos (end_le _)]
    rw [show F_X3_models (x'.1, x'.2.1, x'.2.2.1, x'.2.2.2.1, x'.2.2.2.2) = some c from m', show F_X3_models (x.1, x.2.1, x.2.2.1, x.2.2.2.1, x.2.2.2.2) = some c from m]
    exact ⟨_, rfl, rfl⟩
  | d + 1, f + 1, i, v, hi, _ => by
    have hn : i < n := by omega
    have HC := H.cs
    have HC' := HC.cg a
    have h40 := HC.1
    have q' : F_X3_count (x'.1, x'.2.1, x'.2.2.1, x'.2.2.2.1, x'.2.2.2.2) 0 = some (nI n) := q_n (x := x') HC'.nn
    have q : F_X3_count (x.1, x.2.1, x.2.2.1, x.2.2.2.1, x.2.2.2.2) 0 = some (nI n) := q_n (x := x) HC.nn
    obtain ⟨c3, e3⟩ := found_some (x.1.1 3 i)
    obtain ⟨c4, e4⟩ := found_some (x.1.1 4 i)
    have r : ∀ j, 1 ≤ j → j ≤ 6 → x'.1.1 j i = x.1.1 j i := fun j h1 h2 => a.row h1 h2 (by omega)
    have a0 : F_X3_clauseOf (x'.1, x'.2.1, x'.2.2.1, x'.2.2.2.1, x'.2.2.2.2) (nI i) 0 = some (x.1.1 1 i) := (q_c0 (x := x') HC'.nn hn).trans (by rw [r 1 (by decide) (by decide)])
    have a1 : F_X3_clauseOf (x'.1, x'.2.1, x'.2.2.1, x'.2.2.2.1, x'.2.2.2.2) (nI i) 1 = some (x.1.1 2 i) := (q_c1 (x := x') HC'.nn hn).trans (by rw [r 2 (by decide) (by decide)])
    have a3 : F_X3_clauseOf (x'.1, x'.2.1, x'.2.2.1, x'.2.2.2.1, x'.2.2.2.2) (nI i) 3 = some c3 := (q_c3 (x := x') HC'.nn hn).trans (by rw [r 3 (by decide) (by decide)]; exact e3)
    have a4 : F_X3_clauseOf (x'.1, x'.2.1, x'.2.2.1, x'.2.2.2.1, x'.2.2.2.2) (nI i) 4 = some c4 := (q_c4 (x := x') HC'.nn hn).trans (by rw [r 4 (by decide) (by decide)]; exact e4)
    have b0 : F_X3_clauseOf (x.1, x.2.1, x.2.2.1, x.2.2.2.1, x.2.2.2.2) (nI i) 0 = some (x.1.1 1 i) := q_c0 (x := x) HC.nn hn
    have b1 : F_X3_clauseOf (x.1, x.2.1, x.2.2.1, x.2.2.2.1, x.2.2.2.2) (nI i) 1 = some (x.1.1 2 i) := q_c1 (x := x) HC.nn hn
    have b3 : F_X3_clauseOf (x.1, x.2.1, x.2.2.1, x.2.2.2.1, x.2.2.2.2) (nI i) 3 = some c3 := (q_c3 (x := x) HC.nn hn).trans e3
    have b4 : F_X3_clauseOf (x.1, x.2.1, x.2.2.1, x.2.2.2.1, x.2.2.2.2) (nI i) 4 = some c4 := (q_c4 (x := x) HC.nn hn).trans e4
    rw [FL_L_digest_49, FL_L_digest_49, q', q, oB_some, oB_some, if_neg (show ¬ nI n ≤ nI i from nI_ge hn (by omega)), if_neg (show ¬ nI n ≤ nI i from nI_ge hn (by omega)), a0, b0, oB_some, oB_some, a1, b1, oB_some, oB_some, a3, b3, oB_some, oB_some, a4, b4, oB_some, oB_some, nI_1]
    exact dg_loop H a d f (i + 1) _ (by omega) (by omega)
theorem dg_six {x x' : XS} {n : Nat} (H : Iv x.1 n) (a : Ag x'.1 x.1) : ∀ d f i v, i + d = 16 → d < f → ∃ D, FL_L_digest_6 x' f v (nI i) = some D ∧ FL_L_digest_6 x f v (nI i) = some D
  | d, 0, _, _, _, h => absurd h (by omega)
  | 0, f + 1, i, v, hi, _ => by
    have : i = 16 := by omega
    subst this
    rw [FL_L_digest_6, FL_L_digest_6, if_pos (show (16 : Int32) ≤ nI 16 by decide), if_pos (show (16 : Int32) ≤ nI 16 by decide)]
    exact dg_loop H a n fuel 0 v (by omega) H.cs.f
  | d + 1, f + 1, i, v, hi, _ => by
    have ih := fun v => dg_six H a d f (i + 1) v (by omega) (by omega)
    rw [FL_L_digest_6, FL_L_digest_6, if_neg (show ¬ (16 : Int32) ≤ nI i from nI_ge (a := i) (b := 16) (by omega) (by decide)), if_neg (show ¬ (16 : Int32) ≤ nI i from nI_ge (a := i) (b := 16) (by omega) (by decide)), nI_1]
    by_cases h8 : i = 8
    · rw [if_pos (show nI i = 8 by rw [h8]; rfl), if_pos (show nI i = 8 by rw [h8]; rfl)]
      exact ih _
    · rw [if_neg (show ¬ nI i = 8 from ni_ne (a := i) (b := 8) (by omega) (by decide) h8), if_neg (show ¬ nI i = 8 from ni_ne (a := i) (b := 8) (by omega) (by decide) h8)]
      by_cases h9 : i = 9
      · rw [if_pos (show nI i = 9 by rw [h9]; rfl), if_pos (show nI i = 9 by rw [h9]; rfl)]
        exact ih _
      · rw [if_neg (show ¬ nI i = 9 from ni_ne (a := i) (b := 9) (by omega) (by decide) h9), if_neg (show ¬ nI i = 9 from ni_ne (a := i) (b := 9) (by omega) (by decide) h9)]
        obtain ⟨c, c', c0⟩ := dg_count H a i (by omega) h8 h9
        rw [show F_X3_count (x'.1, x'.2.1, x'.2.2.1, x'.2.2.2.1, x'.2.2.2.2) (nI i) = some c from c', show F_X3_count (x.1, x.2.1, x.2.2.1, x.2.2.2.1, x.2.2.2.2) (nI i) = some c from c0, oB_some, oB_some]
        exact ih _
theorem dg {x : XS} {n : Nat} (H : Iv x.1 n) : ∃ D, F_L_digest x = some D ∧ ∀ x' : XS, Ag x'.1 x.1 → F_L_digest x' = some D := by
  obtain ⟨D, _, h⟩ := dg_six H (Ag.rf x.1) 16 fuel 0 43 rfl (by decide)
  refine ⟨D, h, fun x' a => ?_⟩
  obtain ⟨D', h1, h2⟩ := dg_six H a 16 fuel 0 43 rfl (by decide)
  have e : D' = D := Option.some.inj (h2.symm.trans h)
  rw [← e]
  exact h1
