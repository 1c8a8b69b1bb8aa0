/-! The law's acts -/
theorem nos_ask {x : XS} {n : Nat} (H : Iv x.1 n) (hn : Nos x.1 n) : ∃ c, c < 2 ^ 31 ∧ F_X3_count (x.1, x.2.1, x.2.2.1, x.2.2.2.1, x.2.2.2.2) 1 = some (nI c) ∧ (c = 0 ∨ ∃ k, k < 2 ^ 31 ∧ F_X3_refutation (x.1, x.2.1, x.2.2.1, x.2.2.2.1, x.2.2.2.2) = some (nI k)) := by
  have h40 := H.cs.1
  refine ⟨ct x.1 0 n, by have := ct_le x.1 0 n; omega, q_open (x := x) H.cs.nn, ?_⟩
  rcases hn with h | ⟨k, h1, h2⟩
  · left
    unfold ct
    rw [cn_z]
    exact fun i hi => decide_eq_false (h i hi)
  · right
    rcases q_ref (x := x) H.cs.nn with ⟨_, h3⟩ | ⟨j, hj, h3, _⟩
    · exact absurd h2 (h3 k h1)
    · exact ⟨j, by omega, h3⟩
theorem pow2 : ∀ a, a < 13 → (1 : Int32) <<< (nI a &&& 31) = nI (2 ^ a) := by decide +kernel
theorem pow12 : ∀ a, a < 12 → 2 ^ a < 4096 := by decide
theorem nI_10 (a : Nat) : (10 : Int32) + nI a = nI (10 + a) := nI_add 10 a
theorem ni_ne {a b : Nat} (ha : a < 2 ^ 31) (hb : b < 2 ^ 31) (h : ¬ a = b) : ¬ nI a = nI b := fun e => h ((nI_eq ha hb).mp e)
theorem blk_ok {x : XS} {n k t : Nat} (h : Ix x n k t) (a : Nat) (ha : a < 16) (q : Int32) : ∃ x', (oB (F_X3_count (x.1, x.2.1, x.2.2.1, x.2.2.2.1, x.2.2.2.2) (4 : Int32)) fun v65 => if (12 : Int32) ≤ nI a then if nI a = (12 : Int32) then oB (F_L_low q (13 : Int32)) fun v77 => oB (F_L_low (q >>> ((4 : Int32) &&& 31)) (6 : Int32)) fun v79 => oB2 (F_X3_run (x.1, x.2.1, x.2.2.1, x.2.2.2.1, x.2.2.2.2) ((v77 * (3 : Int32)) + v79)) fun v81 w82 => if ((v77 * (3 : Int32)) + v79) < (1 : Int32) then if v81 = ((-1000001) : Int32) then some ((1 : Int32), (w82.1, w82.2.1, w82.2.2.1, w82.2.2.2.1, w82.2.2.2.2)) else some ((0 : Int32), (w82.1, w82.2.1, w82.2.2.1, w82.2.2.2.1, w82.2.2.2.2)) else if ((v77 * (3 : Int32)) + v79) ≤ (40 : Int32) then if v81 = ((-1000003) : Int32) then some ((1 : Int32), (w82.1, w82.2.1, w82.2.2.1, w82.2.2.2.1, w82.2.2.2.2)) else if ((v77 * (3 : Int32)) + v79) < v81 then some ((0 : Int32), (w82.1, w82.2.1, w82.2.2.1, w82.2.2.2.1, w82.2.2.2.2)) else oB (F_X3_count (w82.1, w82.2.1, w82.2.2.1, w82.2.2.2.1, w82.2.2.2.2) (4 : Int32)) fun v89 => if v89 = (v65 + v81) then if v81 = ((v77 * (3 : Int32)) + v79) then some ((1 : Int32), (w82.1, w82.2.1, w82.2.2.1, w82.2.2.2.1, w82.2.2.2.2)) else oB (F_X3_count (w82.1, w82.2.1, w82.2.2.1, w82.2.2.2.1, w82.2.2.2.2) (1 : Int32)) fun v93 => if v93 = 0 then some ((1 : Int32), (w82.1, w82.2.1, w82.2.2.1, w82.2.2.2.1, w82.2.2.2.2)) else oB (F_X3_refutation (w82.1, w82.2.1, w82.2.2.1, w82.2.2.2.1, w82.2.2.2.2)) fun v96 => if v96 < 0 then some ((0 : Int32), (w82.1, w82.2.1, w82.2.2.1, w82.2.2.2.1, w82.2.2.2.2)) else some ((1 : Int32), (w82.1, w82.2.1, w82.2.2.1, w82.2.2.2.1, w82.2.2.2.2)) else some ((0 : Int32), (w82.1, w82.2.1, w82.2.2.1, w82.2.2.2.1, w82.2.2.2.2)) else if v81 = ((-1000001) : Int32) then some ((1 : Int32), (w82.1, w82.2.1, w82.2.2.1, w82.2.2.2.1, w82.2.2.2.2)) else some ((0 : Int32), (w82.1, w82.2.1, w82.2.2.1, w82.2.2.2.1, w82.2.2.2.2)) else oB2 (F_L_types (x.1, x.2.1, x.2.2.1, x.2.2.2.1, x.2.2.2.2) q) fun v69 w70 => if v69 = 0 then some ((0 : Int32), (w70.1, w70.2.1, w70.2.2.1, w70.2.2.2.1, w70.2.2.2.2)) else oB2 (F_L_plays (w70.1, w70.2.1, w70.2.2.1, w70.2.2.2.1, w70.2.2.2.2)) fun v73 w74 => if v73 = 0 then some ((0 : Int32), (w74.1, w74.2.1, w74.2.2.1, w74.2.2.2.1, w74.2.2.2.2)) else some ((1 : Int32), (w74.1, w74.2.1, w74.2.2.1, w74.2.2.2.1, w74.2.2.2.2)) else oB2 (F_X3_step (x.1, x.2.1, x.2.2.1, x.2.2.2.1, x.2.2.2.2)) fun v100 w101 => if 0 ≤ v100 then oB (F_X3_clauseOf (w101.1, w101.2.1, w101.2.2.1, w101.2.2.2.1, w101.2.2.2.2) v100 (1 : Int32)) fun v104 => if v104 ≤ 0 then some ((0 : Int32), (w101.1, w101.2.1, w101.2.2.1, w101.2.2.2.1, w101.2.2.2.2)) else oB (F_X3_count (w101.1, w101.2.1, w101.2.2.1, w101.2.2.2.1, w101.2.2.2.2) (4 : Int32)) fun v107 => if v107 = (v65 + (1 : Int32)) then some ((1 : Int32), (w101.1, w101.2.1, w101.2.2.1, w101.2.2.2.1, w101.2.2.2.2)) else some ((0 : Int32), (w101.1, w101.2.1, w101.2.2.1, w101.2.2.2.1, w101.2.2.2.2)) else if v100 = ((-1000003) : Int32) then some ((1 : Int32), (w101.1, w101.2.1, w101.2.2.1, w101.2.2.2.1, w101.2.2.2.2)) else if v100 = ((-1000002) : Int32) then oB (F_X3_count (w101.1, w101.2.1, w101.2.2.1, w101.2.2.2.1, w101.2.2.2.2) (1 : Int32)) fun v112 => if v112 = 0 then some ((1 : Int32), (w101.1, w101.2.1, w101.2.2.1, w101.2.2.2.1, w101.2.2.2.2)) else oB (F_X3_refutation (w101.1, w101.2.1, w101.2.2.1, w101.2.2.2.1, w101.2.2.2.2)) fun v115 => if v115 < 0 then some ((0 : Int32), (w101.1, w101.2.1, w101.2.2.1, w101.2.2.2.1, w101.2.2.2.2)) else some ((1 : Int32), (w101.1, w101.2.1, w101.2.2.1, w101.2.2.2.1, w101.2.2.2.2)) else some ((0 : Int32), (w101.1, w101.2.1, w101.2.2.1, w101.2.2.2.1, w101.2.2.2.2))) = some (1, x') ∧ Eg x k x' := by
  have hT := h.2.2
  have h40 := h.1.cs.1
  have q4 : F_X3_count (x.1, x.2.1, x.2.2.1, x.2.2.2.1, x.2.2.2.2) 4 = some (x.1.2.2 1) := rfl
  rw [q4, oB_some]
  by_cases c12 : 12 ≤ a
  · rw [if_pos (show (12 : Int32) ≤ nI a from nI_le (a := 12) (b := a) c12 (by omega))]
    by_cases e12 : a = 12
    · -- run
      rw [if_pos (show nI a = 12 by rw [e12]; rfl)]
      obtain ⟨A, hA, eA⟩ := low_n q 13 (by decide) (by decide) (D := 13) rfl
      obtain ⟨B, hB, eB⟩ := low_n (q >>> ((4 : Int32) &&& 31)) 6 (by decide) (by decide) (D := 6) rfl
      rw [eA, oB_some, eB, oB_some, show nI A * 3 + nI B = nI (A * 3 + B) by rw [show (3 : Int32) = nI 3 from rfl, pk_mul, nI_add]]
      generalize hM : A * 3 + B = M
      by_cases m0 : M = 0 ∨ 41 ≤ M
      · rw [show F_X3_run (x.1, x.2.1, x.2.2.1, x.2.2.2.1, x.2.2.2.2) (nI M) = some (-1000001, x) from run_bad x m0 (by omega), oB2_some]
        refine ⟨x, ?_, (Ef.rf h).g hT⟩
        by_cases m1 : M = 0
        · rw [if_pos (show nI M < 1 by rw [m1]; decide), if_pos rfl]
        · rw [if_neg (show ¬ nI M < 1 from nI_nlt (a := M) (b := 1) (by omega) (by omega)), if_neg (show ¬ nI M ≤ 40 from nI_ge (a := 40) (b := M) (by omega) (by omega)), if_pos rfl]
      · obtain ⟨v, x', r1, r2, r3⟩ := run_x (most := M) h (by omega) (by omega)
        rw [show F_X3_run (x.1, x.2.1, x.2.2.1, x.2.2.2.1, x.2.2.2.2) (nI M) = some (v, x') from r1, oB2_some, if_neg (show ¬ nI M < 1 from nI_nlt (a := M) (b := 1) (by omega) (by omega)), if_pos (show nI M ≤ 40 from nI_le (a := M) (b := 40) (by omega) (by decide))]
        refine ⟨x', ?_, r2.g hT⟩
        rcases r3 with hv | ⟨c, n2, hc, hv, hI, hs, hm⟩
        · rw [if_pos hv]
        · have h3 := m3_ne (k := c) (by omega) hv
          rw [if_neg h3.1, hv, if_neg (show ¬ nI M < nI c from nI_nlt (a := M) (b := c) hc (by omega))]
          rw [show F_X3_count (x'.1, x'.2.1, x'.2.2.1, x'.2.2.2.1, x'.2.2.2.2) 4 = some (x'.1.2.2 1) from rfl, oB_some, if_pos hs]
          by_cases e : c = M
          · rw [if_pos (by rw [e])]
          · rw [if_neg (ni_ne (by omega) (by omega) e)]
            rcases hm with hm | hm
            · exact absurd hm e
            · obtain ⟨z, hz, z1, z2⟩ := nos_ask hI hm
              rw [z1, oB_some]
              by_cases z0 : z = 0
              · rw [if_pos (by rw [z0]; rfl)]
              · rw [if_neg (nI_ne0 (by omega) hz)]
                rcases z2 with z2 | ⟨j, hj, z2⟩
                · exact absurd z2 z0
                · rw [z2, oB_some, if_neg (nI_pos hj)]
    · -- text
      rw [if_neg (show ¬ nI a = 12 from ni_ne (a := a) (b := 12) (by omega) (by decide) e12)]
      obtain ⟨x1, t1, y1, y2, y3⟩ := types_ok x hT q
      have h1 : Ix x1 n k t1 := ⟨by rw [y2.1]; exact h.1, h.2.1.tr y2, y3⟩
      obtain ⟨x2, z1, z2⟩ := plays_ok h1
      rw [show F_L_types (x.1, x.2.1, x.2.2.1, x.2.2.2.1, x.2.2.2.2) q = some (1, x1) from y1, oB2_some, if_neg (by decide), show F_L_plays (x1.1, x1.2.1, x1.2.2.1, x1.2.2.2.1, x1.2.2.2.2) = some (1, x2) from z1, oB2_some, if_neg (by decide)]
      have g := z2.g y3
      exact ⟨x2, rfl, g.1, g.2.1, by rw [← y2.1]; exact g.2.2⟩
  · rw [if_neg (show ¬ (12 : Int32) ≤ nI a from nI_ge (a := a) (b := 12) (by omega) (by decide))]
    obtain ⟨v, x', s1, s2, s3⟩ := step_x h
    rw [show F_X3_step (x.1, x.2.1, x.2.2.1, x.2.2.2.1, x.2.2.2.2) = some (v, x') from s1, oB2_some]
    refine ⟨x', ?_, s2.g hT⟩
    rcases s3 with ⟨hv, hI, hns⟩ | hv | ⟨j, n', hj, hv, hI, hst, hs⟩
    · rw [if_neg (show ¬ 0 ≤ v by rw [hv]; decide), if_neg (show ¬ v = -1000003 by rw [hv]; decide), if_pos hv]
      obtain ⟨z, hz, z1, z2⟩ := nos_ask hI hns
      rw [z1, oB_some]
      by_cases z0 : z = 0
      · rw [if_pos (by rw [z0]; rfl)]
      · rw [if_neg (nI_ne0 (by omega) hz)]
        rcases z2 with z2 | ⟨j, hj, z2⟩
        · exact absurd z2 z0
        · rw [z2, oB_some, if_neg (nI_pos hj)]
    · rw [if_neg (show ¬ 0 ≤ v by rw [hv]; decide), if_pos hv]
    · have hn' := hI.cs.1
      rw [hv, if_pos (nI_pos' (by omega)), show F_X3_clauseOf (x'.1, x'.2.1, x'.2.2.1, x'.2.2.2.1, x'.2.2.2.2) (nI j) 1 = some (x'.1.1 2 j) from q_c1 (x := x') hI.cs.nn hj, oB_some, if_neg (show ¬ x'.1.1 2 j ≤ 0 by rcases hst with e | e <;> rw [e] <;> decide)]
      rw [show F_X3_count (x'.1, x'.2.1, x'.2.2.1, x'.2.2.2.1, x'.2.2.2.2) 4 = some (x'.1.2.2 1) from rfl, oB_some, if_pos hs]
theorem acts_ok {x : XS} {n k t : Nat} (h : Ix x n k t) (p q : Int32) : ∃ x', F_L_acts x p q = some (1, x') ∧ Eg x k x' := by
  have hT := h.2.2
  have h40 := h.1.cs.1
  obtain ⟨a, ha, ea⟩ := low_n p 16 (by decide) (by decide) (D := 16) rfl
  have q0 : F_X3_count (x.1, x.2.1, x.2.2.1, x.2.2.2.1, x.2.2.2.2) 0 = some (nI n) := q_n (x := x) h.1.cs.nn
  have blk := blk_ok h a ha q
  unfold F_L_acts
  rw [ea, oB_some, q0, oB_some]
  by_cases c6 : 6 ≤ a
  · rw [if_pos (show (6 : Int32) ≤ nI a from nI_le (a := 6) (b := a) c6 (by omega))]
    by_cases e6 : a = 6
    · -- rank
      rw [if_pos (show nI a = 6 by rw [e6]; rfl)]
      obtain ⟨A, hA, eA⟩ := low_n q 7 (by decide) (by decide) (D := 7) rfl
      obtain ⟨B, hB, eB⟩ := low_n (q >>> ((3 : Int32) &&& 31)) 7 (by decide) (by decide) (D := 7) rfl
      rw [eA, oB_some, eB, oB_some]
      obtain ⟨r, ρ, hW⟩ := h.1
      have rk : ∀ b, b < 6 → F_X3_count (x.1, x.2.1, x.2.2.1, x.2.2.2.1, x.2.2.2.2) (10 + nI b) = some (nI (r b)) := fun b hb => by
        rw [nI_10]
        exact q_rank (x := x) hW.2.2.1 hb
      by_cases a6 : A = 6
      · rw [if_pos (show nI A = 6 by rw [a6]; rfl), show F_X3_count (x.1, x.2.1, x.2.2.1, x.2.2.2.1, x.2.2.2.2) ((10 : Int32) + (0 : Int32)) = some (nI (r 0)) from rk 0 (by decide), oB_some, show F_X3_rank (x.1, x.2.1, x.2.2.1, x.2.2.2.1, x.2.2.2.2) (nI A) (nI B) = some (-1000001, x) from rank_bad x (Or.inl a6) hA hB, oB2_some, if_pos (show nI A = 6 by rw [a6]; rfl), if_pos rfl]
        exact ⟨x, rfl, (Ef.rf h).g hT⟩
      · have na : ¬ nI A = 6 := ni_ne (a := A) (b := 6) (by omega) (by decide) a6
        rw [if_neg na, rk A (by omega), oB_some]
        by_cases b6 : B = 6
        · rw [show F_X3_rank (x.1, x.2.1, x.2.2.1, x.2.2.2.1, x.2.2.2.2) (nI A) (nI B) = some (-1000001, x) from rank_bad x (Or.inr b6) hA hB, oB2_some, if_neg na, if_pos (show nI B = 6 by rw [b6]; rfl), if_pos rfl]
          exact ⟨x, rfl, (Ef.rf h).g hT⟩
        · obtain ⟨w, x', w1, w2, w3⟩ := rank_x (a := A) (b := B) h (by omega) (by omega)
          have e := rk A (by omega)
          rw [nI_10] at e
          have ew : nI w = nI (r A) := Option.some.inj (w1.symm.trans e)
          rw [show F_X3_rank (x.1, x.2.1, x.2.2.1, x.2.2.2.1, x.2.2.2.2) (nI A) (nI B) = some (nI w, x') from w2, oB2_some, if_neg na, if_neg (show ¬ nI B = 6 from ni_ne (a := B) (b := 6) (by omega) (by decide) b6), if_pos ew]
          exact ⟨x', rfl, w3.g hT⟩
    · rw [if_neg (show ¬ nI a = 6 from ni_ne (a := a) (b := 6) (by omega) (by decide) e6)]
      by_cases e7 : a = 7
      · -- set
        rw [if_pos (show nI a = 7 by rw [e7]; rfl)]
        obtain ⟨V, hV, eV⟩ := low_n q 11 (by decide) (by decide) (D := 11) rfl
        rw [eV, oB_some, show F_X3_count (x.1, x.2.1, x.2.2.1, x.2.2.2.1, x.2.2.2.2) 5 = some (x.1.2.2 2) from rfl, oB_some]
        by_cases v0 : V = 0
        · rw [show F_X3_set (x.1, x.2.1, x.2.2.1, x.2.2.2.1, x.2.2.2.2) (nI V) = some (-1000001, x) from set_bad x (Or.inl v0), oB2_some, if_pos (show nI V = 0 by rw [v0]; rfl), if_pos rfl]
          exact ⟨x, rfl, (Ef.rf h).g hT⟩
        · by_cases v1 : V = 10
          · rw [show F_X3_set (x.1, x.2.1, x.2.2.1, x.2.2.2.1, x.2.2.2.2) (nI V) = some (-1000001, x) from set_bad x (Or.inr v1), oB2_some, if_neg (nI_ne0 (by omega) (by omega)), if_pos (show nI V = 10 by rw [v1]; rfl), if_pos rfl]
            exact ⟨x, rfl, (Ef.rf h).g hT⟩
          · obtain ⟨x', w1, w2⟩ := set_x (g := V) h (by omega) (by omega)
            rw [show F_X3_set (x.1, x.2.1, x.2.2.1, x.2.2.2.1, x.2.2.2.2) (nI V) = some (x.1.2.2 2, x') from w1, oB2_some, if_neg (nI_ne0 (by omega) (by omega)), if_neg (show ¬ nI V = 10 from ni_ne (a := V) (b := 10) (by omega) (by decide) v1), if_pos rfl]
            exact ⟨x', rfl, w2.g hT⟩
      · rw [if_neg (show ¬ nI a = 7 from ni_ne (a := a) (b := 7) (by omega) (by decide) e7)]
        by_cases e8 : a = 8
        · rw [if_pos (show nI a = 8 by rw [e8]; rfl)]
          obtain ⟨V, hV, eV⟩ := low_n q 3 (by decide) (by decide) (D := 3) rfl
          rw [eV, oB_some]
          by_cases v0 : V = 0
          · obtain ⟨x', w1, w2, w3, w4⟩ := empty_x h
            rw [if_pos (show nI V = 0 by rw [v0]; rfl), show F_X3_empty (x.1, x.2.1, x.2.2.1, x.2.2.2.1, x.2.2.2.2) = some (nI n, x') from w1, oB2_some, if_pos rfl, show F_X3_count (x'.1, x'.2.1, x'.2.2.1, x'.2.2.2.1, x'.2.2.2.2) 0 = some (nI 0) from q_n (x := x') w3.cs.nn, oB_some, if_pos (show nI 0 = 0 from rfl), show F_X3_count (x'.1, x'.2.1, x'.2.2.1, x'.2.2.2.1, x'.2.2.2.2) 4 = some (x'.1.2.2 1) from rfl, oB_some, if_pos w4]
            exact ⟨x', rfl, w2.g hT⟩
          · rw [if_neg (nI_ne0 (by omega) (by omega))]
            exact blk
        · rw [if_neg (show ¬ nI a = 8 from ni_ne (a := a) (b := 8) (by omega) (by decide) e8)]
          exact blk
  · -- tell
    rw [if_neg (show ¬ (6 : Int32) ≤ nI a from nI_ge (a := a) (b := 6) (by omega) (by decide))]
    obtain ⟨A, hA, eA⟩ := low_n q 8 (by decide) (by decide) (D := 8) rfl
    obtain ⟨B, hB, eB⟩ := low_n (q >>> ((3 : Int32) &&& 31)) 10 (by decide) (by decide) (D := 10) rfl
    obtain ⟨C, hC, eC⟩ := low_n (q >>> ((7 : Int32) &&& 31)) 13 (by decide) (by decide) (D := 13) rfl
    rw [eA, oB_some, eB, oB_some, eC, oB_some, pow2 A (by omega), pow2 B (by omega), pow2 C (by omega), or_nI, or_nI]
    have pA := pow12 A (by omega)
    have pB := pow12 B (by omega)
    have hlo : C < 12 → (2 ^ A ||| 2 ^ B ||| 2 ^ C) < 4096 := fun hc => or12 (or12 pA pB) (pow12 C hc)
    have hhi : ¬ C < 12 → 4096 ≤ (2 ^ A ||| 2 ^ B ||| 2 ^ C) ∧ (2 ^ A ||| 2 ^ B ||| 2 ^ C) < 2 ^ 31 := fun hc => by
      have e : C = 12 := by omega
      subst e
      refine ⟨Nat.right_le_or, ?_⟩
      have h13 : (2 ^ A ||| 2 ^ B ||| 2 ^ 12) < 2 ^ 13 := Nat.or_lt_two_pow (Nat.lt_trans (or12 pA pB) (by decide)) (by decide)
      exact Nat.lt_trans h13 (by decide)
    generalize (2 ^ A ||| 2 ^ B ||| 2 ^ C) = m at hlo hhi
    by_cases hc : C < 12
    · have hm := hlo hc
      obtain ⟨v, x', w1, w2, w3⟩ := tell_x h hm
      rw [show F_X3_tell (x.1, x.2.1, x.2.2.1, x.2.2.2.1, x.2.2.2.2) (nI m) = some (v, x') from w1, oB2_some, if_pos (show nI m ≤ 4095 from nI_le (a := m) (b := 4095) (by omega) (by decide))]
      refine ⟨x', ?_, w2.g hT⟩
      have cnt : ∀ {z : Nat}, Iv x'.1 z → F_X3_count (x'.1, x'.2.1, x'.2.2.1, x'.2.2.2.1, x'.2.2.2.2) 0 = some (nI z) := fun hz => q_n (x := x') hz.cs.nn
      have neg : ∀ z : Int32, z < 0 → ¬ z = nI n := fun z hz e => by
        rw [e] at hz
        exact nI_pos (by omega) hz
      rcases w3 with ⟨hv, hI⟩ | ⟨hv, hh, hI⟩ | ⟨hv, hI⟩ | ⟨hv, hn⟩
      · rw [if_pos hv, cnt hI, oB_some, nI_1, if_pos rfl]
      · rw [if_neg (by rw [hv]; exact neg _ (by decide)), if_pos hv, show F_X3_share (x'.1, x'.2.1, x'.2.2.1, x'.2.2.2.1, x'.2.2.2.2) (nI m) = some 1065353216 from share_1 x' hm hh, oB_some, if_pos rfl, cnt hI, oB_some, if_pos rfl]
      · rw [if_neg (by rw [hv]; exact neg _ (by decide)), if_neg (show ¬ v = -1 by rw [hv]; decide), if_pos hv, cnt hI, oB_some, if_pos rfl]
      · rw [if_neg (by rw [hv]; exact neg _ (by decide)), if_neg (show ¬ v = -1 by rw [hv]; decide), if_neg (show ¬ v = -2 by rw [hv]; decide), if_pos hv, if_pos (show nI n = 40 by rw [hn]; rfl)]
    · obtain ⟨h1, h2⟩ := hhi hc
      rw [show F_X3_tell (x.1, x.2.1, x.2.2.1, x.2.2.2.1, x.2.2.2.2) (nI m) = some (-1000001, x) from tell_bad x h1 h2, oB2_some, if_neg (show ¬ nI m ≤ 4095 from nI_ge (a := 4095) (b := m) (by omega) h2), if_pos rfl]
      exact ⟨x, rfl, (Ef.rf h).g hT⟩
