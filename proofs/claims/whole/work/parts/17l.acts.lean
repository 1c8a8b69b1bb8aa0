/-! Resolving, steps, runs -/
theorem gdep_loop {u u' : St} (h : u'.1 0 = u.1 0) (c : Int32) : ∀ f i, FL_X1_greatestOf_2 u' f c i = FL_X1_greatestOf_2 u f c i
  | 0, i => rfl
  | f + 1, i => by
    unfold FL_X1_greatestOf_2
    rw [h]
    simp only [gdep_loop h c f]
theorem gdep {u u' : St} (h : u'.1 0 = u.1 0) (c : Int32) : F_X1_greatestOf u' c = F_X1_greatestOf u c := gdep_loop h c fuel 5
theorem or_nI (a b : Nat) : nI a ||| nI b = nI (a ||| b) := by
  apply Int32.toBitVec_inj.mp
  rw [Int32.toBitVec_or]
  show BitVec.ofNat 32 a ||| BitVec.ofNat 32 b = BitVec.ofNat 32 (a ||| b)
  apply BitVec.eq_of_getLsbD_eq
  intro i hi
  simp [hi]
theorem small12 {a b : Nat} (ha : a < 4096) (hb : b < 4096) (z : Int32) : ∃ m, m < 4096 ∧ (nI a ||| nI b) &&& z = nI m := by
  obtain ⟨w, _, e⟩ := b_rep z
  refine ⟨(a ||| b) &&& w, ?_, ?_⟩
  · have h1 : a ||| b < 2 ^ 12 := Nat.or_lt_two_pow ha hb
    exact Nat.lt_of_le_of_lt Nat.and_le_left h1
  · rw [e, or_nI, fa_and]
theorem mask_eq : ∀ L, L < 12 → ((1 : Int32) <<< (nI L &&& 31)) ||| ((1 : Int32) <<< ((nI L ^^^ 1) &&& 31)) = (3 : Int32) <<< ((nI (L / 2) * 2) &&& 31) := by decide +kernel
theorem flag_eq : ∀ L, L < 12 → (decide (nI L ^^^ 1 ≤ nI L)) = decide (L % 2 = 1) := by decide +kernel
theorem half_eq : ∀ L, L < 12 → nI L >>> ((1 : Int32) &&& 31) = nI (L / 2) := by decide +kernel
theorem not_self : ∀ L, L < 12 → ¬ nI L = nI L ^^^ 1 := by decide +kernel
def mk (L : Nat) : Int32 := (3 : Int32) <<< ((nI (L / 2) * 2) &&& 31)
theorem m3_ne {v : Int32} {k : Nat} (hk : k < 2 ^ 31) (h : v = nI k) : ¬ v = -1000003 ∧ ¬ v < 0 := by
  rw [h]
  refine ⟨fun e => ?_, nI_pos hk⟩
  have := nI_pos (n := k) hk
  rw [e] at this
  exact this (by decide)
theorem part_eq {u y : St} {n k i L : Nat} (H : Rc u (y.1 0) n) (hk : k < n) (hi : i < n) (hL : L < 12) (hG : F_X1_greatestOf u (u.1 1 k) = some (nI L)) :
    ∃ G, F_X1_greatestOf u (u.1 1 i) = some G ∧ F_X4_arePartners y (nI k) (nI i) = some (bI (decide (u.1 2 i = 1) && decide (G = nI L ^^^ 1))) := by
  have gk : F_X4_greatest y (u.1 1 k) = some (nI L) := by
    rcases gr_cl H hk with ⟨_, a, b⟩ | ⟨L', _, _, a, b⟩
    · rw [hG] at a
      exact absurd (Option.some.inj a) (ge0 (by omega))
    · rw [hG] at a
      rw [b, ← Option.some.inj a]
  have gi : ∃ G, F_X1_greatestOf u (u.1 1 i) = some G ∧ F_X4_greatest y (u.1 1 i) = some G := by
    rcases gr_cl H hi with ⟨_, a, b⟩ | ⟨L', _, _, a, b⟩
    · exact ⟨_, a, b⟩
    · exact ⟨_, a, b⟩
  obtain ⟨G, g1, g2⟩ := gi
  refine ⟨G, g1, ?_⟩
  have h1 := H.lt hk
  have h2 := H.lt hi
  unfold F_X4_arePartners
  rw [H.o0 hk, oB_some, gk, oB_some]
  by_cases e : i = k
  · subst e
    rw [if_pos rfl]
    rw [hG] at g1
    rw [← Option.some.inj g1, decide_eq_false (not_self L hL), Bool.and_false]
    rfl
  · rw [if_neg (fun q => e ((nI_eq (by omega) (by omega)).mp q)), H.o1 hi, oB_some]
    by_cases hs : u.1 2 i = 1
    · rw [if_pos hs, H.o0 hi, oB_some, g2, oB_some, decide_eq_true hs]
      by_cases hg : G = nI L ^^^ 1
      · rw [if_pos hg, decide_eq_true hg]; rfl
      · rw [if_neg hg, decide_eq_false hg]; rfl
    · rw [if_neg hs, decide_eq_false hs]
      rfl
/-- the resolvent of k and i and whence it comes -/
theorem resol_eq {u y : St} {n k i L : Nat} (H : Rc u (y.1 0) n) (hk : k < n) (hi : i < n) (hL : L < 12) (hG : F_X1_greatestOf u (u.1 1 k) = some (nI L)) :
    F_X4_resolves y (nI k) (nI i) = F_X4_comes y ((u.1 1 k ||| u.1 1 i) &&& (mk L ^^^ (-1))) (if L % 2 = 1 then nI i else nI k) (if L % 2 = 1 then nI k else nI i) (nI (L / 2)) := by
  have gk : F_X4_greatest y (u.1 1 k) = some (nI L) := by
    rcases gr_cl H hk with ⟨_, a, b⟩ | ⟨L', _, _, a, b⟩
    · rw [hG] at a
      exact absurd (Option.some.inj a) (ge0 (by omega))
    · rw [hG] at a
      rw [b, ← Option.some.inj a]
  have tr : ∀ o : Option (Int32 × St), (oB2 o fun v w => some (v, (w.1, w.2.1, w.2.2))) = o := fun o => by
    cases o <;> rfl
  unfold F_X4_resolves mk
  rw [H.o0 hk, oB_some, gk, oB_some, rem2 (show L < 2 ^ 31 by omega), oB_some, oB_some, oB_some, H.o0 hi, oB_some, oB_some, div2 (show L < 2 ^ 31 by omega), oB_some, oB_some, oB_some, oB_some, tr, tr]
  rcases Nat.mod_two_eq_zero_or_one L with h | h
  · rw [h, if_pos nI_0, if_neg (show ¬ 0 = 1 by decide), if_neg (show ¬ 0 = 1 by decide)]
  · rw [h, if_neg (show ¬ nI 1 = 0 by decide), if_pos rfl, if_pos rfl]
theorem res_loop {k L n0 : Nat} (hL : L < 12) (hk : k < n0) : ∀ d f g i n (u y : St), Rs u (y.1 0) n → n0 ≤ n → i + d = n0 → d + 1 < f → d < g → F_X1_greatestOf u (u.1 1 k) = some (nI L) →
    ∃ (b : Bool) (u' y' : St) (n' : Nat), FL_X1_resolveWithDone_47 f u (nI k) (nI L) (nI L ^^^ 1) (bI (!decide (L % 2 = 1))) (mk L) (nI n0) (nI i) = some (bI b, u') ∧ FL_X4_steps_38 g y (nI k) (nI n0) (nI i) = some (if b then nI k else -1000003, y') ∧ Rs u' (y'.1 0) n' ∧ Fr y y'
  | d, 0, _, _, _, _, _, _, _, _, h, _, _ => absurd h (by omega)
  | d, _ + 1, 0, _, _, _, _, _, _, _, _, h, _ => absurd h (by omega)
  | 0, f + 1, g + 1, i, n, u, y, H, hn0, hi, _, _, _ => by
    have : i = n0 := by omega
    subst this
    rw [FL_X1_resolveWithDone_47, FL_X4_steps_38, if_pos (end_le _), if_pos (end_le _)]
    exact ⟨true, u, y, n, rfl, rfl, H, Fr.rf y⟩
  | d + 1, f + 1, g + 1, i, n, u, y, H, hn0, hi, hf, _, hG => by
    have hin : i < n := by omega
    have hkn : k < n := by omega
    have h40 := H.1.1
    have hge : ¬ nI n0 ≤ nI i := nI_ge (by omega) (by omega)
    obtain ⟨G, g1, g2⟩ := part_eq H.1 hkn hin hL hG
    have skip : ∃ (b : Bool) (u' y' : St) (n' : Nat), FL_X1_resolveWithDone_47 f u (nI k) (nI L) (nI L ^^^ 1) (bI (!decide (L % 2 = 1))) (mk L) (nI n0) (nI (i + 1)) = some (bI b, u') ∧ FL_X4_steps_38 g y (nI k) (nI n0) (nI (i + 1)) = some (if b then nI k else -1000003, y') ∧ Rs u' (y'.1 0) n' ∧ Fr y y' :=
      res_loop hL hk d f g (i + 1) n u y H hn0 (by omega) (by omega) (by omega) hG
    rw [FL_X1_resolveWithDone_47, FL_X4_steps_38, if_neg hge, if_neg hge, H.1.dr hkn, H.1.ke hkn, oB_some, oB_some, nI_1]
    by_cases hd : u.1 2 k = 2
    · rw [decide_eq_true hd]
      exact ⟨true, u, y, n, rfl, rfl, H, Fr.rf y⟩
    rw [decide_eq_false hd, if_pos (show bI false = 0 from rfl), if_neg (show ¬ bI (!false) = 0 by decide), aS (by decide) (H.1.lt hin), oB_some, g2, oB_some]
    by_cases hs : u.1 2 i = 1
    · rw [if_pos hs, aS (by decide) (H.1.lt hin), oB_some, g1, oB_some, decide_eq_true hs]
      by_cases hg : G = nI L ^^^ 1
      · rw [if_pos hg, decide_eq_true hg, if_neg (show ¬ bI (true && true) = 0 by decide), aS (by decide) (H.1.lt hkn), oB_some, oB_some, resol_eq H.1 hkn hin hL hG, half_eq L hL]
        obtain ⟨m1, hm1, e1, _⟩ := (H.1.cl hkn).1
        obtain ⟨m2, hm2, e2, _⟩ := (H.1.cl hin).1
        have hp : ∃ m, m < 4096 ∧ (u.1 1 k ||| u.1 1 i) &&& (mk L ^^^ (-1)) = nI m := by rw [e1, e2]; exact small12 hm1 hm2 _
        have hP : Pa n (if L % 2 = 1 then nI i else nI k) (if L % 2 = 1 then nI k else nI i) (nI (L / 2)) := by
          by_cases h : L % 2 = 1
          · rw [if_pos h, if_pos h]
            exact Or.inr ⟨i, k, L / 2, hin, hkn, by omega, rfl, rfl, rfl⟩
          · rw [if_neg h, if_neg h]
            exact Or.inr ⟨k, i, L / 2, hkn, hin, by omega, rfl, rfl, rfl⟩
        obtain ⟨v, u', y', n', b1, b2, b3, b4, b5, b6, b7, b8⟩ := bring_eq H hp hP
        rw [b2, oB2_some]
        have cls : (if bI (!decide (L % 2 = 1)) = 0 then
              if bI (!decide (L % 2 = 1)) = 0 then oB2 (F_X1_bring u ((u.1 1 k ||| u.1 1 i) &&& (mk L ^^^ (-1))) (nI i) (nI k) (nI (L / 2))) fun v24 w25 => if v24 = -1000003 then some ((0 : Int32), (w25.1, w25.2.1, w25.2.2)) else FL_X1_resolveWithDone_47 f (w25.1, w25.2.1, w25.2.2) (nI k) (nI L) (nI L ^^^ 1) (bI (!decide (L % 2 = 1))) (mk L) (nI n0) (nI (i + 1))
              else oB2 (F_X1_bring u ((u.1 1 k ||| u.1 1 i) &&& (mk L ^^^ (-1))) (nI i) (nI i) (nI (L / 2))) fun v28 w29 => if v28 = -1000003 then some ((0 : Int32), (w29.1, w29.2.1, w29.2.2)) else FL_X1_resolveWithDone_47 f (w29.1, w29.2.1, w29.2.2) (nI k) (nI L) (nI L ^^^ 1) (bI (!decide (L % 2 = 1))) (mk L) (nI n0) (nI (i + 1))
            else if bI (!decide (L % 2 = 1)) = 0 then oB2 (F_X1_bring u ((u.1 1 k ||| u.1 1 i) &&& (mk L ^^^ (-1))) (nI k) (nI k) (nI (L / 2))) fun v33 w34 => if v33 = -1000003 then some ((0 : Int32), (w34.1, w34.2.1, w34.2.2)) else FL_X1_resolveWithDone_47 f (w34.1, w34.2.1, w34.2.2) (nI k) (nI L) (nI L ^^^ 1) (bI (!decide (L % 2 = 1))) (mk L) (nI n0) (nI (i + 1))
              else oB2 (F_X1_bring u ((u.1 1 k ||| u.1 1 i) &&& (mk L ^^^ (-1))) (nI k) (nI i) (nI (L / 2))) fun v37 w38 => if v37 = -1000003 then some ((0 : Int32), (w38.1, w38.2.1, w38.2.2)) else FL_X1_resolveWithDone_47 f (w38.1, w38.2.1, w38.2.2) (nI k) (nI L) (nI L ^^^ 1) (bI (!decide (L % 2 = 1))) (mk L) (nI n0) (nI (i + 1)))
            = (if v = -1000003 then some ((0 : Int32), u') else FL_X1_resolveWithDone_47 f u' (nI k) (nI L) (nI L ^^^ 1) (bI (!decide (L % 2 = 1))) (mk L) (nI n0) (nI (i + 1))) := by
          by_cases h : L % 2 = 1
          · rw [if_pos h, if_pos h] at b1
            rw [decide_eq_true h, if_pos (show bI (!true) = 0 from rfl), if_pos (show bI (!true) = 0 from rfl), b1]
            rfl
          · rw [if_neg h, if_neg h] at b1
            rw [decide_eq_false h, if_neg (show ¬ bI (!false) = 0 by decide), if_neg (show ¬ bI (!false) = 0 by decide), b1]
            rfl
        rw [cls]
        have hG' : F_X1_greatestOf u' (u'.1 1 k) = some (nI L) := by rw [gdep b6, b7 k hkn]; exact hG
        rcases b8 with ⟨en, hv⟩ | ⟨en, hv, hl, h0⟩
        · by_cases h3 : v = -1000003
          · rw [if_pos h3, if_pos h3]
            exact ⟨false, u', y', n', rfl, by rw [h3]; rfl, b3, b4⟩
          · have hneg : v < 0 := by
              rcases hv with h | h | h
              · rw [h]; decide
              · rw [h]; decide
              · exact absurd h h3
            rw [if_neg h3, if_neg h3, if_pos hneg]
            obtain ⟨b, u2, y2, n2, r1, r2, r3, r4⟩ := res_loop hL hk d f g (i + 1) n' u' y' b3 (by omega) (by omega) (by omega) (by omega) hG'
            exact ⟨b, u2, y2, n2, r1, r2, r3, b4.tr r4⟩
        · have hv2 := m3_ne (by omega) hv
          have hn'40 := b3.1.1
          rw [if_neg hv2.1, if_neg hv2.1, if_neg hv2.2]
          have hof : F_X4_of (y'.1, y'.2.1, y'.2.2) v 0 = some ((u.1 1 k ||| u.1 1 i) &&& (mk L ^^^ (-1))) := by
            rw [hv]
            have := b3.1.o0 (k := n) (by omega)
            rw [hl] at this
            exact this
          rw [hof, oB_some]
          by_cases hz : (u.1 1 k ||| u.1 1 i) &&& (mk L ^^^ (-1)) = 0
          · rw [if_pos hz]
            refine ⟨true, u', y', n', ?_, rfl, b3, b4⟩
            obtain ⟨f', rfl⟩ : ∃ f', f = f' + 1 := ⟨f - 1, by omega⟩
            rw [FL_X1_resolveWithDone_47]
            by_cases hend : nI n0 ≤ nI (i + 1)
            · rw [if_pos hend]
              rfl
            · rw [if_neg hend, b3.1.dr (show k < n' by omega), oB_some, decide_eq_true (h0 hz k hkn)]
              rfl
          · rw [if_neg hz]
            obtain ⟨b, u2, y2, n2, r1, r2, r3, r4⟩ := res_loop hL hk d f g (i + 1) n' u' y' b3 (by omega) (by omega) (by omega) (by omega) hG'
            exact ⟨b, u2, y2, n2, r1, r2, r3, b4.tr r4⟩
      · rw [if_neg hg, decide_eq_false hg, if_pos (show bI (true && false) = 0 from rfl)]
        exact skip
    · rw [if_neg hs, decide_eq_false hs, if_pos (show bI (false && decide (G = nI L ^^^ 1)) = 0 from rfl)]
      exact skip
