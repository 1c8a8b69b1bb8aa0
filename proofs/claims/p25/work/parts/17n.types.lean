/-! The law types and plays -/
theorem low_n (p : Int32) (d : Nat) (h0 : 0 < d) (hd : d < 2 ^ 31) {D : Int32} (e : D = nI d) : ∃ m, m < d ∧ F_L_low p D = some (nI m) := by
  rw [e]
  exact low_ok p h0 hd
theorem type_c {x : XS} {t : Nat} {c : Nat} {C : Int32} (e : C = nI c) (hT : Tt x.2.2.2.2 t) (ht : t < 60) (h1 : 32 ≤ c) (h2 : c ≤ 126) : ∃ v x', F_X3_type (x.1, x.2.1, x.2.2.1, x.2.2.2.1, x.2.2.2.2) C = some (v, x') ∧ ¬ v ≤ 0 ∧ Tr x x' ∧ Tt x'.2.2.2.2 (t + 1) := by
  obtain ⟨x', a, b, c⟩ := type_x hT ht h1 h2
  rw [e]
  exact ⟨_, x', a, nI_nle (n := t + 1) (by omega) (by omega), b, c⟩
theorem ty_loop (kk : XS → Int32 → Int32 → Int32 → Int32 → Option (Int32 × XS)) (x1 x2 x4 x5 : Int32) : ∀ d f i t (x : XS), i + d = 3 → d < f → Tt x.2.2.2.2 t → t + 2 * d + 1 ≤ 60 →
    ∃ x' t', FL_L_types_41 kk f x x1 x2 1 x4 x5 (nI i) = kk x' x1 x2 1 (x4 + 1) ∧ Tr x x' ∧ Tt x'.2.2.2.2 t' ∧ t' ≤ t + 2 * d + 1
  | d, 0, _, _, _, _, h, _, _ => absurd h (by omega)
  | d, f + 1, i, t, x, hi, hf, hT, ht => by
    obtain ⟨b, hb, eb⟩ := low_n x5 2 (by decide) (by decide) (D := 2) rfl
    rw [FL_L_types_41, eb, oB_some, show (2 : Int32) + nI b = nI (2 + b) from nI_add 2 b, if_neg (show ¬ (1 : Int32) = 0 by decide)]
    -- the clause's end
    have out : ∃ x' t', (oB (F_L_low (x1 >>> ((23 : Int32) &&& 31)) 7) fun v12 => if v12 = 0 then if x4 = x2 - 1 then kk (x.1, x.2.1, x.2.2.1, x.2.2.2.1, x.2.2.2.2) x1 x2 1 (x4 + 1) else oB2 (F_X3_type (x.1, x.2.1, x.2.2.1, x.2.2.2.1, x.2.2.2.2) 59) fun v20 w21 => if v20 ≤ 0 then kk (w21.1, w21.2.1, w21.2.2.1, w21.2.2.2.1, w21.2.2.2.2) x1 x2 0 (x4 + 1) else kk (w21.1, w21.2.1, w21.2.2.1, w21.2.2.2.1, w21.2.2.2.2) x1 x2 1 (x4 + 1)
        else oB2 (F_X3_type (x.1, x.2.1, x.2.2.1, x.2.2.2.1, x.2.2.2.2) 59) fun v15 w16 => if v15 ≤ 0 then kk (w16.1, w16.2.1, w16.2.2.1, w16.2.2.2.1, w16.2.2.2.2) x1 x2 0 (x4 + 1) else kk (w16.1, w16.2.1, w16.2.2.1, w16.2.2.2.1, w16.2.2.2.2) x1 x2 1 (x4 + 1)) = kk x' x1 x2 1 (x4 + 1) ∧ Tr x x' ∧ Tt x'.2.2.2.2 t' ∧ t' ≤ t + 2 * d + 1 := by
      obtain ⟨m, hm, em⟩ := low_n (x1 >>> ((23 : Int32) &&& 31)) 7 (by decide) (by decide) (D := 7) rfl
      obtain ⟨v, x', y1, y2, y3, y4⟩ := type_c (x := x) (t := t) (c := 59) (C := 59) rfl hT (by omega) (by decide) (by decide)
      rw [em, oB_some, y1, oB2_some, if_neg y2]
      by_cases h0 : nI m = 0
      · rw [if_pos h0]
        by_cases h1 : x4 = x2 - 1
        · rw [if_pos h1]
          exact ⟨x, t, rfl, ⟨rfl, rfl, rfl, rfl⟩, hT, by omega⟩
        · rw [if_neg h1]
          exact ⟨x', t + 1, rfl, y3, y4, by omega⟩
      · rw [if_neg h0]
        exact ⟨x', t + 1, rfl, y3, y4, by omega⟩
    by_cases h2 : 2 + b ≤ i
    · rw [if_pos (nI_le h2 (by omega))]
      exact out
    · rw [if_neg (show ¬ nI (2 + b) ≤ nI i from nI_ge (by omega) (by omega))]
      obtain ⟨d', rfl⟩ : ∃ d', d = d' + 1 := ⟨d - 1, by omega⟩
      have go : ∀ (y : XS) (s : Nat), Tr x y → Tt y.2.2.2.2 s → s ≤ t + 2 → ∃ x' t', FL_L_types_41 kk f y x1 x2 1 x4 x5 (nI i + 1) = kk x' x1 x2 1 (x4 + 1) ∧ Tr x x' ∧ Tt x'.2.2.2.2 t' ∧ t' ≤ t + 2 * (d' + 1) + 1 := fun y s hy hs h3 => by
        rw [nI_1]
        obtain ⟨x', t', z1, z2, z3, z4⟩ := ty_loop kk x1 x2 x4 x5 d' f (i + 1) s y (by omega) (by omega) hs (by omega)
        exact ⟨x', t', z1, hy.tr z2, z3, by omega⟩
      obtain ⟨m2, hm2, e2⟩ := low_n (x5 >>> (nI i &&& 31)) 2 (by decide) (by decide) (D := 2) rfl
      obtain ⟨m9, hm9, e9⟩ := low_n (x1 >>> ((25 : Int32) &&& 31)) 9 (by decide) (by decide) (D := 9) rfl
      obtain ⟨m7, hm7, e7⟩ := low_n (x5 >>> (((2 : Int32) * nI i) &&& 31)) 7 (by decide) (by decide) (D := 7) rfl
      obtain ⟨m4, hm4, e4⟩ := low_n (x5 >>> (((2 : Int32) * nI i) &&& 31)) 4 (by decide) (by decide) (D := 4) rfl
      -- a letter at the end of y's text
      have lt : ∀ (y : XS) (s : Nat), Tr x y → Tt y.2.2.2.2 s → s ≤ t + 1 → ∃ x' t', (oB (F_L_low (x1 >>> ((25 : Int32) &&& 31)) 9) fun v28 => if v28 = 0 then oB (F_L_low (x5 >>> (((2 : Int32) * nI i) &&& 31)) 7) fun v37 => oB2 (F_X3_type (y.1, y.2.1, y.2.2.1, y.2.2.2.1, y.2.2.2.2) (97 + v37)) fun v39 w40 => if v39 ≤ 0 then FL_L_types_41 kk f (w40.1, w40.2.1, w40.2.2.1, w40.2.2.2.1, w40.2.2.2.2) x1 x2 0 x4 x5 (nI i + 1) else FL_L_types_41 kk f (w40.1, w40.2.1, w40.2.2.1, w40.2.2.2.1, w40.2.2.2.2) x1 x2 1 x4 x5 (nI i + 1)
          else oB (F_L_low (x5 >>> (((2 : Int32) * nI i) &&& 31)) 4) fun v31 => oB2 (F_X3_type (y.1, y.2.1, y.2.2.1, y.2.2.2.1, y.2.2.2.2) (97 + v31)) fun v33 w34 => if v33 ≤ 0 then FL_L_types_41 kk f (w34.1, w34.2.1, w34.2.2.1, w34.2.2.2.1, w34.2.2.2.2) x1 x2 0 x4 x5 (nI i + 1) else FL_L_types_41 kk f (w34.1, w34.2.1, w34.2.2.1, w34.2.2.2.1, w34.2.2.2.2) x1 x2 1 x4 x5 (nI i + 1)) = kk x' x1 x2 1 (x4 + 1) ∧ Tr x x' ∧ Tt x'.2.2.2.2 t' ∧ t' ≤ t + 2 * (d' + 1) + 1 := fun y s hy hs h3 => by
        rw [e9, oB_some, e7, oB_some, e4, oB_some]
        by_cases h0 : nI m9 = 0
        · rw [if_pos h0]
          obtain ⟨v, w, y1, y2, y3, y4⟩ := type_c (x := y) (t := s) (c := 97 + m7) (C := 97 + nI m7) (nI_add 97 m7) hs (by omega) (by omega) (by omega)
          rw [y1, oB2_some, if_neg y2]
          exact go w (s + 1) (hy.tr y3) y4 (by omega)
        · rw [if_neg h0]
          obtain ⟨v, w, y1, y2, y3, y4⟩ := type_c (x := y) (t := s) (c := 97 + m4) (C := 97 + nI m4) (nI_add 97 m4) hs (by omega) (by omega) (by omega)
          rw [y1, oB2_some, if_neg y2]
          exact go w (s + 1) (hy.tr y3) y4 (by omega)
      rw [e2, oB_some]
      by_cases h0 : nI m2 = 0
      · rw [if_pos h0]
        exact lt x t ⟨rfl, rfl, rfl, rfl⟩ hT (by omega)
      · rw [if_neg h0]
        obtain ⟨v, w, y1, y2, y3, y4⟩ := type_c (x := x) (t := t) (c := 45) (C := 45) rfl hT (by omega) (by decide) (by decide)
        rw [y1, oB2_some, if_neg y2]
        exact lt w (t + 1) y3 y4 (by omega)
theorem tk_loop (x1 : Int32) {n : Nat} (hn : n < 5) : ∀ d f i t (x : XS), i + d = n → d < f → Tt x.2.2.2.2 t → t ≤ 7 * i → ∃ x' t', FL_L_types_22 f x x1 (nI n) 1 (nI i) = some (1, x') ∧ Tr x x' ∧ Tt x'.2.2.2.2 t'
  | d, 0, _, _, _, _, h, _, _ => absurd h (by omega)
  | 0, f + 1, i, t, x, hi, _, hT, _ => by
    have : i = n := by omega
    subst this
    rw [FL_L_types_22, if_pos (end_le _)]
    unfold oZ
    rw [if_pos (by decide)]
    exact ⟨x, t, rfl, ⟨rfl, rfl, rfl, rfl⟩, hT⟩
  | d + 1, f + 1, i, t, x, hi, _, hT, ht => by
    rw [FL_L_types_22, if_neg (show ¬ nI n ≤ nI i from nI_ge (by omega) (by omega))]
    obtain ⟨x', t', z1, z2, z3, z4⟩ := ty_loop (FL_L_types_22 f) x1 (nI n) (nI i) (x1 >>> (((3 : Int32) + ((5 : Int32) * nI i)) &&& 31)) 3 fuel 0 t x rfl (by decide) hT (by omega)
    obtain ⟨x2, t2, q1, q2, q3⟩ := tk_loop x1 hn d f (i + 1) t' x' (by omega) (by omega) z3 (by omega)
    refine ⟨x2, t2, ?_, z2.tr q2, q3⟩
    rw [← q1, ← nI_1]
    exact z1
theorem types_ok (x : XS) {t : Nat} (hT : Tt x.2.2.2.2 t) (p : Int32) : ∃ x' t', F_L_types x p = some (1, x') ∧ Tr x x' ∧ Tt x'.2.2.2.2 t' := by
  obtain ⟨n, hn, en⟩ := low_n p 5 (by decide) (by decide) (D := 5) rfl
  have h60 := hT.1
  unfold F_L_types
  rw [en, oB_some]
  unfold F_X3_clearText
  rw [hT.2, oB2_some, if_neg (nI_pos (by omega))]
  obtain ⟨x', t', z1, z2, z3⟩ := tk_loop p hn n fuel 0 0 (x.1, x.2.1, x.2.2.1, x.2.2.2.1, (x.2.2.2.2.1, x.2.2.2.2.2.1, va_up x.2.2.2.2.2.2 0 (0 : Int32))) (by omega) (by unfold fuel; omega) ⟨by omega, rfl⟩ (by omega)
  exact ⟨x', t', z1, ⟨z2.1, z2.2.1, z2.2.2.1, z2.2.2.2⟩, z3⟩
/-- what an act of the law leaves -/
def Eg (x : XS) (k : Nat) (x' : XS) : Prop := (∃ n', Iv x'.1 n') ∧ (∃ t', Tt x'.2.2.2.2 t') ∧ ((Hx x' k ∧ (k = 4 ∨ Ag x'.1 x.1)) ∨ (Hx x' (k + 1) ∧ Ag (x'.2.1 (x'.2.2.1 k)) x.1))
theorem Ef.g {x x' : XS} {k t : Nat} (h : Ef x k x') (hT : Tt x.2.2.2.2 t) : Eg x k x' := ⟨h.1, ⟨t, by rw [h.2.1]; exact hT⟩, h.2.2⟩
theorem Hx.tr {x x' : XS} {k : Nat} (h : Hx x k) (q : Tr x x') : Hx x' k := ⟨h.1, by rw [q.2.2.2]; exact h.2.1, by rw [q.2.2.1]; exact h.2.2.1, by rw [q.2.1, q.2.2.1]; exact h.2.2.2⟩
theorem plays_ok {x : XS} {n k t : Nat} (h : Ix x n k t) : ∃ x', F_L_plays x = some (1, x') ∧ Ef x k x' := by
  have hT := h.2.2
  have h60 := hT.1
  have hn := h.1.cs.1
  have q9 : ∀ y : XS, y.2.2.2.2 = x.2.2.2.2 → F_X3_count (y.1, y.2.1, y.2.2.1, y.2.2.2.1, y.2.2.2.2) 9 = some (nI t) := fun y hy => by
    show some (y.2.2.2.2.2.2 0) = _
    rw [hy, hT.2]
  have q0 : F_X3_count (x.1, x.2.1, x.2.2.1, x.2.2.2.1, x.2.2.2.2) 0 = some (nI n) := q_n (x := x) h.1.cs.nn
  unfold F_L_plays
  rw [q9 x rfl, q0]
  rcases fault_x hT with ⟨f0, f1, fB, fc⟩ | ⟨s, c, hs, hc, f0, f1, q, hq, fB⟩
  · obtain ⟨v, x', p1, p2, p3⟩ := play_x h fB fc
    have e0 : F_X3_fault (x.1, x.2.1, x.2.2.1, x.2.2.2.1, x.2.2.2.2) 0 = some (-1000004) := f0
    have e1 : F_X3_fault (x.1, x.2.1, x.2.2.1, x.2.2.2.1, x.2.2.2.2) 1 = some (-1000004) := f1
    have e2 : F_X3_play (x.1, x.2.1, x.2.2.1, x.2.2.2.1, x.2.2.2.2) = some (v, x') := p1
    rw [e0, e1, e2, oB_some, oB_some, oB_some, oB_some, oB2_some, if_pos rfl, if_pos rfl, q9 x' p2.2.1]
    refine ⟨x', ?_, p2⟩
    rcases p3 with hv | ⟨c, hv, h40, hI⟩
    · rw [if_pos hv, if_pos (show (-1000004 : Int32) < 0 by decide), oB_some, if_pos rfl]
    · have h3 := m3_ne (k := c) (by omega) hv
      have qn : F_X3_count (x'.1, x'.2.1, x'.2.2.1, x'.2.2.2.1, x'.2.2.2.2) 0 = some (nI (n + c)) := q_n (x := x') hI.cs.nn
      rw [if_neg h3.1, if_neg h3.2, qn, oB_some, hv, nI_add, if_pos rfl, if_pos (show (-1000004 : Int32) < 0 by decide), oB_some, if_pos rfl]
  · have e0 : F_X3_fault (x.1, x.2.1, x.2.2.1, x.2.2.2.1, x.2.2.2.2) 0 = some (nI s) := f0
    have e1 : F_X3_fault (x.1, x.2.1, x.2.2.1, x.2.2.2.1, x.2.2.2.2) 1 = some (nI c) := f1
    have e2 : F_X3_play (x.1, x.2.1, x.2.2.1, x.2.2.2.1, x.2.2.2.2) = some (-1000002, x) := play_bad hq fB
    have ne : ∀ z : Nat, z < 61 → ¬ nI z = -1000004 := fun z hz e => by
      have := nI_pos (n := z) (by omega)
      rw [e] at this
      exact this (by decide)
    rw [e0, e1, e2, oB_some, oB_some, oB_some, oB_some, oB2_some, if_neg (ne s (by omega))]
    rw [if_neg (nI_pos (n := s) (by omega)), if_neg (show ¬ nI t ≤ nI s from nI_ge hs (by omega)), if_neg (nI_pos (n := c) (by omega)), nI_add, if_neg (nI_nlt (a := t) (b := s + c) hc (by omega)), if_pos rfl, q9 x rfl, oB_some, if_pos rfl]
    exact ⟨x, rfl, Ef.rf h⟩
