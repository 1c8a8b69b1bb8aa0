/-! The law answers 1, whatever the script -/
def Iy (x : XS) : Prop := ∃ n k t, Ix x n k t
theorem rem_some (a : Int32) {b : Int32} (h : ¬ b = 0) : ∃ v, iRem a b = some v := by
  unfold iRem
  rw [if_neg h]
  exact ⟨_, rfl⟩
section Law
variable {lt : Int32 → Option Int32} {kk : XS → Int32 → Int32 → Option Int32}
theorem j267 (y : XS) (i : Nat) : FJ_L_law_267 lt kk y 1 (nI i) = kk y 1 (nI (i + 1)) := by
  unfold FJ_L_law_267
  rw [nI_1]
theorem j221 {y : XS} (h : Iy y) (i : Nat) : ∃ y', FJ_L_law_221 lt kk y 1 (nI i) = kk y' 1 (nI (i + 1)) ∧ Iy y' := by
  obtain ⟨n, k, t, hI, hH, hT⟩ := id h
  have h4 := hH.1
  unfold FJ_L_law_221
  obtain ⟨v, ev⟩ := rem_some (nI i) (b := 5) (by decide)
  rw [if_neg (show ¬ (1 : Int32) = 0 by decide), ev, oB_some]
  by_cases c : v = 4
  · rw [if_pos c, show F_X3_count (y.1, y.2.1, y.2.2.1, y.2.2.2.1, y.2.2.2.2) 8 = some y.2.2.2.1 from rfl, oB_some, hH.2.1]
    cases k with
    | zero =>
      have u0 := undo_0 hH
      rw [show F_X3_undo (y.1, y.2.1, y.2.2.1, nI 0, y.2.2.2.2) = some (-1000002, y) from (by rw [← hH.2.1]; exact u0), oB2_some, if_pos (show nI 0 = 0 from rfl), if_pos rfl]
      exact ⟨y, j267 y i, h⟩
    | succ k =>
      obtain ⟨y', u1, u2, u3, u4, m, u5⟩ := undo_s hH
      rw [show F_X3_undo (y.1, y.2.1, y.2.2.1, nI (k + 1), y.2.2.2.2) = some (nI k, y') from (by rw [← hH.2.1]; exact u1), oB2_some, if_neg (nI_ne0 (by omega) (by omega)), if_pos (show nI k = nI (k + 1) - 1 by rw [nI_pred])]
      exact ⟨y', j267 y' i, m, k, t, u5, u3, by rw [u4]; exact hT⟩
  · rw [if_neg c]
    exact ⟨y, j267 y i, h⟩
theorem j171 {x x' : XS} {n k : Nat} {D : Int64} (hI : Iv x.1 n) (hD : ∀ z : XS, Ag z.1 x.1 → F_L_digest z = some D) (h4 : k ≤ 4) (hE : Eg x k x') {k' : Nat} (hk : x'.2.2.2.1 = nI k') (hk' : k' ≤ 4) (i : Nat) (q : Int32) : ∃ y', FJ_L_law_171 lt kk x' 1 (nI i) q D (nI k) (nI k') = kk y' 1 (nI (i + 1)) ∧ Iy y' := by
  obtain ⟨⟨n', hI'⟩, ⟨t', hT'⟩, hc⟩ := hE
  have hy : Iy x' := by
    rcases hc with ⟨h, _⟩ | ⟨h, _⟩
    · exact ⟨n', k, t', hI', h, hT'⟩
    · exact ⟨n', k + 1, t', hI', h, hT'⟩
  unfold FJ_L_law_171
  rw [if_neg (show ¬ (1 : Int32) = 0 by decide), nI_1]
  by_cases e : nI k' = nI (k + 1)
  · rw [if_pos e]
    have ek : k' = k + 1 := (nI_eq (by omega) (by omega)).mp e
    rcases hc with ⟨h, _⟩ | ⟨h, hA⟩
    · have := h.2.1
      rw [hk] at this
      have := (nI_eq (a := k') (b := k) (by omega) (by omega)).mp this
      omega
    · obtain ⟨m, hm, em⟩ := low_n (q >>> ((8 : Int32) &&& 31)) 2 (by decide) (by decide) (D := 2) rfl
      rw [em, oB_some]
      by_cases c : nI m = 0
      · rw [if_pos c]
        obtain ⟨y', u1, u2, u3, u4, z, u5⟩ := undo_s h
        rw [show F_X3_undo (x'.1, x'.2.1, x'.2.2.1, x'.2.2.2.1, x'.2.2.2.2) = some (nI k, y') from u1, oB2_some, if_pos rfl, show F_L_digest (y'.1, y'.2.1, y'.2.2.1, y'.2.2.2.1, y'.2.2.2.2) = some D from hD y' (u2.tr hA), oB_some, if_pos (lg_self D)]
        exact j221 ⟨z, k, t', u5, u3, by rw [u4]; exact hT'⟩ i
      · rw [if_neg c]
        exact j221 hy i
  · rw [if_neg e]
    exact j221 hy i
theorem j121 {x x' : XS} {n k : Nat} {D : Int64} (hI : Iv x.1 n) (hD : ∀ z : XS, Ag z.1 x.1 → F_L_digest z = some D) (h4 : k ≤ 4) (hE : Eg x k x') (i : Nat) (q : Int32) : ∃ y', FJ_L_law_121 lt kk x' 1 (nI i) q D (nI k) = kk y' 1 (nI (i + 1)) ∧ Iy y' := by
  unfold FJ_L_law_121
  rcases id hE.2.2 with ⟨h, ha⟩ | ⟨h, hA⟩
  · have hk := h.2.1
    have go := j171 (lt := lt) (kk := kk) hI hD h4 hE hk h4 i q
    rw [show F_X3_count (x'.1, x'.2.1, x'.2.2.1, x'.2.2.2.1, x'.2.2.2.2) 8 = some (nI k) from congrArg some hk, oB_some, if_neg (show ¬ (1 : Int32) = 0 by decide), nI_1, if_pos rfl]
    by_cases c : k = 4
    · rw [if_pos (show nI k = 4 by rw [c]; rfl)]
      exact go
    · rw [if_neg (show ¬ nI k = 4 from ni_ne (a := k) (b := 4) (by omega) (by decide) c)]
      rcases ha with ha | ha
      · exact absurd ha c
      · rw [show F_L_digest (x'.1, x'.2.1, x'.2.2.1, x'.2.2.2.1, x'.2.2.2.2) = some D from hD x' ha, oB_some, if_pos (lg_self D)]
        exact go
  · have hk := h.2.1
    have h5 := h.1
    have go := j171 (lt := lt) (kk := kk) hI hD h4 hE hk h5 i q
    rw [show F_X3_count (x'.1, x'.2.1, x'.2.2.1, x'.2.2.2.1, x'.2.2.2.2) 8 = some (nI (k + 1)) from congrArg some hk, oB_some, if_neg (show ¬ (1 : Int32) = 0 by decide), nI_1, if_neg (ni_ne (a := k + 1) (b := k) (by omega) (by omega) (by omega)), if_pos rfl]
    exact go
theorem law_it (hlt : ∀ i : Int32, ¬ i < 0 → ∃ v, lt i = some v) : ∀ d f i (x : XS), i + d = 24 → d < f → Iy x → FL_L_law_32 lt f x 1 (nI i) = some 1
  | d, 0, _, _, _, h, _ => absurd h (by omega)
  | 0, f + 1, i, x, hi, _, hx => by
    have : i = 24 := by omega
    subst this
    obtain ⟨n, k, t, hI, _⟩ := hx
    rw [FL_L_law_32, if_pos (show (24 : Int32) ≤ nI 24 by decide), if_neg (show ¬ (1 : Int32) = 0 by decide), show F_L_holds (x.1, x.2.1, x.2.2.1, x.2.2.2.1, x.2.2.2.2) = some 1 from holds_ok hI, oB_some, if_neg (show ¬ (1 : Int32) = 0 by decide)]
  | d + 1, f + 1, i, x, hi, _, hx => by
    obtain ⟨n, k, t, hI, hH, hT⟩ := id hx
    obtain ⟨p, ep⟩ := hlt (nI (2 * i)) (nI_pos (by omega))
    obtain ⟨q, eq⟩ := hlt (nI (2 * i + 1)) (nI_pos (by omega))
    obtain ⟨D, d1, d2⟩ := dg hI
    have ih : ∀ y, Iy y → FL_L_law_32 lt f y 1 (nI (i + 1)) = some 1 := fun y hy => law_it hlt d f (i + 1) y (by omega) (by omega) hy
    have fin : ∀ {x' : XS}, Eg x k x' → FJ_L_law_121 lt (FL_L_law_32 lt f) x' 1 (nI i) q D (nI k) = some 1 := fun {x'} hE => by
      obtain ⟨y', j1, j2⟩ := j121 (lt := lt) (kk := FL_L_law_32 lt f) hI d2 hH.1 hE i q
      rw [j1]
      exact ih y' j2
    obtain ⟨w, ew⟩ := rem_some (nI i) (b := 4) (by decide)
    have rest : ∀ {x' : XS}, Eg x k x' → (if (1 : Int32) = 0 then FJ_L_law_121 lt (FL_L_law_32 lt f) (x'.1, x'.2.1, x'.2.2.1, x'.2.2.2.1, x'.2.2.2.2) 0 (nI i) q D (nI k) else oB (iRem (nI i) 4) fun v58 => if v58 = 3 then oB (F_L_holds (x'.1, x'.2.1, x'.2.2.1, x'.2.2.2.1, x'.2.2.2.2)) fun v60 => if v60 = 0 then FJ_L_law_121 lt (FL_L_law_32 lt f) (x'.1, x'.2.1, x'.2.2.1, x'.2.2.2.1, x'.2.2.2.2) 0 (nI i) q D (nI k) else FJ_L_law_121 lt (FL_L_law_32 lt f) (x'.1, x'.2.1, x'.2.2.1, x'.2.2.2.1, x'.2.2.2.2) 1 (nI i) q D (nI k) else FJ_L_law_121 lt (FL_L_law_32 lt f) (x'.1, x'.2.1, x'.2.2.1, x'.2.2.2.1, x'.2.2.2.2) 1 (nI i) q D (nI k)) = some 1 := fun {x'} hE => by
      rw [if_neg (show ¬ (1 : Int32) = 0 by decide), ew, oB_some]
      obtain ⟨n', hI'⟩ := hE.1
      by_cases c : w = 3
      · rw [if_pos c, show F_L_holds (x'.1, x'.2.1, x'.2.2.1, x'.2.2.2.1, x'.2.2.2.2) = some 1 from holds_ok hI', oB_some, if_neg (show ¬ (1 : Int32) = 0 by decide)]
        exact fin hE
      · rw [if_neg c]
        exact fin hE
    rw [FL_L_law_32, if_neg (show ¬ (24 : Int32) ≤ nI i from nI_ge (a := i) (b := 24) (by omega) (by decide)), if_neg (show ¬ (1 : Int32) = 0 by decide), show (2 : Int32) * nI i = nI (2 * i) from pk_mul 2 i, nI_1, ep, oB_some, eq, oB_some]
    rw [show F_L_digest (x.1, x.2.1, x.2.2.1, x.2.2.2.1, x.2.2.2.2) = some D from d1, oB_some, show F_X3_count (x.1, x.2.1, x.2.2.1, x.2.2.2.1, x.2.2.2.2) 8 = some x.2.2.2.1 from rfl, oB_some]
    by_cases c6 : 6 ≤ i
    · rw [if_pos (show (6 : Int32) ≤ nI i from nI_le (a := 6) (b := i) c6 (by omega))]
      obtain ⟨x', a1, a2⟩ := acts_ok ⟨hI, hH, hT⟩ p q
      rw [show F_L_acts (x.1, x.2.1, x.2.2.1, x.2.2.2.1, x.2.2.2.2) p q = some (1, x') from a1, oB2_some, hH.2.1]
      exact rest a2
    · rw [if_neg (show ¬ (6 : Int32) ≤ nI i from nI_ge (a := i) (b := 6) (by omega) (by decide))]
      obtain ⟨x', a1, a2⟩ := acts_ok ⟨hI, hH, hT⟩ (p &&& (-16)) q
      rw [show F_L_acts (x.1, x.2.1, x.2.2.1, x.2.2.2.1, x.2.2.2.2) (p &&& (-16)) q = some (1, x') from a1, oB2_some, hH.2.1]
      exact rest a2
end Law
theorem new_ok : Ix xI 0 0 0 := by
  refine ⟨⟨fun a => a, fun a => a, ⟨by omega, rfl, ⟨4, by omega, by omega, rfl⟩, fun k hk => absurd hk (by omega)⟩, fun k hk => absurd hk (by omega), ⟨fun a ha => ⟨ha, rfl, trivial⟩, fun i hi => ⟨hi, rfl, ?_⟩⟩, fun i j c R hi => absurd hi (by omega)⟩, ⟨by omega, rfl, ⟨fun j hj => hj, fun i j _ _ e => e⟩, fun j hj => absurd hj (by omega)⟩, by omega, rfl⟩
  rcases (show i = 0 ∨ i = 1 ∨ i = 2 ∨ i = 3 ∨ i = 4 ∨ i = 5 by omega) with rfl | rfl | rfl | rfl | rfl | rfl <;> rfl
/-- the law answers 1, whatever the script -/
theorem law_true (lt : Int32 → Option Int32) (hlt : ∀ i : Int32, ¬ i < 0 → ∃ v, lt i = some v) : F_L_law lt xI = some 1 := by
  have h := new_ok
  unfold F_L_law
  rw [show F_L_holds (xI.1, xI.2.1, xI.2.2.1, xI.2.2.2.1, xI.2.2.2.2) = some 1 from holds_ok h.1, oB_some, if_neg (show ¬ (1 : Int32) = 0 by decide), show F_X3_undo (xI.1, xI.2.1, xI.2.2.1, xI.2.2.2.1, xI.2.2.2.2) = some (-1000002, xI) from undo_0 h.2.1, oB2_some, if_pos rfl]
  exact law_it hlt 24 fuel 0 xI rfl (by decide) ⟨0, 0, 0, h⟩
