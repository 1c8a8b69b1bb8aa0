/-! The text -/
def sc (i : Int32) : Prop := i = 59 ∨ i = 45 ∨ ∃ a, a < 6 ∧ i = nI (97 + a)
theorem aT {f : Nat → Int32} {k : Nat} (hk : k < 60) : F_X3_at f (lnT 0) (nI k) = some (f k) := at_in (n := 60) hk (by decide)
theorem pT {f : Nat → Int32} {k : Nat} {v : Int32} (hk : k < 60) : F_X3_put f (lnT 0) (nI k) v = some (upd f k v) := put_nI (n := 60) hk (by decide)
theorem letter {c : Int32} (h1 : ¬ c < 97) (h2 : ¬ (103 : Int32) ≤ c) : ∃ a, a < 6 ∧ c = nI (97 + a) := by
  have a1 : ¬ c.toInt < 97 := fun q => h1 (Int32.lt_iff_toInt_lt.mpr q)
  have a2 : ¬ 103 ≤ c.toInt := fun q => h2 (Int32.le_iff_toInt_le.mpr q)
  refine ⟨(c.toInt - 97).toNat, by omega, ?_⟩
  apply Int32.toInt_inj.mp
  rw [nI_toInt (by omega)]
  omega
theorem brk_loop {T : St} {t : Nat} (hT : Tt T t) : ∀ d f i (b : Int32), i + d = t → d < f → (∀ j, j < i → sc (T.1 0 j)) →
    (FL_X2_whereItBreaksOff_4 T f b (nI i) = some (-1) ∧ ∀ j, j < t → sc (T.1 0 j)) ∨ ∃ q, q ≤ t ∧ 0 < t ∧ FL_X2_whereItBreaksOff_4 T f b (nI i) = some (nI q) ∧ (q = t → ¬ T.1 0 (t - 1) = 59)
  | d, 0, _, _, _, h, _ => absurd h (by omega)
  | 0, f + 1, i, b, hi, _, hb => by
    have : i = t := by omega
    subst this
    have h60 := hT.1
    unfold FL_X2_whereItBreaksOff_4
    rw [hT.2, if_pos (end_le _)]
    by_cases h0 : i = 0
    · rw [if_pos (by rw [h0]; rfl)]
      exact Or.inl ⟨rfl, hb⟩
    · rw [if_neg (nI_ne0 (by omega) (by omega)), show nI i - 1 = nI (i - 1) from by rw [show (1 : Int32) = nI 1 from rfl, pk_sub (by omega)], aT (by omega), oB_some]
      by_cases h : T.1 0 (i - 1) = 59
      · rw [if_pos h]
        exact Or.inl ⟨rfl, hb⟩
      · rw [if_neg h]
        exact Or.inr ⟨i, Nat.le_refl _, by omega, rfl, fun _ => h⟩
  | d + 1, f + 1, i, b, hi, _, hb => by
    have h60 := hT.1
    have go := fun (b : Int32) (h : sc (T.1 0 i)) => brk_loop hT d f (i + 1) b (by omega) (by omega) (fun j hj => by
      rcases Nat.lt_succ_iff_lt_or_eq.mp hj with q | q
      · exact hb j q
      · subst q; exact h)
    have stop : ∃ q, q ≤ t ∧ 0 < t ∧ some (nI i) = some (nI q) ∧ (q = t → ¬ T.1 0 (t - 1) = 59) := ⟨i, by omega, by omega, rfl, fun e => absurd e (by omega)⟩
    unfold FL_X2_whereItBreaksOff_4
    rw [hT.2, if_neg (show ¬ nI t ≤ nI i from nI_ge (by omega) (by omega)), aT (by omega), oB_some, nI_1]
    by_cases h1 : T.1 0 i < 97
    · rw [if_pos h1]
      by_cases hb0 : b = 0
      · rw [if_pos hb0]
        by_cases h45 : T.1 0 i = 45
        · rw [if_pos h45, if_pos h45]
          exact go 1 (Or.inr (Or.inl h45))
        · rw [if_neg h45]
          by_cases h59 : T.1 0 i = 59
          · rw [if_pos h59, if_neg h45]
            exact go 0 (Or.inl h59)
          · rw [if_neg h59]
            exact Or.inr stop
      · rw [if_neg hb0]
        exact Or.inr stop
    · rw [if_neg h1]
      by_cases h2 : (103 : Int32) ≤ T.1 0 i
      · rw [if_pos h2]
        by_cases hb0 : b = 0
        · rw [if_pos hb0]
          by_cases h45 : T.1 0 i = 45
          · rw [if_pos h45, if_pos h45]
            exact go 1 (Or.inr (Or.inl h45))
          · rw [if_neg h45]
            by_cases h59 : T.1 0 i = 59
            · rw [if_pos h59, if_neg h45]
              exact go 0 (Or.inl h59)
            · rw [if_neg h59]
              exact Or.inr stop
        · rw [if_neg hb0]
          exact Or.inr stop
      · rw [if_neg h2]
        have hl := letter h1 h2
        by_cases h45 : T.1 0 i = 45
        · rw [if_pos h45]
          exact go 1 (Or.inr (Or.inl h45))
        · rw [if_neg h45]
          exact go 0 (Or.inr (Or.inr hl))
theorem brk_eq {T : St} {t : Nat} (hT : Tt T t) : (F_X2_whereItBreaksOff T = some (-1) ∧ ∀ j, j < t → sc (T.1 0 j)) ∨ ∃ q, q ≤ t ∧ 0 < t ∧ F_X2_whereItBreaksOff T = some (nI q) ∧ (q = t → ¬ T.1 0 (t - 1) = 59) :=
  brk_loop hT t fuel 0 0 (by omega) (by have := hT.1; unfold fuel; omega) (fun j hj => absurd hj (by omega))
theorem sta_loop {T : St} : ∀ i f, i ≤ 60 → i < f → ∃ s, s ≤ i ∧ FL_X2_startOfClause_4 T f (nI i - 1) = some (nI s) ∧ (s = 0 ∨ T.1 0 (s - 1) = 59)
  | i, 0, _, h => absurd h (by omega)
  | 0, f + 1, _, _ => by
    unfold FL_X2_startOfClause_4
    rw [if_pos (by decide)]
    exact ⟨0, Nat.le_refl _, rfl, Or.inl rfl⟩
  | i + 1, f + 1, hi, _ => by
    unfold FL_X2_startOfClause_4
    rw [nI_pred, if_neg (nI_pos (by omega)), aT (by omega), oB_some]
    by_cases h : T.1 0 i = 59
    · rw [if_pos h, nI_1]
      exact ⟨i + 1, Nat.le_refl _, rfl, Or.inr h⟩
    · rw [if_neg h]
      obtain ⟨s, h1, h2, h3⟩ := sta_loop (T := T) i f (by omega) (by omega)
      exact ⟨s, by omega, h2, h3⟩
/-- the fault's place and cause -/
theorem fault_x {x : XS} {t : Nat} (hT : Tt x.2.2.2.2 t) : (F_X3_fault x 0 = some (-1000004) ∧ F_X3_fault x 1 = some (-1000004) ∧ F_X2_whereItBreaksOff x.2.2.2.2 = some (-1) ∧ ∀ j, j < t → sc (x.2.2.2.2.1 0 j)) ∨ ∃ s c, s < t ∧ s + c ≤ t ∧ F_X3_fault x 0 = some (nI s) ∧ F_X3_fault x 1 = some (nI c) ∧ ∃ q, q < 2 ^ 31 ∧ F_X2_whereItBreaksOff x.2.2.2.2 = some (nI q) := by
  have h60 := hT.1
  unfold F_X3_fault
  rw [if_neg (by decide), if_pos (by decide), if_neg (by decide), if_pos (by decide)]
  rcases brk_eq hT with ⟨h1, h2⟩ | ⟨q, hq, h0, h1, h2⟩
  · rw [h1, oB_some, if_pos rfl, oB_some, if_pos rfl]
    exact Or.inl ⟨rfl, rfl, rfl, h2⟩
  · obtain ⟨s, s1, s2, s3⟩ := sta_loop (T := x.2.2.2.2) q fuel (by omega) (by unfold fuel; omega)
    have e : F_X2_startOfClause x.2.2.2.2 (nI q) = some (nI s) := s2
    rw [h1, oB_some, if_neg (ge0 (by omega)), oB_some, if_neg (ge0 (by omega)), e, oB_some, if_pos rfl, oB_some, if_neg (by decide)]
    refine Or.inr ⟨s, q - s, ?_, by omega, rfl, by rw [pk_sub s1], q, by omega, rfl⟩
    rcases Nat.lt_or_ge s t with z | z
    · exact z
    · have es : s = t := by omega
      have eq : q = t := by omega
      rcases s3 with z2 | z2
      · omega
      · rw [es] at z2
        exact absurd z2 (h2 eq)
theorem one_b : ∀ a, a < 6 → ∀ s, s < 2 → ((1 : Int32) <<< ((((2 : Int32) * (nI (97 + a) - 97)) + nI s) &&& 31)) = nI (2 ^ (2 * a + s)) ∧ 2 ^ (2 * a + s) < 4096 := by decide +kernel
theorem or12 {a b : Nat} (ha : a < 4096) (hb : b < 4096) : a ||| b < 4096 := Nat.or_lt_two_pow (n := 12) ha hb
theorem bt_loop {C : Nat → St} {π : Nat → Nat} {K : Int32} {T : St} {n t : Nat} (hT : Tt T t) (hc : ∀ j, j < t → sc (T.1 0 j)) :
    ∀ d f i c m s (u : St), i + d = t → d < f → Iv u (n + c) → m < 4096 → s < 2 → ∃ v u', FL_X3_bringText_9 f (u, C, π, K, T) (nI c) (nI m) (nI s) (nI i) = some (v, (u', C, π, K, T)) ∧ (v = -1000003 ∨ ∃ c2, v = nI c2 ∧ Iv u' (n + c2))
  | d, 0, _, _, _, _, _, _, h, _, _, _ => absurd h (by omega)
  | 0, f + 1, i, c, m, s, u, hi, _, hI, hm, hs => by
    have : i = t := by omega
    subst this
    unfold FL_X3_bringText_9
    dsimp only
    rw [hT.2, if_pos (end_le _)]
    exact ⟨_, u, rfl, Or.inr ⟨c, rfl, hI⟩⟩
  | d + 1, f + 1, i, c, m, s, u, hi, _, hI, hm, hs => by
    have h60 := hT.1
    have h40 := hI.cs.1
    unfold FL_X3_bringText_9
    dsimp only
    rw [hT.2, if_neg (show ¬ nI t ≤ nI i from nI_ge (by omega) (by omega)), aT (by omega), oB_some, nI_1 i]
    by_cases h59 : T.1 0 i = 59
    · rw [if_pos h59]
      obtain ⟨r, ρ, hW⟩ := hI
      obtain ⟨v, u', n', c1, _, _, _, _, _, c7, c8⟩ := bring_ok hW (p0 := nI m) (p1 := -1) (p2 := -1) (p3 := -1) ⟨m, hm, rfl⟩ (Or.inl ⟨rfl, rfl⟩)
      rw [c1, oB2_some]
      rcases c8 with ⟨_, hv, _⟩ | ⟨_, hv⟩
      · rw [if_pos hv]
        exact ⟨_, u', rfl, Or.inl rfl⟩
      · have same : (v = -1 ∨ v = -2) → n' = n + c → ∃ v2 u2, (if v = -1000003 then some ((-1000003 : Int32), (u', C, π, K, T)) else if v < 0 then FL_X3_bringText_9 f (u', C, π, K, T) (nI c + 0) 0 (nI s) (nI (i + 1)) else FL_X3_bringText_9 f (u', C, π, K, T) (nI c + 1) 0 (nI s) (nI (i + 1))) = some (v2, (u2, C, π, K, T)) ∧ (v2 = -1000003 ∨ ∃ c2, v2 = nI c2 ∧ Iv u2 (n + c2)) := fun hv hn => by
          have hlt : v < 0 := by rcases hv with e | e <;> rw [e] <;> decide
          have hne : ¬ v = -1000003 := by rcases hv with e | e <;> rw [e] <;> decide
          rw [if_neg hne, if_pos hlt, show nI c + 0 = nI c from Int32.add_zero _]
          exact bt_loop hT hc d f (i + 1) c 0 s u' (by omega) (by omega) (by rw [← hn]; exact Iv.of c7) (by omega) hs
        rcases hv with ⟨hn, e, _⟩ | ⟨hn, e⟩ | ⟨hn, e⟩
        · exact same (Or.inl e) hn
        · exact same (Or.inr e) hn
        · have h3 := m3_ne (k := n + c) (by omega) e
          rw [if_neg h3.1, if_neg h3.2, nI_1]
          exact bt_loop hT hc d f (i + 1) (c + 1) 0 s u' (by omega) (by omega) (by rw [show n + (c + 1) = n' by omega]; exact Iv.of c7) (by omega) hs
    · rw [if_neg h59]
      by_cases h45 : T.1 0 i = 45
      · rw [if_pos h45]
        exact bt_loop hT hc d f (i + 1) c m 1 u (by omega) (by omega) hI hm (by omega)
      · rw [if_neg h45]
        rcases hc i (by omega) with e | e | ⟨a, ha, e⟩
        · exact absurd e h59
        · exact absurd e h45
        · obtain ⟨b1, b2⟩ := one_b a ha s hs
          rw [e, b1, or_nI]
          exact bt_loop hT hc d f (i + 1) c _ 0 u (by omega) (by omega) hI (or12 hm b2) (by omega)
theorem play_x {x : XS} {n k t : Nat} (h : Ix x n k t) (hB : F_X2_whereItBreaksOff x.2.2.2.2 = some (-1)) (hc : ∀ j, j < t → sc (x.2.2.2.2.1 0 j)) : ∃ v x', F_X3_play x = some (v, x') ∧ Ef x k x' ∧ (v = -1000003 ∨ ∃ c, v = nI c ∧ n + c ≤ 40 ∧ Iv x'.1 (n + c)) := by
  obtain ⟨x1, b1, b2, b3, bK, bB⟩ := begin_ok h
  have hT := h.2.2
  obtain ⟨v, u', r1, r2⟩ := bt_loop (C := x1.2.1) (π := x1.2.2.1) (K := x1.2.2.2.1) (T := x.2.2.2.2) (n := n) hT hc t fuel 0 0 0 0 x.1 (by omega) (by have := hT.1; unfold fuel; omega) h.1 (by omega) (by omega)
  have e1 : x1 = (x.1, x1.2.1, x1.2.2.1, x1.2.2.2.1, x.2.2.2.2) := by
    obtain ⟨M1, C1, π1, K1, T1⟩ := x1
    have q1 : M1 = x.1 := b2
    have q2 : T1 = x.2.2.2.2 := congrArg (fun z => z.2.2) b3
    rw [q1, q2]
  have hbt : F_X3_bringText (x1.1, x1.2.1, x1.2.2.1, x1.2.2.2.1, x1.2.2.2.2) = some (v, (u', x1.2.1, x1.2.2.1, x1.2.2.2.1, x1.2.2.2.2)) := by
    have q2 : x1.2.2.2.2 = x.2.2.2.2 := congrArg (fun z => z.2.2) b3
    unfold F_X3_bringText
    rw [b2, q2]
    exact r1
  unfold F_X3_play
  rw [hB, oB_some, if_pos rfl, show F_X0_putAside (x.1, x.2.1, x.2.2.1, x.2.2.2.1, x.2.2.2.2) = some x1 from b1, oB_some, hbt, oB2_some]
  rcases r2 with hv | ⟨c, hv, hI⟩
  · obtain ⟨x2, d1, _, d3⟩ := bB u' v (by rw [hv]; decide)
    refine ⟨_, x2, ?_, d3, Or.inl hv⟩
    rw [show F_X3_settle ((u', x1.2.1, x1.2.2.1, x1.2.2.2.1, x1.2.2.2.2).1, (u', x1.2.1, x1.2.2.1, x1.2.2.2.1, x1.2.2.2.2).2.1, (u', x1.2.1, x1.2.2.1, x1.2.2.2.1, x1.2.2.2.2).2.2.1, (u', x1.2.1, x1.2.2.1, x1.2.2.2.1, x1.2.2.2.2).2.2.2.1, (u', x1.2.1, x1.2.2.1, x1.2.2.2.1, x1.2.2.2.2).2.2.2.2) v = some (v, x2) from d1]
    rfl
  · have h40 := hI.cs.1
    obtain ⟨x2, d1, d2, d3⟩ := bK u' (n + c) v hI (by rw [hv]; exact gt_err (by omega))
    refine ⟨_, x2, ?_, d3, Or.inr ⟨c, hv, h40, by rw [d2]; exact hI⟩⟩
    rw [show F_X3_settle ((u', x1.2.1, x1.2.2.1, x1.2.2.2.1, x1.2.2.2.2).1, (u', x1.2.1, x1.2.2.1, x1.2.2.2.1, x1.2.2.2.2).2.1, (u', x1.2.1, x1.2.2.1, x1.2.2.2.1, x1.2.2.2.2).2.2.1, (u', x1.2.1, x1.2.2.1, x1.2.2.2.1, x1.2.2.2.2).2.2.2.1, (u', x1.2.1, x1.2.2.1, x1.2.2.2.1, x1.2.2.2.2).2.2.2.2) v = some (v, x2) from d1]
    rfl
theorem play_bad {x : XS} {q : Nat} (hq : q < 2 ^ 31) (hB : F_X2_whereItBreaksOff x.2.2.2.2 = some (nI q)) : F_X3_play x = some (-1000002, x) := by
  unfold F_X3_play
  rw [hB, oB_some, if_neg (ge0 hq)]
/-! the law's text -/
def Tr (x x' : XS) : Prop := x'.1 = x.1 ∧ x'.2.1 = x.2.1 ∧ x'.2.2.1 = x.2.2.1 ∧ x'.2.2.2.1 = x.2.2.2.1
theorem Tr.tr {x y z : XS} (h : Tr x y) (h2 : Tr y z) : Tr x z := ⟨h2.1.trans h.1, h2.2.1.trans h.2.1, h2.2.2.1.trans h.2.2.1, h2.2.2.2.trans h.2.2.2⟩
theorem type_x {x : XS} {t c : Nat} (hT : Tt x.2.2.2.2 t) (ht : t < 60) (h1 : 32 ≤ c) (h2 : c ≤ 126) : ∃ x', F_X3_type x (nI c) = some (nI (t + 1), x') ∧ Tr x x' ∧ Tt x'.2.2.2.2 (t + 1) := by
  unfold F_X3_type F_X2_add
  rw [if_neg (show ¬ nI c < 32 from nI_nlt (a := c) (b := 32) h1 (by omega)), if_pos (show nI c ≤ 126 from nI_le (a := c) (b := 126) h2 (by decide)), hT.2, if_pos (show nI t < 60 from nI_lt (a := t) (b := 60) ht (by decide)), pT ht, oB_some, oB2_some, if_neg (by decide), nI_1]
  exact ⟨_, rfl, ⟨rfl, rfl, rfl, rfl⟩, by omega, rfl⟩
