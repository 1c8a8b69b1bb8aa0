/-! Copies, the history -/
def Ag (u v : St) : Prop := (∀ j, j < 7 → ∀ i, i < lnS j → u.1 j i = v.1 j i) ∧ (∀ i, i < 40 → u.2.1 i = v.2.1 i) ∧ ∀ j, j < 5 → u.2.2 j = v.2.2 j
theorem Rs.cg {u u' : St} {s s' : Nat → Int32} {n : Nat} (H : Rs u s n) (ha : Ag u' u) (hs : ∀ i, i < 251 → s' i = s i) : Rs u' s' n := by
  obtain ⟨⟨h1, h2, h3, h4, h5, h6, h7, h8, ⟨r, ρ, hr⟩, hc⟩, he⟩ := H
  obtain ⟨a1, a2, a3⟩ := ha
  have row : ∀ j, 1 ≤ j → j ≤ 6 → ∀ k, k < n → u'.1 j k = u.1 j k := fun j q1 q2 k hk => a1 j (by omega) k (by rw [lnS_p (by omega)]; omega)
  refine ⟨⟨h1, by rw [a3 0 (by omega)]; exact h2, by rw [hs 0 (by omega)]; exact h3, by rw [hs 1 (by omega), a3 1 (by omega)]; exact h4, by rw [hs 2 (by omega), a3 2 (by omega)]; exact h5, by rw [hs 3 (by omega), a3 3 (by omega)]; exact h6, by rw [hs 4 (by omega), a3 4 (by omega)]; exact h7, by rw [a3 2 (by omega)]; exact h8, ⟨r, ρ, fun a ha => by rw [hs (5 + a) (by omega)]; exact hr.1 a ha, fun i hi => by rw [a1 0 (by omega) i hi]; exact hr.2 i hi⟩, fun k hk => (hc k hk).congr (fun j q1 q2 => row j q1 q2 k hk) (a2 k (by omega)) (fun w hw => hs _ (by omega))⟩, fun k hk h0 => ?_⟩
  rw [row 1 (by omega) (by omega) k hk] at h0
  obtain ⟨e1, e2⟩ := he k hk h0
  exact ⟨e1, by rw [row 2 (by omega) (by omega) k hk]; exact e2⟩
theorem cp_ok {α : Type} {n : Nat} (hn : n < 2 ^ 31) (f g : Nat → α) : ∃ w, aCp f n g n 0 0 (if (Int32.ofNat n) < (Int32.ofNat n) then (Int32.ofNat n) else (Int32.ofNat n)) = some w ∧ ∀ i, i < n → w i = f i := by
  have e : (if (Int32.ofNat n) < (Int32.ofNat n) then (Int32.ofNat n) else (Int32.ofNat n)) = nI n := by
    split <;> rfl
  rw [e]
  unfold aCp
  have h0 : (0 : Int32).toNatClampNeg = 0 := rfl
  rw [if_pos ⟨by decide, by decide, nI_pos hn, by rw [h0, nI_clamp hn]; omega, by rw [h0, nI_clamp hn]; omega⟩, h0, nI_clamp hn]
  refine ⟨_, rfl, fun i hi => ?_⟩
  rw [pk_cpy_in (by omega) (by omega)]
  congr 1
  omega
theorem cpR (f g : Nat → Int32) (j : Nat) : ∃ w, F_X3_copyRow f (lnS j) g (lnS j) = some w ∧ ∀ i, i < lnS j → w i = f i := by
  obtain ⟨w, h1, h2⟩ := cp_ok (n := lnS j) (by unfold lnS; split <;> decide) f g
  refine ⟨w, ?_, h2⟩
  unfold F_X3_copyRow
  rw [h1]
  rfl
theorem cpL (f g : Nat → Int64) : ∃ w, F_X3_copyLongRow f (lnS 7) g (lnS 7) = some w ∧ ∀ i, i < 40 → w i = f i := by
  obtain ⟨w, h1, h2⟩ := cp_ok (n := lnS 7) (by decide) f g
  refine ⟨w, ?_, h2⟩
  unfold F_X3_copyLongRow
  rw [h1]
  rfl
theorem copy_eq (u v : St) : ∃ w, F_X1_copyFrom u v = some w ∧ Ag w v := by
  unfold F_X1_copyFrom
  obtain ⟨w0, e0, c0⟩ := cpR (v.1 0) (u.1 0) 0
  rw [e0, oB_some]
  obtain ⟨w1, e1, c1⟩ := cpR (v.1 1) ((va_up u.1 0 w0) 1) 1
  rw [e1, oB_some]
  obtain ⟨w2, e2, c2⟩ := cpR (v.1 2) ((va_up (va_up u.1 0 w0) 1 w1) 2) 2
  rw [e2, oB_some]
  obtain ⟨w3, e3, c3⟩ := cpR (v.1 3) ((va_up (va_up (va_up u.1 0 w0) 1 w1) 2 w2) 3) 3
  rw [e3, oB_some]
  obtain ⟨w4, e4, c4⟩ := cpR (v.1 4) ((va_up (va_up (va_up (va_up u.1 0 w0) 1 w1) 2 w2) 3 w3) 4) 4
  rw [e4, oB_some]
  obtain ⟨w5, e5, c5⟩ := cpR (v.1 5) ((va_up (va_up (va_up (va_up (va_up u.1 0 w0) 1 w1) 2 w2) 3 w3) 4 w4) 5) 5
  rw [e5, oB_some]
  obtain ⟨w6, e6, c6⟩ := cpR (v.1 6) ((va_up (va_up (va_up (va_up (va_up (va_up u.1 0 w0) 1 w1) 2 w2) 3 w3) 4 w4) 5 w5) 6) 6
  rw [e6, oB_some]
  obtain ⟨wl, el, cl⟩ := cpL v.2.1 u.2.1
  rw [el, oB_some]
  refine ⟨_, rfl, fun j hj i hi => ?_, cl, fun j hj => ?_⟩
  · rcases (show j = 0 ∨ j = 1 ∨ j = 2 ∨ j = 3 ∨ j = 4 ∨ j = 5 ∨ j = 6 by omega) with h | h | h | h | h | h | h <;> subst h
    · exact c0 i hi
    · exact c1 i hi
    · exact c2 i hi
    · exact c3 i hi
    · exact c4 i hi
    · exact c5 i hi
    · exact c6 i hi
  · rcases (show j = 0 ∨ j = 1 ∨ j = 2 ∨ j = 3 ∨ j = 4 by omega) with h | h | h | h | h <;> subst h <;> rfl
def Pi (π : Nat → Nat) : Prop := (∀ j, j < 5 → π j < 5) ∧ ∀ i j, i < 5 → j < 5 → π i = π j → i = j
def Hi (C : Nat → St) (π : Nat → Nat) (past : Nat → Int32) (k : Nat) : Prop := ∀ j, j < k → ∃ m, Rs (C (π j)) (fun i => past (251 * j + i)) m
def Tx (T y : St) (t : Nat) : Prop := t ≤ 60 ∧ T.2.2 0 = nI t ∧ y.2.2 1 = nI t ∧ ∀ i, i < t → T.1 0 i = y.1 3 i ∧ ∃ c, 32 ≤ c ∧ c ≤ 126 ∧ y.1 3 i = nI c
def Rl (x : XS) (y : St) : Prop := ∃ n k t, Rs x.1 (y.1 0) n ∧ k ≤ 4 ∧ x.2.2.2.1 = nI k ∧ y.2.2 0 = nI k ∧ Pi x.2.2.1 ∧ Hi x.2.1 x.2.2.1 (y.1 2) k ∧ Tx x.2.2.2.2 y t
/-- in an operation that acts: what was is put aside -/
def Md (x : XS) (y : St) : Prop := ∃ k t n0, k ≤ 4 ∧ x.2.2.2.1 = nI k ∧ y.2.2 0 = nI k ∧ Pi x.2.2.1 ∧ Hi x.2.1 x.2.2.1 (y.1 2) k ∧ Tx x.2.2.2.2 y t ∧ Rs (x.2.1 (x.2.2.1 k)) (y.1 1) n0
theorem Tx.fr {T y y' : St} {t : Nat} (h : Tx T y t) (h3 : y'.1 3 = y.1 3) (h1 : y'.2.2 1 = y.2.2 1) : Tx T y' t := by
  unfold Tx at h ⊢
  rw [h3, h1]
  exact h
theorem Md.fr {x x' : XS} {y y' : St} (h : Md x y) (hx : x'.2 = x.2) (hy : ∀ j, j ≠ 0 → y'.1 j = y.1 j) (h0 : y'.2.2 0 = y.2.2 0) (h1 : y'.2.2 1 = y.2.2 1) : Md x' y' := by
  obtain ⟨k, t, n0, a, b, c, d, e, f, g⟩ := h
  refine ⟨k, t, n0, a, by rw [hx]; exact b, by rw [h0]; exact c, by rw [hx]; exact d, by rw [hx, hy 2 (by decide)]; exact e, by rw [hx]; exact f.fr (hy 3 (by decide)) h1, by rw [hx, hy 1 (by decide)]; exact g⟩
theorem beg_loop : ∀ d g i (y : St), i + d = 251 → d < g → ∃ y', FL_X4_begins_2 g y (nI i) = some y' ∧ (∀ j, i ≤ j → j < 251 → y'.1 1 j = y.1 0 j) ∧ (∀ j, j < i → y'.1 1 j = y.1 1 j) ∧ y'.2 = y.2 ∧ ∀ j, j ≠ 1 → y'.1 j = y.1 j
  | d, 0, _, _, _, h => absurd h (by omega)
  | 0, g + 1, i, y, hi, _ => by
    have : i = 251 := by omega
    subst this
    unfold FL_X4_begins_2
    rw [if_pos (show (251 : Int32) ≤ nI 251 by decide)]
    exact ⟨y, rfl, fun j h1 h2 => absurd h2 (by omega), fun _ _ => rfl, rfl, fun _ _ => rfl⟩
  | d + 1, g + 1, i, y, hi, _ => by
    unfold FL_X4_begins_2
    have st1 : ∀ v, aSt (y.1 1) (lnM 1) (nI i) v = some (upd (y.1 1) i v) := fun v => stM (f := y.1 1) (by omega)
    rw [if_neg (show ¬ (251 : Int32) ≤ nI i from nI_ge (a := i) (b := 251) (by omega) (by decide)), ldM (by omega), oB_some, st1, oB_some, nI_1]
    obtain ⟨y', a, b, c, e, f⟩ := beg_loop d g (i + 1) (va_up y.1 1 (upd (y.1 1) i (y.1 0 i)), y.2.1, y.2.2) (by omega) (by omega)
    have s1 : (va_up y.1 1 (upd (y.1 1) i (y.1 0 i))) 1 = upd (y.1 1) i (y.1 0 i) := va_up_self _ _ _
    refine ⟨y', a, fun j h1 h2 => ?_, fun j h1 => ?_, e, fun j hj => (f j hj).trans (va_up_ne _ _ hj)⟩
    · by_cases hji : j = i
      · rw [c j (by omega)]
        show (va_up y.1 1 (upd (y.1 1) i (y.1 0 i))) 1 j = _
        rw [s1, hji, pk_us]
      · exact b j (by omega) h2
    · rw [c j (by omega)]
      show (va_up y.1 1 (upd (y.1 1) i (y.1 0 i))) 1 j = _
      rw [s1, pk_un (by omega)]
theorem st_at {π : Nat → Nat} {x : XS} {k : Nat} (hk : k < 5) : F_X0_stateAt x (nI k) = some (some (x.2.2.1 k)) := by
  unfold F_X0_stateAt
  have h2 : ¬ Int32.ofNat 5 ≤ nI k := nI_ge (a := k) (b := 5) hk (by decide)
  rw [if_neg (nI_pos (by omega)), if_neg h2]
  unfold rLd
  rw [if_neg (nI_in (N := 5) hk (by decide)), nI_clamp (by omega)]
  rfl
theorem oM_lt {β : Type} {p : Nat} (hp : p < 5) (b : Option β) (f : Nat → Option β) : oM (some p) b f = f p := by
  unfold oM
  simp only
  rw [if_pos hp]
theorem begin_ok {x : XS} {y : St} (h : Rl x y) : ∃ x1 y1 n, F_X0_putAside x = some x1 ∧ F_X4_begins y = some y1 ∧ Md x1 y1 ∧ Rs x1.1 (y1.1 0) n ∧ x1.1 = x.1 ∧ x1.2.2 = x.2.2 ∧ y1.2 = y.2 ∧ ∀ j, j ≠ 1 → y1.1 j = y.1 j := by
  obtain ⟨n, k, t, H, hk, hx, hy, hP, hH, hT⟩ := h
  obtain ⟨y1, b1, b2, _, b4, b5⟩ := beg_loop 251 fuel 0 y rfl (by decide)
  obtain ⟨w, w1, w2⟩ := copy_eq (x.2.1 (x.2.2.1 k)) x.1
  have hp5 := hP.1 k (by omega)
  refine ⟨(x.1, va_up x.2.1 (x.2.2.1 k) w, x.2.2.1, x.2.2.2.1, x.2.2.2.2), y1, n, ?_, b1, ⟨k, t, n, hk, hx, by rw [b4]; exact hy, hP, fun j hj => ?_, hT.fr (b5 3 (by decide)) (by rw [b4]), ?_⟩, by rw [b5 0 (by decide)]; exact H, rfl, rfl, b4, b5⟩
  · unfold F_X0_putAside
    rw [hx, st_at (π := x.2.2.1) (by omega), oB_some, oM_lt hp5]
    show (oB (F_X1_copyFrom (x.2.1 (x.2.2.1 k)) x.1) fun w5 => some (x.1, (va_up x.2.1 (x.2.2.1 k) w5), x.2.2.1, nI k, x.2.2.2.2)) = _
    rw [w1]
    rfl
  · obtain ⟨m, hm⟩ := hH j hj
    refine ⟨m, ?_⟩
    show Rs ((va_up x.2.1 (x.2.2.1 k) w) (x.2.2.1 j)) _ m
    rw [va_up_ne _ _ (fun q => by have := hP.2 j k (by omega) (by omega) q; omega), b5 2 (by decide)]
    exact hm
  · show Rs ((va_up x.2.1 (x.2.2.1 k) w) (x.2.2.1 k)) _ n
    rw [va_up_self]
    exact H.cg w2 (fun i hi => b2 i (by omega) hi)
