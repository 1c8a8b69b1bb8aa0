/-! A clause comes: the class and the model -/
def inr (u : St) (j : Nat) (v : Int32) : St := (u.1, u.2.1, va_up u.2.2 j v)
theorem Rc.int {u : St} {s : Nat → Int32} {n j : Nat} (H : Rc u s n) (hj : j = 1 ∨ j = 3 ∨ j = 4) (v : Int32) : Rc (inr u j v) (upd s j v) n := by
  obtain ⟨h1, h2, h3, h4, h5, h6, h7, h8, ⟨r, ρ, hr⟩, hc⟩ := H
  have un : ∀ i, i ≠ j → (inr u j v).2.2 i = u.2.2 i := fun i h => va_up_ne u.2.2 v h
  have us : (inr u j v).2.2 j = v := va_up_self u.2.2 j v
  have at_ : ∀ i, s i = u.2.2 i → upd s j v i = (inr u j v).2.2 i := fun i h => by
    by_cases e : i = j
    · subst e
      rw [pk_us, us]
    · rw [pk_un e, un i e, h]
  refine ⟨h1, ?_, ?_, at_ 1 h4, at_ 2 h5, at_ 3 h6, at_ 4 h7, ?_, ⟨r, ρ, fun a ha => ?_, hr.2⟩, fun k hk => (hc k hk).congr (fun _ _ _ => rfl) rfl (fun w hw => pk_un (by omega))⟩
  · rw [un 0 (by omega)]; exact h2
  · rw [pk_un (by omega)]; exact h3
  · rw [un 2 (by omega)]; exact h8
  · rw [pk_un (by omega)]; exact hr.1 a ha
theorem hw_no {u : St} {s : Nat → Int32} {n : Nat} (H : Rs u s n) {p : Int32} (h : hw u p n = false) : ∀ k, k < n → ¬ u.1 1 k = 0 := by
  intro k hk e
  have h1 : hw u p (k + 1) = true := by
    show (hw u p k || _) = true
    rw [decide_eq_false (H.2 k hk e).2, e, Int32.zero_and]
    simp
  have h2 := hw_up (n - (k + 1)) (k + 1) h1
  rw [show k + 1 + (n - (k + 1)) = n by omega, h] at h2
  cases h2
def Pa (n : Nat) (p1 p2 p3 : Int32) : Prop := (p1 = -1 ∧ p2 = -1 ∧ p3 = -1) ∨ ∃ a b c, a < n ∧ b < n ∧ c < 6 ∧ p1 = nI a ∧ p2 = nI b ∧ p3 = nI c
def dvOf (u : St) (p1 p2 : Int32) : Int32 := if p1 = -1 then 0 else 1 + (if u.1 6 p1.toNatClampNeg < u.1 6 p2.toNatClampNeg then u.1 6 p2.toNatClampNeg else u.1 6 p1.toNatClampNeg)
theorem vals_det {c : Int32} {V W : Int64} (h : F_X3_valuesOfClause c = some V) (h2 : F_X3_valuesOfClause c = some W) : V = W := Option.some.inj (h.symm.trans h2)
theorem bring_eq {u y : St} {n : Nat} (H : Rs u (y.1 0) n) {p0 p1 p2 p3 : Int32} (hp : ∃ m, m < 4096 ∧ p0 = nI m) (hP : Pa n p1 p2 p3) :
    ∃ v u' y' n', F_X1_bring u p0 p1 p2 p3 = some (v, u') ∧ F_X4_comes y p0 p1 p2 p3 = some (v, y') ∧ Rs u' (y'.1 0) n' ∧ Fr y y' ∧ n ≤ n' ∧ u'.1 0 = u.1 0 ∧ (∀ k, k < n → u'.1 1 k = u.1 1 k) ∧
      ((n' = n ∧ (v = -1 ∨ v = -2 ∨ v = -1000003)) ∨ (n' = n + 1 ∧ v = nI n ∧ u'.1 1 n = p0 ∧ (p0 = 0 → ∀ k, k < n → u'.1 2 k = 2))) := by
  unfold F_X1_bring F_X4_comes
  rw [ha3, ha4, oB_some, oB_some]
  cases hA : ha p0 6
  · rw [if_pos (show bI false = 0 from rfl), if_pos (show bI false = 0 from rfl), hw1 H.1, hw4 H.1, oB_some, oB_some]
    cases hW : hw u p0 n
    · rw [if_pos (show bI false = 0 from rfl), if_pos (show bI false = 0 from rfl), H.1.2.1, H.1.n4, oB_some]
      have h40 := H.1.1
      by_cases hf : n = 40
      · rw [if_neg (show ¬ nI n < 40 by rw [hf]; decide), if_pos (by rw [hf]; rfl)]
        exact ⟨_, u, y, n, rfl, rfl, H, Fr.rf y, Nat.le_refl _, rfl, fun _ _ => rfl, Or.inl ⟨rfl, Or.inr (Or.inr rfl)⟩⟩
      · have hn : n < 40 := by omega
        rw [if_pos (show nI n < 40 from nI_lt (b := 40) hn (by decide)), if_neg (show ¬ nI n = 40 from fun q => hf ((nI_eq (a := n) (b := 40) (by omega) (by decide)).mp q))]
        obtain ⟨u1, y1, a, b, c, e, l, l2, l3, l4⟩ := drop_loop p0 p1 p2 p3 n fuel (fuel - n - 1 + 1) 0 u y H.1 (by omega) (Rs.f H.1)
        have hz := hw_no H hW
        unfold F_X1_dropAllAround
        rw [show FL_X1_dropAllAround_2 fuel (u.1, u.2.1, u.2.2) p0 0 = some u1 from a, oB_some]
        have hfu : fuel - n - 1 + 1 + n = fuel := by have := Rs.f H.1; omega
        have b2 : FL_X4_comes_57 fuel (y.1, y.2.1, y.2.2) p0 p1 p2 p3 0 = FL_X4_comes_57 (fuel - n - 1 + 1) y1 p0 p1 p2 p3 (nI n) := by
          rw [hfu] at b
          exact b
        rw [b2]
        have hd : p1 = -1 ∧ dvOf u1 p1 p2 = 0 ∨ ∃ a b, a < n ∧ b < n ∧ p1 = nI a ∧ p2 = nI b ∧ dvOf u1 p1 p2 = 1 + (if u1.1 6 a < u1.1 6 b then u1.1 6 b else u1.1 6 a) := by
          unfold dvOf
          rcases hP with ⟨e1, _, _⟩ | ⟨a, b, c, ha, hb, _, e1, e2, _⟩
          · rw [if_pos e1]
            exact Or.inl ⟨e1, rfl⟩
          · refine Or.inr ⟨a, b, ha, hb, e1, e2, ?_⟩
            rw [e1, e2, if_neg (ge0 (by omega)), nI_clamp (by omega), nI_clamp (by omega)]
        obtain ⟨s', f1, g0, glo, ga, gb, gc, gd, ge, gf⟩ := comes_end c hn hd (fuel - n - 1)
        obtain ⟨u', V, t1, tV, t0, q1, q2, q3, q4, q5, q6, qL, qi⟩ := take1 (p0 := p0) (p2 := p2) (p3 := p3) c.2.1 hn (by
          rcases hd with h | ⟨a, b, ha, hb, h⟩
          · exact Or.inl h
          · exact Or.inr ⟨a, b, by omega, by omega, h⟩)
        rw [show F_X1_takeIn (u1.1, u1.2.1, u1.2.2) p0 p1 p2 p3 = some (nI n, u') from t1, oB2_some, f1]
        have rest : ∀ k, k < n → Cl u' s' k := fun k hk => (c.cl hk).congr (fun j h1 h2 => by
          have : j = 1 ∨ j = 2 ∨ j = 3 ∨ j = 4 ∨ j = 5 ∨ j = 6 := by omega
          rcases this with h | h | h | h | h | h <;> subst h
          · rw [q1, pk_un (by omega)]
          · rw [q2, pk_un (by omega)]
          · rw [q3, pk_un (by omega)]
          · rw [q4, pk_un (by omega)]
          · rw [q5, pk_un (by omega)]
          · rw [q6, pk_un (by omega)]) (by rw [qL, pk_uLn (by omega)]) (fun w hw => glo _ (by omega) (by omega))
        have last : Cl u' s' n := by
          unfold Cl
          rw [q1, q2, q3, q4, q5, q6, qL, pk_us, pk_us, pk_us, pk_us, pk_us, pk_us, pk_uLs]
          obtain ⟨m, hm, em⟩ := hp
          exact ⟨⟨m, hm, em, hA⟩, ga, gb, tV, gc, gd, ge, gf, hP⟩
        obtain ⟨r, ρ, hr⟩ := c.2.2.2.2.2.2.2.2.1
        have ui : ∀ i, i ≠ 0 → u'.2.2 i = u1.2.2 i := fun i h => by rw [qi]; exact va_up_ne _ _ h
        have hRc : Rc u' s' (n + 1) := ⟨by omega, by rw [qi]; exact va_up_self _ _ _, g0, by rw [glo 1 (by omega) (by omega), ui 1 (by omega)]; exact c.2.2.2.1, by rw [glo 2 (by omega) (by omega), ui 2 (by omega)]; exact c.2.2.2.2.1, by rw [glo 3 (by omega) (by omega), ui 3 (by omega)]; exact c.2.2.2.2.2.1, by rw [glo 4 (by omega) (by omega), ui 4 (by omega)]; exact c.2.2.2.2.2.2.1, by rw [ui 2 (by omega)]; exact c.2.2.2.2.2.2.2.1, ⟨r, ρ, fun a ha => by rw [glo (5 + a) (by omega) (by omega)]; exact hr.1 a ha, fun i hi => by rw [t0]; exact hr.2 i hi⟩, fun k hk => by
          rcases Nat.lt_succ_iff_lt_or_eq.mp hk with h | h
          · exact rest k h
          · subst h; exact last⟩
        have hRe : Re u' (n + 1) := fun k hk hk0 => by
          rcases Nat.lt_succ_iff_lt_or_eq.mp hk with h | h
          · rw [q1, pk_un (by omega), l 1 (by decide)] at hk0
            exact absurd hk0 (hz k h)
          · subst h
            refine ⟨rfl, ?_⟩
            rw [q2, pk_us]
            decide
        refine ⟨nI n, u', wr y1 s', n + 1, rfl, rfl, ⟨by rw [wr_0]; exact hRc, hRe⟩, e.tr (Fr.wr y1 s'), by omega, t0.trans (l 0 (by decide)), fun k hk => ?_, Or.inr ⟨rfl, rfl, by rw [q1, pk_us], fun h0 k hk => ?_⟩⟩
        · rw [q1, pk_un (by omega), l 1 (by decide)]
        · rw [q2, pk_un (by omega)]
          exact l4 h0 k (by omega) hk
    · rw [if_neg (show ¬ bI true = 0 by decide), if_neg (show ¬ bI true = 0 by decide)]
      rw [show aLd (y.1 0) (lnM 0) 4 = some (y.1 0 4) from ldM (k := 4) (by decide), oB_some, show ∀ v, aSt (y.1 0) (lnM 0) 4 v = some (upd (y.1 0) 4 v) from fun v => stM (k := 4) (by decide), oB_some, H.1.2.2.2.2.2.2.1]
      exact ⟨_, inr u 4 (u.2.2 4 + 1), wr y (upd (y.1 0) 4 (u.2.2 4 + 1)), n, rfl, rfl, ⟨by rw [wr_0]; exact H.1.int (Or.inr (Or.inr rfl)) _, H.2⟩, Fr.wr y _, Nat.le_refl _, rfl, fun _ _ => rfl, Or.inl ⟨rfl, Or.inr (Or.inl rfl)⟩⟩
  · rw [if_neg (show ¬ bI true = 0 by decide), if_neg (show ¬ bI true = 0 by decide)]
    rw [show aLd (y.1 0) (lnM 0) 3 = some (y.1 0 3) from ldM (k := 3) (by decide), oB_some, show ∀ v, aSt (y.1 0) (lnM 0) 3 v = some (upd (y.1 0) 3 v) from fun v => stM (k := 3) (by decide), oB_some, H.1.2.2.2.2.2.1]
    exact ⟨_, inr u 3 (u.2.2 3 + 1), wr y (upd (y.1 0) 3 (u.2.2 3 + 1)), n, rfl, rfl, ⟨by rw [wr_0]; exact H.1.int (Or.inr (Or.inl rfl)) _, H.2⟩, Fr.wr y _, Nat.le_refl _, rfl, fun _ _ => rfl, Or.inl ⟨rfl, Or.inl rfl⟩⟩
