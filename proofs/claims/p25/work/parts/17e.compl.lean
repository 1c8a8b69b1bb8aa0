/-! What is kept of the resolving: each clause has an undropped one within it; resolvents of done ones are there. Where nothing is open and no clause is empty, some values fulfil all. -/
def sb (a b : Int32) : Prop := ∀ i, i < 12 → bt a i = true → bt b i = true
theorem sb_rf (a : Int32) : sb a a := fun _ _ h => h
theorem sb_tr {a b c : Int32} (h : sb a b) (h2 : sb b c) : sb a c := fun i hi q => h2 i hi (h i hi q)
def Ok (u : St) (n : Nat) (R : Int32) : Prop := ha R 6 = true ∨ ∃ e, e < n ∧ ¬ u.1 2 e = 2 ∧ sb (u.1 1 e) R
def Re (u : St) (n : Nat) : Prop := ∀ k, k < n → ∃ e, e < n ∧ ¬ u.1 2 e = 2 ∧ sb (u.1 1 e) (u.1 1 k)
def Sat (u : St) (n : Nat) (r : Nat → Nat) (P : Nat → Nat → Prop) : Prop := ∀ i j c R, i < n → j < n → c < 6 → u.1 2 i = 1 → u.1 2 j = 1 → isG r (u.1 1 i) (2 * c) → isG r (u.1 1 j) (2 * c + 1) → P i j → Rsv (u.1 1 i) (u.1 1 j) c R → Ok u n R
def Wk (u : St) (n : Nat) (r ρ : Nat → Nat) (P : Nat → Nat → Prop) : Prop := Cs u n ∧ Re u n ∧ Rk u r ρ ∧ Sat u n r P
def Iv (u : St) (n : Nat) : Prop := ∃ r ρ, Wk u n r ρ (fun _ _ => True)
theorem sat_iff (c : Int32) (v : Nat) : ∀ n, sat c v n = true ↔ ∃ a, a < n ∧ lt1 c v a = true
  | 0 => ⟨fun h => (by cases h), fun ⟨a, h, _⟩ => absurd h (by omega)⟩
  | n + 1 => by
    show (sat c v n || lt1 c v n) = true ↔ _
    rw [Bool.or_eq_true, sat_iff c v n]
    constructor
    · rintro (⟨a, h1, h2⟩ | h)
      · exact ⟨a, by omega, h2⟩
      · exact ⟨n, by omega, h⟩
    · rintro ⟨a, h1, h2⟩
      rcases Nat.lt_succ_iff_lt_or_eq.mp h1 with q | q
      · exact Or.inl ⟨a, q, h2⟩
      · subst q; exact Or.inr h2
/-- the values w fulfil the clause c -/
def sw (c : Int32) (w : Nat → Bool) : Prop := ∃ L, L < 12 ∧ bt c L = true ∧ (if L % 2 = 0 then w (L / 2) else !w (L / 2)) = true
theorem sw_sb {a b : Int32} {w : Nat → Bool} (h : sb a b) (hs : sw a w) : sw b w := by
  obtain ⟨L, h1, h2, h3⟩ := hs
  exact ⟨L, h1, h L h1 h2, h3⟩
theorem sw_sat {c : Int32} {v : Nat} : sat c v 6 = true ↔ sw c v.testBit := by
  rw [sat_iff]
  constructor
  · rintro ⟨a, h1, h2⟩
    unfold lt1 at h2
    rw [Bool.or_eq_true, Bool.and_eq_true, Bool.and_eq_true] at h2
    rcases h2 with ⟨h2, h3⟩ | ⟨h2, h3⟩
    · exact ⟨2 * a, by omega, h2, by rw [if_pos (by omega), show 2 * a / 2 = a by omega]; exact h3⟩
    · exact ⟨2 * a + 1, by omega, h2, by rw [if_neg (by omega), show (2 * a + 1) / 2 = a by omega]; exact h3⟩
  · rintro ⟨L, h1, h2, h3⟩
    refine ⟨L / 2, by omega, ?_⟩
    unfold lt1
    rw [Bool.or_eq_true, Bool.and_eq_true, Bool.and_eq_true]
    by_cases e : L % 2 = 0
    · rw [if_pos e] at h3
      exact Or.inl ⟨by rw [show 2 * (L / 2) = L by omega]; exact h2, h3⟩
    · rw [if_neg e] at h3
      exact Or.inr ⟨by rw [show 2 * (L / 2) + 1 = L by omega]; exact h2, h3⟩
theorem ha_no {c : Int32} (h : ha c 6 = false) {a : Nat} (h6 : a < 6) (h1 : bt c (2 * a) = true) (h2 : bt c (2 * a + 1) = true) : False := by
  have key : ∀ n, a < n → ha c n = true := by
    intro n
    induction n with
    | zero => intro q; exact absurd q (by omega)
    | succ n ih =>
      intro q
      show (ha c n || (bt c (2 * n) && bt c (2 * n + 1))) = true
      rcases Nat.lt_succ_iff_lt_or_eq.mp q with q | q
      · rw [ih q, Bool.true_or]
      · subst q; rw [h1, h2]; simp
  rw [key 6 h6] at h
  cases h
theorem ha_yes {c : Int32} : ∀ n, ha c n = true → ∃ a, a < n ∧ bt c (2 * a) = true ∧ bt c (2 * a + 1) = true
  | 0, h => by cases h
  | n + 1, h => by
    have h : (ha c n || (bt c (2 * n) && bt c (2 * n + 1))) = true := h
    rw [Bool.or_eq_true, Bool.and_eq_true] at h
    rcases h with h | h
    · obtain ⟨a, h1, h2⟩ := ha_yes n h
      exact ⟨a, by omega, h2⟩
    · exact ⟨n, by omega, h⟩
theorem sw_ha {c : Int32} (w : Nat → Bool) (h : ha c 6 = true) : sw c w := by
  obtain ⟨a, h1, h2, h3⟩ := ha_yes 6 h
  cases hw : w a
  · exact ⟨2 * a + 1, by omega, h3, by rw [if_neg (by omega), show (2 * a + 1) / 2 = a by omega, hw]; rfl⟩
  · exact ⟨2 * a, by omega, h2, by rw [if_pos (by omega), show 2 * a / 2 = a by omega, hw]⟩
/-- what fulfils two clauses fulfils their resolvent -/
theorem sw_res {a b s : Int32} {c : Nat} {w : Nat → Bool} (hc : c < 6) (h : Rsv a b c s) (hA : bt a (2 * c + 1) = false) (hB : bt b (2 * c) = false) (h1 : sw a w) (h2 : sw b w) : sw s w := by
  obtain ⟨L, l1, l2, l3⟩ := h1
  obtain ⟨M, m1, m2, m3⟩ := h2
  by_cases e : L = 2 * c ∨ L = 2 * c + 1
  · have e : L = 2 * c := by
      rcases e with e | e
      · exact e
      · rw [e, hA] at l2; cases l2
    by_cases e2 : M = 2 * c ∨ M = 2 * c + 1
    · have e2 : M = 2 * c + 1 := by
        rcases e2 with e2 | e2
        · rw [e2, hB] at m2; cases m2
        · exact e2
      rw [e, if_pos (by omega), show 2 * c / 2 = c by omega] at l3
      rw [e2, if_neg (by omega), show (2 * c + 1) / 2 = c by omega, l3] at m3
      cases m3
    · exact ⟨M, m1, by rw [h M (by omega), m2, decide_eq_false e2]; simp, m3⟩
  · exact ⟨L, l1, by rw [h L (by omega), l2, decide_eq_false e]; simp, l3⟩
def wup (w : Nat → Bool) (a : Nat) (b : Bool) : Nat → Bool := fun q => if q = a then b else w q
theorem sw_up {c : Int32} {w : Nat → Bool} {a : Nat} (b : Bool) (h : sw c w) (hn : bt c (2 * a) = false ∧ bt c (2 * a + 1) = false) : sw c (wup w a b) := by
  obtain ⟨L, l1, l2, l3⟩ := h
  refine ⟨L, l1, l2, ?_⟩
  have e : L / 2 ≠ a := fun e => by
    rcases Nat.mod_two_eq_zero_or_one L with q | q
    · rw [show L = 2 * a by omega, hn.1] at l2; cases l2
    · rw [show L = 2 * a + 1 by omega, hn.2] at l2; cases l2
  show (if L % 2 = 0 then (if L / 2 = a then b else w (L / 2)) else !(if L / 2 = a then b else w (L / 2))) = true
  rw [if_neg e]
  exact l3
theorem compl_i {u : St} {n : Nat} {r ρ : Nat → Nat} (H : Wk u n r ρ (fun _ _ => True)) (hop : ∀ k, k < n → ¬ u.1 2 k = 0) (hne : ∀ k, k < n → ¬ u.1 1 k = 0) :
    ∀ i, i ≤ 6 → ∃ w : Nat → Bool, ∀ k L, k < n → ¬ u.1 2 k = 2 → isG r (u.1 1 k) L → r (L / 2) < i → sw (u.1 1 k) w
  | 0, _ => ⟨fun _ => false, fun k L _ _ _ h => absurd h (by omega)⟩
  | i + 1, hi => by
    obtain ⟨w, hw⟩ := compl_i H hop hne i (by omega)
    obtain ⟨HC, HR, HK, HS⟩ := H
    obtain ⟨a6, ra, _⟩ := HK.2 i (by omega)
    -- what speaks of lower atoms alone
    have low : ∀ (b : Bool) k L, k < n → ¬ u.1 2 k = 2 → isG r (u.1 1 k) L → r (L / 2) < i → sw (u.1 1 k) (wup w (ρ i) b) := fun b k L hk hd hG hl => by
      refine sw_up b (hw k L hk hd hG hl) ⟨?_, ?_⟩
      · cases hq : bt (u.1 1 k) (2 * ρ i)
        · rfl
        · have := hG.2.2 (2 * ρ i) (by omega) hq
          unfold key at this
          rw [show 2 * ρ i / 2 = ρ i by omega, ra] at this
          omega
      · cases hq : bt (u.1 1 k) (2 * ρ i + 1)
        · rfl
        · have := hG.2.2 (2 * ρ i + 1) (by omega) hq
          unfold key at this
          rw [show (2 * ρ i + 1) / 2 = ρ i by omega, ra] at this
          omega
    have atL : ∀ k L, isG r (u.1 1 k) L → r (L / 2) < i + 1 → r (L / 2) < i ∨ L = 2 * ρ i ∨ L = 2 * ρ i + 1 := fun k L hG hl => by
      by_cases e : r (L / 2) = i
      · have := (HK.1 (L / 2) (by have := hG.1; omega)).2.1
        rw [e] at this
        right
        omega
      · left; omega
    have pos : ∀ (b : Bool) c, bt c (2 * ρ i) = true → b = true → sw c (wup w (ρ i) b) := fun b c hb e => ⟨2 * ρ i, by omega, hb, by
      rw [if_pos (by omega), show 2 * ρ i / 2 = ρ i by omega]
      show (if ρ i = ρ i then b else _) = true
      rw [if_pos rfl, e]⟩
    have neg : ∀ (b : Bool) c, bt c (2 * ρ i + 1) = true → b = false → sw c (wup w (ρ i) b) := fun b c hb e => ⟨2 * ρ i + 1, by omega, hb, by
      rw [if_neg (by omega), show (2 * ρ i + 1) / 2 = ρ i by omega]
      show (!(if ρ i = ρ i then b else _)) = true
      rw [if_pos rfl, e]
      rfl⟩
    by_cases hall : ∀ k, k < n → ¬ u.1 2 k = 2 → isG r (u.1 1 k) (2 * ρ i) → sw (u.1 1 k) (wup w (ρ i) false)
    · refine ⟨wup w (ρ i) false, fun k L hk hd hG hl => ?_⟩
      rcases atL k L hG hl with h | h | h
      · exact low false k L hk hd hG h
      · subst h; exact hall k hk hd hG
      · subst h; exact neg false _ hG.2.1 rfl
    · obtain ⟨p, hp⟩ := Classical.not_forall.mp hall
      obtain ⟨hpn, hp⟩ := Classical.not_imp.mp hp
      obtain ⟨hpd, hp⟩ := Classical.not_imp.mp hp
      obtain ⟨hpG, hp⟩ := Classical.not_imp.mp hp
      refine ⟨wup w (ρ i) true, fun k L hk hd hG hl => ?_⟩
      rcases atL k L hG hl with h | h | h
      · exact low true k L hk hd hG h
      · subst h; exact pos true _ hG.2.1 rfl
      · subst h
        refine Classical.byContradiction (fun hn => ?_)
        have st : ∀ k, k < n → ¬ u.1 2 k = 2 → u.1 2 k = 1 := fun k hk h2 => by
          rcases (HC.cl hk).2.2.1 with q | q | q
          · exact absurd q (hop k hk)
          · exact q
          · exact absurd q h2
        -- the resolvent
        obtain ⟨m1, hm1, e1, a1⟩ := (HC.cl hpn).1
        obtain ⟨m2, hm2, e2, a2⟩ := (HC.cl hk).1
        have hRs : Rsv (u.1 1 p) (u.1 1 k) (ρ i) ((u.1 1 p ||| u.1 1 k) &&& (((3 : Int32) <<< (nI (2 * ρ i) &&& 31)) ^^^ (-1))) := fun j hj => by
          rw [b_and, b_or, b_xor, b_m1 j hj, b_shl (2 * ρ i) (by omega) 3 hj]
          by_cases q : j = 2 * ρ i ∨ j = 2 * ρ i + 1
          · rw [decide_eq_true q]
            rcases q with q | q
            · rw [q, show 2 * ρ i - 2 * ρ i = 0 by omega, decide_eq_true (Nat.le_refl _)]; rfl
            · rw [q, show 2 * ρ i + 1 - 2 * ρ i = 1 by omega, decide_eq_true (by omega)]; rfl
          · rw [decide_eq_false q]
            by_cases q2 : 2 * ρ i ≤ j
            · rw [decide_eq_true q2, b_3 (j - 2 * ρ i) (by omega), decide_eq_false (by omega)]; rfl
            · rw [decide_eq_false q2]; rfl
        have hok := HS p k (ρ i) _ hpn hk a6 (st p hpn hpd) (st k hk hd) hpG hG trivial hRs
        generalize (u.1 1 p ||| u.1 1 k) &&& (((3 : Int32) <<< (nI (2 * ρ i) &&& 31)) ^^^ (-1)) = R at hRs hok
        -- no literal of the resolvent is fulfilled
        have hR : ¬ sw R w := fun ⟨M, x1, x2, x3⟩ => by
          rw [hRs M (by omega), Bool.and_eq_true, Bool.or_eq_true, Bool.not_eq_true', decide_eq_false_iff_not] at x2
          have hM : M / 2 ≠ ρ i := fun e => x2.2 (by omega)
          rcases x2.1 with x | x
          · refine hp ⟨M, x1, x, ?_⟩
            show (if M % 2 = 0 then (if M / 2 = ρ i then false else w (M / 2)) else !(if M / 2 = ρ i then false else w (M / 2))) = true
            rw [if_neg hM]; exact x3
          · refine hn ⟨M, x1, x, ?_⟩
            show (if M % 2 = 0 then (if M / 2 = ρ i then true else w (M / 2)) else !(if M / 2 = ρ i then true else w (M / 2))) = true
            rw [if_neg hM]; exact x3
        rcases hok with hh | ⟨e, he, hed, hes⟩
        · exact hR (sw_ha w hh)
        · rcases gr_cl HK HC he with ⟨q, _⟩ | ⟨M, _, _, hMG⟩
          · exact hne e he q
          · have hMR := hes M hMG.1 hMG.2.1
            rw [hRs M (by have := hMG.1; omega), Bool.and_eq_true, Bool.or_eq_true, Bool.not_eq_true', decide_eq_false_iff_not] at hMR
            have hMi : r (M / 2) ≤ i := by
              rcases hMR.1 with x | x
              · have := hpG.2.2 M hMG.1 x
                unfold key at this
                rw [show 2 * ρ i / 2 = ρ i by omega, ra] at this
                omega
              · have := hG.2.2 M hMG.1 x
                unfold key at this
                rw [show (2 * ρ i + 1) / 2 = ρ i by omega, ra] at this
                omega
            have hMn : r (M / 2) ≠ i := fun q => by
              have := (HK.1 (M / 2) (by have := hMG.1; omega)).2.1
              rw [q] at this
              exact hMR.2 (by omega)
            exact hR (sw_sb hes (hw e M he hed hMG (by omega)))
theorem six (w : Nat → Bool) : ∃ v, v < 64 ∧ ∀ a, a < 6 → Nat.testBit v a = w a := by
  have key : ∀ b0 b1 b2 b3 b4 b5 : Bool, b0.toNat + 2 * b1.toNat + 4 * b2.toNat + 8 * b3.toNat + 16 * b4.toNat + 32 * b5.toNat < 64 ∧ Nat.testBit (b0.toNat + 2 * b1.toNat + 4 * b2.toNat + 8 * b3.toNat + 16 * b4.toNat + 32 * b5.toNat) 0 = b0 ∧ Nat.testBit (b0.toNat + 2 * b1.toNat + 4 * b2.toNat + 8 * b3.toNat + 16 * b4.toNat + 32 * b5.toNat) 1 = b1 ∧ Nat.testBit (b0.toNat + 2 * b1.toNat + 4 * b2.toNat + 8 * b3.toNat + 16 * b4.toNat + 32 * b5.toNat) 2 = b2 ∧ Nat.testBit (b0.toNat + 2 * b1.toNat + 4 * b2.toNat + 8 * b3.toNat + 16 * b4.toNat + 32 * b5.toNat) 3 = b3 ∧ Nat.testBit (b0.toNat + 2 * b1.toNat + 4 * b2.toNat + 8 * b3.toNat + 16 * b4.toNat + 32 * b5.toNat) 4 = b4 ∧ Nat.testBit (b0.toNat + 2 * b1.toNat + 4 * b2.toNat + 8 * b3.toNat + 16 * b4.toNat + 32 * b5.toNat) 5 = b5 := by decide +kernel
  obtain ⟨h, h0, h1, h2, h3, h4, h5⟩ := key (w 0) (w 1) (w 2) (w 3) (w 4) (w 5)
  refine ⟨_, h, fun a ha => ?_⟩
  rcases (show a = 0 ∨ a = 1 ∨ a = 2 ∨ a = 3 ∨ a = 4 ∨ a = 5 by omega) with rfl | rfl | rfl | rfl | rfl | rfl <;> assumption
/-- nothing open, no empty clause: some values fulfil all -/
theorem compl {u : St} {n : Nat} (H : Iv u n) (hop : ∀ k, k < n → ¬ u.1 2 k = 0) (hne : ∀ k, k < n → ¬ u.1 1 k = 0) : ∃ v, v < 64 ∧ ∀ k, k < n → sat (u.1 1 k) v 6 = true := by
  obtain ⟨r, ρ, H⟩ := H
  obtain ⟨w, hw⟩ := compl_i H hop hne 6 (Nat.le_refl _)
  obtain ⟨v, hv, hb⟩ := six w
  refine ⟨v, hv, fun k hk => sw_sat.mpr ?_⟩
  obtain ⟨HC, HR, HK, HS⟩ := H
  obtain ⟨e, he, hed, hes⟩ := HR k hk
  refine sw_sb hes ?_
  rcases gr_cl HK HC he with ⟨q, _⟩ | ⟨L, _, _, hG⟩
  · exact absurd q (hne e he)
  · obtain ⟨M, x1, x2, x3⟩ := hw e L he hed hG (HK.1 (L / 2) (by have := hG.1; omega)).1
    refine ⟨M, x1, x2, ?_⟩
    rw [hb (M / 2) (by omega)]
    exact x3
