/-! A clause comes -/
theorem b_1365 : ∀ i, i < 32 → bt 1365 i = decide (i < 12 ∧ i % 2 = 0) := by decide +kernel
theorem ha_t (c : Int32) : ∀ n, ha c n = false ↔ ∀ a, a < n → (bt c (2 * a) && bt c (2 * a + 1)) = false
  | 0 => ⟨fun _ i hi => absurd hi (by omega), fun _ => rfl⟩
  | n + 1 => by
    show (ha c n || _) = false ↔ _
    rw [Bool.or_eq_false_iff, ha_t c n]
    constructor
    · intro h i hi
      rcases Nat.lt_succ_iff_lt_or_eq.mp hi with h2 | h2
      · exact h.1 i h2
      · subst h2; exact h.2
    · intro h
      exact ⟨fun i hi => h i (by omega), h n (by omega)⟩
theorem b_s1 (x : Int32) {i : Nat} (hi : i < 31) : bt (x >>> ((1 : Int32) &&& 31)) i = bt x (i + 1) :=
  (b_sshr 1 (by decide) x (by omega)).trans (by rw [if_pos (by omega), Nat.add_comm])
theorem ha3 (c : Int32) : F_X3_holdsAlways c = some (bI (ha c 6)) := by
  unfold F_X3_holdsAlways
  have key : ((c &&& (c >>> ((1 : Int32) &&& 31))) &&& 1365) = 0 ↔ ha c 6 = false := by
    rw [ha_t]
    constructor
    · intro h a ha
      have h1 := congrArg (fun z => bt z (2 * a)) h
      simp only [b_and, b_0] at h1
      rw [b_1365 _ (by omega), decide_eq_true (by omega), Bool.and_true, b_s1 c (by omega)] at h1
      exact h1
    · intro h
      apply b_ext
      intro i hi
      rw [b_and, b_and, b_0, b_1365 i hi]
      by_cases h2 : i < 12 ∧ i % 2 = 0
      · rw [b_s1 c (by omega)]
        have h3 := h (i / 2) (by omega)
        rw [show 2 * (i / 2) = i by omega] at h3
        rw [h3]
        rfl
      · rw [decide_eq_false h2, Bool.and_false]
  by_cases h : ha c 6 = false
  · rw [if_pos (key.mpr h), h]
    rfl
  · rw [if_neg (fun q => h (key.mp q)), (Bool.not_eq_false _).mp h]
    rfl
def hw (u : St) (p : Int32) : Nat → Bool
  | 0 => false
  | i + 1 => hw u p i || (!decide (u.1 2 i = 2) && decide ((u.1 1 i &&& (p ^^^ (-1))) = 0))
theorem hw_up {u : St} {p : Int32} : ∀ d i, hw u p i = true → hw u p (i + d) = true
  | 0, _, h => h
  | d + 1, i, h => by
    show (hw u p (i + d) || _) = true
    rw [hw_up d i h]
    rfl
theorem hw1_loop {u : St} {n : Nat} (H : Nn u n) (p : Int32) : ∀ d f i, i + d = n → d < f → hw u p i = false → FL_X1_hasAnotherWithin_2 u f p (nI i) = some (bI (hw u p n))
  | d, 0, _, _, h, _ => absurd h (by omega)
  | 0, f + 1, i, hi, _, hb => by
    have : i = n := by omega
    subst this
    unfold FL_X1_hasAnotherWithin_2
    rw [H.2.1, if_pos (end_le _), hb]
    rfl
  | d + 1, f + 1, i, hi, _, hb => by
    have hn : i < n := by omega
    have h40 := H.lt hn
    have ih := hw1_loop H p d f (i + 1) (by omega) (by omega)
    have up : hw u p (i + 1) = true → hw u p n = true := fun h => by
      have := hw_up d (i + 1) h
      rwa [show i + 1 + d = n by omega] at this
    simp only [hw, hb] at ih up
    unfold FL_X1_hasAnotherWithin_2 F_X3_isWithin
    rw [H.2.1, if_neg (H.ge hn), H.dr hn, oB_some, aS (by decide) h40, oB_some, nI_1]
    by_cases h1 : u.1 2 i = 2
    · rw [decide_eq_true h1] at ih ⊢
      exact ih rfl
    · by_cases h2 : (u.1 1 i &&& (p ^^^ (-1))) = 0
      · rw [decide_eq_false h1, decide_eq_true h2] at up
        rw [decide_eq_false h1, if_pos h2, up rfl]
        rfl
      · rw [decide_eq_false h1, decide_eq_false h2] at ih
        rw [decide_eq_false h1, if_neg h2]
        exact ih rfl
theorem hw1 {u : St} {n : Nat} (H : Nn u n) (p : Int32) : F_X1_hasAnotherWithin u p = some (bI (hw u p n)) := hw1_loop H p n fuel 0 (by omega) H.f rfl
def stat (u : St) (k : Nat) (v : Int32) : St := (va_up u.1 2 (upd (u.1 2) k v), u.2.1, u.2.2)
theorem stat_2 (u : St) (k : Nat) (v : Int32) : (stat u k v).1 2 = upd (u.1 2) k v := va_up_self u.1 2 _
theorem stat_n (u : St) (k : Nat) (v : Int32) {j : Nat} (h : j ≠ 2) : (stat u k v).1 j = u.1 j := va_up_ne u.1 _ h
theorem take1 {u : St} {n : Nat} (h0 : u.2.2 0 = nI n) (hn : n < 40) {p0 p1 p2 p3 dv : Int32} (hd : p1 = -1 ∧ dv = 0 ∨ ∃ a b, a < 40 ∧ b < 40 ∧ p1 = nI a ∧ p2 = nI b ∧ dv = 1 + (if u.1 6 a < u.1 6 b then u.1 6 b else u.1 6 a)) :
    ∃ u' V, F_X1_takeIn u p0 p1 p2 p3 = some (nI n, u') ∧ F_X3_valuesOfClause p0 = some V ∧ u'.1 0 = u.1 0 ∧ u'.1 1 = upd (u.1 1) n p0 ∧ u'.1 2 = upd (u.1 2) n 0 ∧ u'.1 3 = upd (u.1 3) n p1 ∧ u'.1 4 = upd (u.1 4) n p2 ∧ u'.1 5 = upd (u.1 5) n p3 ∧ u'.1 6 = upd (u.1 6) n dv ∧ u'.2.1 = vp_updL u.2.1 n V ∧ u'.2.2 = va_up u.2.2 0 (nI (n + 1)) := by
  obtain ⟨V, hV, _⟩ := vals p0
  unfold F_X1_takeIn
  rw [h0, hV]
  rcases hd with ⟨e1, ed⟩ | ⟨a, b, ha, hb, e1, e2, ed⟩
  · rw [if_pos e1]
    rw [pS (by decide) hn, oB_some, pS (by decide) hn, oB_some, pS (by decide) hn, oB_some, pS (by decide) hn, oB_some, pS (by decide) hn, oB_some, pS (by decide) hn, oB_some, oB_some, pL hn, oB_some]
    exact ⟨_, V, rfl, rfl, rfl, rfl, rfl, rfl, rfl, rfl, by rw [ed]; rfl, rfl, by rw [← nI_1]⟩
  · rw [if_neg (by rw [e1]; exact ge0 (by omega))]
    rw [pS (by decide) hn, oB_some, pS (by decide) hn, oB_some, pS (by decide) hn, oB_some, pS (by decide) hn, oB_some, pS (by decide) hn, oB_some]
    rw [e1, e2, aS (by decide) ha, oB_some, aS (by decide) hb, oB_some, pS (by decide) hn, oB_some, oB_some, pL hn, oB_some]
    exact ⟨_, V, rfl, rfl, rfl, rfl, rfl, rfl, rfl, rfl, by rw [ed]; rfl, rfl, by rw [← nI_1]⟩
def inr (u : St) (j : Nat) (v : Int32) : St := (u.1, u.2.1, va_up u.2.2 j v)
theorem inr_ne (u : St) (j : Nat) (v : Int32) {i : Nat} (h : i ≠ j) : (inr u j v).2.2 i = u.2.2 i := va_up_ne u.2.2 v h
theorem big12 {m i : Nat} (hm : m < 4096) (h : 12 ≤ i) (hi : i < 32) : bt (nI m) i = false := by
  rw [bt_nI m hi]
  exact Nat.testBit_lt_two_pow (Nat.lt_of_lt_of_le hm (Nat.pow_le_pow_right (n := 2) (by decide) (show 12 ≤ i by omega)))
theorem sb_eq {p w : Int32} (hp : ∃ m, m < 4096 ∧ p = nI m) : (p &&& (w ^^^ (-1))) = 0 ↔ sb p w := by
  obtain ⟨m, hm, rfl⟩ := hp
  constructor
  · intro h i hi hb
    have h1 := congrArg (fun z => bt z i) h
    simp only [b_and, b_xor, b_0, b_m1 i (by omega), hb] at h1
    cases hw : bt w i
    · rw [hw] at h1; cases h1
    · rfl
  · intro h
    apply b_ext
    intro i hi
    rw [b_and, b_xor, b_0, b_m1 i hi]
    by_cases h12 : i < 12
    · cases hb : bt (nI m) i
      · rfl
      · rw [h i h12 hb]; rfl
    · rw [big12 hm (by omega) hi]; rfl
theorem hw_t {u : St} {p : Int32} : ∀ n, hw u p n = true → ∃ e, e < n ∧ ¬ u.1 2 e = 2 ∧ (u.1 1 e &&& (p ^^^ (-1))) = 0
  | 0, h => by cases h
  | n + 1, h => by
    have h : (hw u p n || (!decide (u.1 2 n = 2) && decide ((u.1 1 n &&& (p ^^^ (-1))) = 0))) = true := h
    rw [Bool.or_eq_true, Bool.and_eq_true, Bool.not_eq_true', decide_eq_false_iff_not, decide_eq_true_eq] at h
    rcases h with h | h
    · obtain ⟨e, h1, h2⟩ := hw_t n h
      exact ⟨e, by omega, h2⟩
    · exact ⟨n, by omega, h⟩
theorem drop_loop {n : Nat} (p : Int32) : ∀ d f i (u : St), Nn u n → i + d = n → d < f → ∃ u', FL_X1_dropAllAround_2 f u p (nI i) = some u' ∧ (∀ j, j ≠ 2 → u'.1 j = u.1 j) ∧ u'.2 = u.2 ∧ ∀ k, u'.1 2 k = if i ≤ k ∧ k < n ∧ (p &&& (u.1 1 k ^^^ (-1))) = 0 then 2 else u.1 2 k
  | d, 0, _, _, _, _, h => absurd h (by omega)
  | 0, f + 1, i, u, H, hi, _ => by
    have : i = n := by omega
    subst this
    unfold FL_X1_dropAllAround_2
    rw [H.2.1, if_pos (end_le _)]
    exact ⟨u, rfl, fun _ _ => rfl, rfl, fun k => by rw [if_neg (fun q => absurd q.2.1 (by omega))]⟩
  | d + 1, f + 1, i, u, H, hi, _ => by
    have hn : i < n := by omega
    have h40 := H.lt hn
    rw [FL_X1_dropAllAround_2]
    unfold F_X3_isWithin
    rw [H.2.1, if_neg (H.ge hn), aS (by decide) h40, oB_some, pS (by decide) h40, oB_some, nI_1]
    by_cases h2 : (p &&& (u.1 1 i ^^^ (-1))) = 0
    · rw [if_pos h2, oB_some, if_neg (by decide)]
      obtain ⟨u', a, l, l2, l3⟩ := drop_loop p d f (i + 1) (stat u i 2) H (by omega) (by omega)
      refine ⟨u', a, fun j hj => (l j hj).trans (stat_n u i 2 hj), l2, fun k => ?_⟩
      rw [l3 k, stat_n u i 2 (show (1 : Nat) ≠ 2 by decide), stat_2]
      by_cases e : k = i
      · subst e
        rw [if_neg (fun q => absurd q.1 (by omega)), if_pos ⟨Nat.le_refl _, hn, h2⟩, pk_us]
      · rw [pk_un e]
        by_cases q : i + 1 ≤ k ∧ k < n ∧ (p &&& (u.1 1 k ^^^ (-1))) = 0
        · rw [if_pos q, if_pos ⟨by omega, q.2⟩]
        · rw [if_neg q, if_neg (fun z => q ⟨by omega, z.2⟩)]
    · rw [if_neg h2, oB_some, if_pos rfl]
      obtain ⟨u', a, l, l2, l3⟩ := drop_loop p d f (i + 1) u H (by omega) (by omega)
      refine ⟨u', a, l, l2, fun k => ?_⟩
      rw [l3 k]
      by_cases e : k = i
      · subst e
        rw [if_neg (fun q => absurd q.1 (by omega)), if_neg (fun q => h2 q.2.2)]
      · by_cases q : i + 1 ≤ k ∧ k < n ∧ (p &&& (u.1 1 k ^^^ (-1))) = 0
        · rw [if_pos q, if_pos ⟨by omega, q.2⟩]
        · rw [if_neg q, if_neg (fun z => q ⟨by omega, z.2⟩)]
def Pn (u : St) (n : Nat) (p0 p1 p2 p3 : Int32) : Prop := (p1 = -1 ∧ p2 = -1) ∨ ∃ a b c, a < n ∧ b < n ∧ c < 6 ∧ p1 = nI a ∧ p2 = nI b ∧ p3 = nI c ∧ bt (u.1 1 a) (2 * c) = true ∧ bt (u.1 1 b) (2 * c + 1) = true ∧ Rsv (u.1 1 a) (u.1 1 b) c p0
theorem Ck.dep {u : St} {k : Nat} (h : Ck u k) : ∃ d, d ≤ k ∧ u.1 6 k = nI d := by
  rcases h.2.2.2 with ⟨_, _, e⟩ | ⟨a, b, c, d, da, db, _, _, _, _, _, _, e, _, _, _, _, hd, _⟩
  · exact ⟨0, by omega, e⟩
  · exact ⟨d, hd, e⟩
/-- clauses with other states and other parts beyond -/
theorem Ck.cg {u u' : St} {k : Nat} (h : Ck u k) (hu : ∀ j, 1 ≤ j → j ≤ 6 → j ≠ 2 → ∀ q, q ≤ k → u'.1 j q = u.1 j q) (hl : u'.2.1 k = u.2.1 k) (hs : u'.1 2 k = 0 ∨ u'.1 2 k = 1 ∨ u'.1 2 k = 2) : Ck u' k := by
  have r1 : ∀ q, q ≤ k → u'.1 1 q = u.1 1 q := hu 1 (by omega) (by omega) (by omega)
  have r6 : ∀ q, q ≤ k → u'.1 6 q = u.1 6 q := hu 6 (by omega) (by omega) (by omega)
  refine ⟨by rw [r1 k (Nat.le_refl _)]; exact h.1, by rw [r1 k (Nat.le_refl _), hl]; exact h.2.1, hs, ?_⟩
  unfold Pk
  rw [hu 3 (by omega) (by omega) (by omega) k (Nat.le_refl _), hu 4 (by omega) (by omega) (by omega) k (Nat.le_refl _), hu 5 (by omega) (by omega) (by omega) k (Nat.le_refl _), r6 k (Nat.le_refl _), r1 k (Nat.le_refl _)]
  rcases h.2.2.2 with q | ⟨a, b, c, d, da, db, x1, x2, x3, x4, x5, x6, x7, x8, x9, x10, x11, x12, x13, x14, x15⟩
  · exact Or.inl q
  · exact Or.inr ⟨a, b, c, d, da, db, x1, x2, x3, x4, x5, x6, x7, by rw [r6 a (by omega)]; exact x8, by rw [r6 b (by omega)]; exact x9, x10, x11, x12, by rw [r1 a (by omega)]; exact x13, by rw [r1 b (by omega)]; exact x14, by rw [r1 a (by omega), r1 b (by omega)]; exact x15⟩
theorem Ok.mono {u u' : St} {n n' : Nat} {R : Int32} (h : Ok u n R) (hc : ∀ e, e < n → ¬ u.1 2 e = 2 → ∃ e', e' < n' ∧ ¬ u'.1 2 e' = 2 ∧ sb (u'.1 1 e') (u.1 1 e)) : Ok u' n' R := by
  rcases h with h | ⟨e, h1, h2, h3⟩
  · exact Or.inl h
  · obtain ⟨e', q1, q2, q3⟩ := hc e h1 h2
    exact Or.inr ⟨e', q1, q2, sb_tr q3 h3⟩
/-- an int of the store (not its size, not its setting) changes -/
theorem Wk.int {u : St} {n j : Nat} {r ρ : Nat → Nat} {P : Nat → Nat → Prop} (H : Wk u n r ρ P) (h0 : j ≠ 0) (h2 : j ≠ 2) (v : Int32) : Wk (inr u j v) n r ρ P := by
  obtain ⟨⟨c1, c2, c3, c4⟩, hR, hK, hS⟩ := H
  refine ⟨⟨c1, ?_, ?_, c4⟩, hR, hK, hS⟩
  · show (va_up u.2.2 j v) 0 = _
    rw [va_up_ne _ _ (fun e => h0 e.symm)]; exact c2
  · show ∃ g, 1 ≤ g ∧ g ≤ 9 ∧ (va_up u.2.2 j v) 2 = nI g
    rw [va_up_ne _ _ (fun e => h2 e.symm)]; exact c3
theorem bring_ok {u : St} {n : Nat} {r ρ : Nat → Nat} {P : Nat → Nat → Prop} (H : Wk u n r ρ P) {p0 p1 p2 p3 : Int32} (hp : ∃ m, m < 4096 ∧ p0 = nI m) (hP : Pn u n p0 p1 p2 p3) :
    ∃ v u' n', F_X1_bring u p0 p1 p2 p3 = some (v, u') ∧ n ≤ n' ∧ u'.1 0 = u.1 0 ∧ u'.2.2 1 = u.2.2 1 ∧ (∀ k, k < n → u'.1 1 k = u.1 1 k ∧ (u'.1 2 k = u.1 2 k ∨ u'.1 2 k = 2)) ∧ (∀ k, n ≤ k → k < n' → u'.1 2 k = 0) ∧ Wk u' n' r ρ P ∧
      ((n' = n ∧ v = -1000003 ∧ n = 40) ∨ (Ok u' n' p0 ∧ ((n' = n ∧ v = -1 ∧ ha p0 6 = true) ∨ (n' = n ∧ v = -2) ∨ (n' = n + 1 ∧ v = nI n)))) := by
  unfold F_X1_bring
  rw [ha3, oB_some]
  have HC := H.1
  cases hA : ha p0 6
  · rw [if_pos (show bI false = 0 from rfl), hw1 HC.nn, oB_some]
    cases hW : hw u p0 n
    · rw [if_pos (show bI false = 0 from rfl), HC.2.1]
      have h40 := HC.1
      by_cases hf : n = 40
      · rw [if_neg (show ¬ nI n < 40 by rw [hf]; decide)]
        exact ⟨_, u, n, rfl, Nat.le_refl _, rfl, rfl, fun _ _ => ⟨rfl, Or.inl rfl⟩, fun k h1 h2 => absurd h1 (by omega), H, Or.inl ⟨rfl, rfl, hf⟩⟩
      · have hn : n < 40 := by omega
        rw [if_pos (show nI n < 40 from nI_lt (b := 40) hn (by decide))]
        obtain ⟨u1, a, l, l2, l3⟩ := drop_loop p0 n fuel 0 u HC.nn (by omega) HC.f
        unfold F_X1_dropAllAround
        rw [show FL_X1_dropAllAround_2 fuel (u.1, u.2.1, u.2.2) p0 0 = some u1 from a, oB_some]
        have n1 : u1.2.2 0 = nI n := by rw [l2]; exact HC.2.1
        have hd : ∃ dv, (p1 = -1 ∧ dv = 0 ∨ ∃ a b, a < 40 ∧ b < 40 ∧ p1 = nI a ∧ p2 = nI b ∧ dv = 1 + (if u1.1 6 a < u1.1 6 b then u1.1 6 b else u1.1 6 a)) ∧
            ((p1 = -1 ∧ p2 = -1 ∧ dv = nI 0) ∨ ∃ a b c d da db, a < n ∧ b < n ∧ c < 6 ∧ p1 = nI a ∧ p2 = nI b ∧ p3 = nI c ∧ dv = nI d ∧ u.1 6 a = nI da ∧ u.1 6 b = nI db ∧ da < d ∧ db < d ∧ d ≤ n ∧ bt (u.1 1 a) (2 * c) = true ∧ bt (u.1 1 b) (2 * c + 1) = true ∧ Rsv (u.1 1 a) (u.1 1 b) c p0) := by
          rcases hP with ⟨e1, e2⟩ | ⟨a, b, c, ha, hb, hc, e1, e2, e3, b1, b2, hR⟩
          · exact ⟨0, Or.inl ⟨e1, rfl⟩, Or.inl ⟨e1, e2, rfl⟩⟩
          · obtain ⟨da, hda, ea⟩ := (HC.cl ha).dep
            obtain ⟨db, hdb, eb⟩ := (HC.cl hb).dep
            have e6 : ∀ q, u1.1 6 q = u.1 6 q := fun q => by rw [l 6 (by decide)]
            by_cases hlt : da < db
            · refine ⟨nI (1 + db), Or.inr ⟨a, b, by omega, by omega, e1, e2, ?_⟩, Or.inr ⟨a, b, c, 1 + db, da, db, ha, hb, hc, e1, e2, e3, rfl, ea, eb, by omega, by omega, by omega, b1, b2, hR⟩⟩
              rw [e6, e6, ea, eb, if_pos (nI_lt hlt (by omega))]
              exact (nI_add 1 db).symm
            · refine ⟨nI (1 + da), Or.inr ⟨a, b, by omega, by omega, e1, e2, ?_⟩, Or.inr ⟨a, b, c, 1 + da, da, db, ha, hb, hc, e1, e2, e3, rfl, ea, eb, by omega, by omega, by omega, b1, b2, hR⟩⟩
              rw [e6, e6, ea, eb, if_neg (nI_nlt (a := da) (b := db) (by omega) (by omega))]
              exact (nI_add 1 da).symm
        obtain ⟨dv, hd1, hd2⟩ := hd
        obtain ⟨u', V, t1, tV, t0, q1, q2, q3, q4, q5, q6, qL, qi⟩ := take1 (p0 := p0) (p2 := p2) (p3 := p3) n1 hn hd1
        rw [show F_X1_takeIn (u1.1, u1.2.1, u1.2.2) p0 p1 p2 p3 = some (nI n, u') from t1, oB2_some]
        have ui : ∀ i, i ≠ 0 → u'.2.2 i = u.2.2 i := fun i h => by rw [qi, va_up_ne _ _ h, l2]
        have r1 : ∀ k, k < n → u'.1 1 k = u.1 1 k := fun k hk => by rw [q1, pk_un (by omega), l 1 (by decide)]
        have rn : u'.1 1 n = p0 := by rw [q1, pk_us]
        have r2 : ∀ k, k < n → u'.1 2 k = if (p0 &&& (u.1 1 k ^^^ (-1))) = 0 then 2 else u.1 2 k := fun k hk => by
          rw [q2, pk_un (by omega), l3 k]
          by_cases q : (p0 &&& (u.1 1 k ^^^ (-1))) = 0
          · rw [if_pos ⟨Nat.zero_le _, hk, q⟩, if_pos q]
          · rw [if_neg (fun z => q z.2.2), if_neg q]
        have s2 : u'.1 2 n = 0 := by rw [q2, pk_us]
        have st : ∀ k, k < n → u'.1 2 k = u.1 2 k ∨ u'.1 2 k = 2 := fun k hk => by
          rw [r2 k hk]
          by_cases q : (p0 &&& (u.1 1 k ^^^ (-1))) = 0
          · rw [if_pos q]; exact Or.inr rfl
          · rw [if_neg q]; exact Or.inl rfl
        -- an undropped clause stays so, or the new one is within it
        have car : ∀ e, e < n → ¬ u.1 2 e = 2 → ∃ e', e' < n + 1 ∧ ¬ u'.1 2 e' = 2 ∧ sb (u'.1 1 e') (u.1 1 e) := fun e he hd => by
          by_cases q : (p0 &&& (u.1 1 e ^^^ (-1))) = 0
          · exact ⟨n, by omega, by rw [s2]; decide, by rw [rn]; exact (sb_eq hp).mp q⟩
          · refine ⟨e, by omega, ?_, by rw [r1 e he]; exact sb_rf _⟩
            rw [r2 e he, if_neg q]
            exact hd
        have hself : ∃ e', e' < n + 1 ∧ ¬ u'.1 2 e' = 2 ∧ sb (u'.1 1 e') p0 := ⟨n, by omega, by rw [s2]; decide, by rw [rn]; exact sb_rf _⟩
        have rows : ∀ j, 1 ≤ j → j ≤ 6 → j ≠ 2 → ∀ q, q < n → u'.1 j q = u.1 j q := fun j h1 h2 h3 q hq => by
          rcases (show j = 1 ∨ j = 3 ∨ j = 4 ∨ j = 5 ∨ j = 6 by omega) with h | h | h | h | h <;> subst h
          · exact r1 q hq
          · rw [q3, pk_un (by omega), l 3 (by decide)]
          · rw [q4, pk_un (by omega), l 4 (by decide)]
          · rw [q5, pk_un (by omega), l 5 (by decide)]
          · rw [q6, pk_un (by omega), l 6 (by decide)]
        have HC' : Cs u' (n + 1) := ⟨by omega, by rw [qi]; exact va_up_self _ _ _, by rw [ui 2 (by decide)]; exact HC.2.2.1, fun k hk => by
          rcases Nat.lt_succ_iff_lt_or_eq.mp hk with h | h
          · refine (HC.cl h).cg (fun j h1 h2 h3 q hq => rows j h1 h2 h3 q (by omega)) (by rw [qL, pk_uLn (by omega), l2]) ?_
            rcases st k h with q | q
            · rw [q]; exact (HC.cl h).2.2.1
            · exact Or.inr (Or.inr q)
          · subst h
            obtain ⟨m, hm, em⟩ := hp
            refine ⟨⟨m, hm, by rw [rn]; exact em, by rw [rn]; exact hA⟩, by rw [rn, qL, pk_uLs]; exact tV, Or.inl s2, ?_⟩
            unfold Pk
            rw [q3, q4, q5, q6, rn, pk_us, pk_us, pk_us, pk_us]
            rcases hd2 with ⟨e1, e2, e3⟩ | ⟨a, b, c, d, da, db, x1, x2, x3, x4, x5, x6, x7, x8, x9, x10, x11, x12, x13, x14, x15⟩
            · exact Or.inl ⟨e1, e2, e3⟩
            · exact Or.inr ⟨a, b, c, d, da, db, x1, x2, x3, x4, x5, x6, x7, by rw [pk_un (by omega), l 6 (by decide)]; exact x8, by rw [pk_un (by omega), l 6 (by decide)]; exact x9, x10, x11, x12, by rw [r1 a x1]; exact x13, by rw [r1 b x2]; exact x14, by rw [r1 a x1, r1 b x2]; exact x15⟩⟩
        refine ⟨nI n, u', n + 1, rfl, by omega, t0.trans (l 0 (by decide)), by rw [ui 1 (by decide)], fun k hk => ⟨r1 k hk, st k hk⟩, fun k h1 h2 => by rw [show k = n by omega]; exact s2, ⟨HC', ?_, ?_, ?_⟩, Or.inr ⟨Or.inr hself, Or.inr (Or.inr ⟨rfl, rfl⟩)⟩⟩
        · intro k hk
          rcases Nat.lt_succ_iff_lt_or_eq.mp hk with h | h
          · obtain ⟨e, x1, x2, x3⟩ := H.2.1 k h
            obtain ⟨e', y1, y2, y3⟩ := car e x1 x2
            exact ⟨e', y1, y2, by rw [r1 k h]; exact sb_tr y3 x3⟩
          · subst h
            obtain ⟨e', y1, y2, y3⟩ := hself
            exact ⟨e', y1, y2, by rw [rn]; exact y3⟩
        · obtain ⟨k1, k2⟩ := H.2.2.1
          exact ⟨k1, fun i hi => by rw [t0.trans (l 0 (by decide))]; exact k2 i hi⟩
        · intro i j c R hi hj hc h1 h2 g1 g2 hPP hR
          have ne1 : i ≠ n := fun e => by rw [e, s2] at h1; exact absurd h1 (by decide)
          have ne2 : j ≠ n := fun e => by rw [e, s2] at h2; exact absurd h2 (by decide)
          have hi : i < n := by omega
          have hj : j < n := by omega
          have one : ∀ k, k < n → u'.1 2 k = 1 → u.1 2 k = 1 := fun k hk e => by
            rcases st k hk with q | q
            · rw [← q]; exact e
            · rw [q] at e; exact absurd e (by decide)
          rw [r1 i hi] at g1 hR
          rw [r1 j hj] at g2 hR
          exact (H.2.2.2 i j c R hi hj hc (one i hi h1) (one j hj h2) g1 g2 hPP hR).mono car
    · rw [if_neg (show ¬ bI true = 0 by decide)]
      have H' := H.int (j := 4) (by decide) (by decide) (u.2.2 4 + 1)
      refine ⟨_, inr u 4 (u.2.2 4 + 1), n, rfl, Nat.le_refl _, rfl, ?_, fun _ _ => ⟨rfl, Or.inl rfl⟩, fun k h1 h2 => absurd h1 (by omega), H', Or.inr ⟨Or.inr ?_, Or.inr (Or.inl ⟨rfl, rfl⟩)⟩⟩
      · exact inr_ne u 4 _ (show (1 : Nat) ≠ 4 by decide)
      · obtain ⟨e, h1, h2, h3⟩ := hw_t n hW
        obtain ⟨m, hm, em, _⟩ := (HC.cl h1).1
        exact ⟨e, h1, h2, (sb_eq ⟨m, hm, em⟩).mp h3⟩
  · rw [if_neg (show ¬ bI true = 0 by decide)]
    have H' := H.int (j := 3) (by decide) (by decide) (u.2.2 3 + 1)
    exact ⟨_, inr u 3 (u.2.2 3 + 1), n, rfl, Nat.le_refl _, rfl, inr_ne u 3 _ (show (1 : Nat) ≠ 3 by decide), fun _ _ => ⟨rfl, Or.inl rfl⟩, fun k h1 h2 => absurd h1 (by omega), H', Or.inr ⟨Or.inl hA, Or.inl ⟨rfl, rfl, rfl⟩⟩⟩
