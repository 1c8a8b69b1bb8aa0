/-! Steps, ranks, setting, clearing -/
theorem inr_s (u : St) (j : Nat) (v : Int32) : (inr u j v).2.2 j = v := va_up_self u.2.2 j v
theorem inr_1 (u : St) (j : Nat) (v : Int32) : (inr u j v).1 = u.1 := rfl
theorem upd_s {f : Nat → Int32} {k : Nat} {v : Int32} : upd f k v k = v := pk_us
theorem Wk.begin {u : St} {n k : Nat} {r ρ : Nat → Nat} (H : Wk u n r ρ (fun _ _ => True)) (hk : k < n) (hop : u.1 2 k = 0) (v : Int32) : Wk (inr (stat u k 1) 1 v) n r ρ (Pst k 0) := by
  have H1 : Wk (stat u k 1) n r ρ (Pst k 0) := by
    have s1 : ∀ j, j ≠ 2 → (stat u k 1).1 j = u.1 j := fun j hj => stat_n u k 1 hj
    have s2 : ∀ e, e ≠ k → (stat u k 1).1 2 e = u.1 2 e := fun e he => by rw [stat_2, pk_un he]
    have s3 : (stat u k 1).1 2 k = 1 := by rw [stat_2, pk_us]
    have car : ∀ e, e < n → ¬ u.1 2 e = 2 → ∃ e', e' < n ∧ ¬ (stat u k 1).1 2 e' = 2 ∧ sb ((stat u k 1).1 1 e') (u.1 1 e) := fun e he hd => by
      refine ⟨e, he, ?_, by rw [s1 1 (by decide)]; exact sb_rf _⟩
      by_cases q : e = k
      · subst q; rw [s3]; decide
      · rw [s2 e q]; exact hd
    refine ⟨⟨H.1.1, H.1.2.1, H.1.2.2.1, fun j hj => (H.1.cl hj).cg (fun i _ _ h3 q _ => by rw [s1 i h3]) rfl ?_⟩, fun j hj => ?_, ⟨H.2.2.1.1, fun i hi => by rw [s1 0 (by decide)]; exact H.2.2.1.2 i hi⟩, fun a b c R ha hb hc t1 t2 g1 g2 hP hR => ?_⟩
    · by_cases q : j = k
      · subst q; exact Or.inr (Or.inl s3)
      · rw [s2 j q]; exact (H.1.cl hj).2.2.1
    · obtain ⟨e, x1, x2, x3⟩ := H.2.1 j hj
      obtain ⟨e', y1, y2, y3⟩ := car e x1 x2
      exact ⟨e', y1, y2, by rw [s1 1 (by decide)] at y3 ⊢; exact sb_tr y3 x3⟩
    · rcases hP with ⟨n1, n2⟩ | ⟨_, q⟩ | ⟨_, q⟩
      · rw [s2 a n1] at t1
        rw [s2 b n2] at t2
        rw [s1 1 (by decide)] at g1 g2 hR
        exact (H.2.2.2 a b c R ha hb hc t1 t2 g1 g2 trivial hR).mono car
      · exact absurd q (by omega)
      · exact absurd q (by omega)
  exact H1.int (by decide) (by decide) v
theorem step_ok {u : St} {n : Nat} (H : Iv u n) : ∃ v u', F_X1_takeStep u = some (v, u') ∧ ((v = -1000002 ∧ u' = u ∧ ((∀ k, k < n → ¬ u.1 2 k = 0) ∨ ∃ k, k < n ∧ u.1 1 k = 0)) ∨ v = -1000003 ∨ ∃ k n', k < n ∧ v = nI k ∧ n ≤ n' ∧ Iv u' n' ∧ (u'.1 2 k = 1 ∨ u'.1 2 k = 2) ∧ u'.2.2 1 = u.2.2 1 + 1) := by
  obtain ⟨r, ρ, H⟩ := H
  have HC := H.1
  unfold F_X1_takeStep
  rcases ec_eq HC.nn with ⟨h1, h2⟩ | ⟨k, hk, h1, h2⟩
  · rw [h1, oB_some, if_pos rfl]
    rcases choice_ok HC with ⟨c1, c2⟩ | ⟨k, hk, c1, c2⟩
    · rw [c1, oB_some, if_pos rfl]
      exact ⟨_, u, rfl, Or.inl ⟨rfl, rfl, Or.inl c2⟩⟩
    · have h40 := HC.lt hk
      rw [c1, oB_some, if_neg (ge0 (by omega)), pS (by decide) h40, oB_some]
      rcases gr_cl H.2.2.1 HC hk with ⟨q, _⟩ | ⟨L, _, g1, gL⟩
      · exact absurd q (h2 k hk)
      · have hL := gL.1
        have W := H.begin hk c2 (u.2.2 1 + 1)
        have e1 : (inr (stat u k 1) 1 (u.2.2 1 + 1)).1 1 = u.1 1 := by rw [inr_1]; exact stat_n u k 1 (by decide)
        have gG : F_X1_greatestOf (inr (stat u k 1) 1 (u.2.2 1 + 1)) (u.1 1 k) = some (nI L) := by
          rcases gr1 W.2.2.1 (u.1 1 k) with ⟨z1, z2⟩ | ⟨L', z1, z2⟩
          · exact absurd ((z2 L hL).symm.trans gL.2.1) (by decide)
          · rw [z1, isG_one H.2.2.1 z2 gL]
        have hn1 : ∀ q, n ≤ q → q < n → ¬ (inr (stat u k 1) 1 (u.2.2 1 + 1)).1 2 q = 1 := fun q h1 h2 => absurd h1 (by omega)
        have hk1 : (inr (stat u k 1) 1 (u.2.2 1 + 1)).1 2 k = 1 := by
          show (stat u k 1).1 2 k = 1
          rw [stat_2, pk_us]
        obtain ⟨b, u', r1, r2⟩ := res_ok (r := r) (ρ := ρ) hL hk n fuel 0 n _ W (by rw [e1]; exact gL) hn1 (Or.inl hk1) (Nat.le_refl _) (by omega) (by unfold fuel; have := HC.1; omega)
        have cls : F_X1_resolveWithDone (inr (stat u k 1) 1 (u.2.2 1 + 1)) (nI k) = some (bI b, u') := by
          rw [← r1]
          unfold F_X1_resolveWithDone
          rw [show F_X3_at ((inr (stat u k 1) 1 (u.2.2 1 + 1)).1 1) (lnS 1) (nI k) = some (u.1 1 k) from (by rw [e1]; exact aS (by decide) h40), oB_some, gG, oB_some, mask_eq L hL]
          have hf := flag_eq L hL
          have hn0 : (inr (stat u k 1) 1 (u.2.2 1 + 1)).2.2 0 = nI n := W.1.2.1
          by_cases hodd : L % 2 = 1
          · rw [decide_eq_true hodd, decide_eq_true_eq] at hf
            rw [if_pos hf, decide_eq_true hodd, hn0]
            rfl
          · rw [decide_eq_false hodd, decide_eq_false_iff_not] at hf
            rw [if_neg hf, decide_eq_false hodd, hn0]
            rfl
        rw [show F_X1_resolveWithDone (va_up u.1 2 (upd (u.1 2) k 1), u.2.1, va_up u.2.2 1 (u.2.2 1 + 1)) (nI k) = some (bI b, u') from cls, oB2_some]
        cases b
        · exact ⟨_, u', rfl, Or.inr (Or.inl rfl)⟩
        · obtain ⟨n', x1, x2, x3, x4⟩ := r2 rfl
          refine ⟨nI k, u', rfl, Or.inr (Or.inr ⟨k, n', hk, rfl, x1, ⟨r, ρ, x2⟩, x3, x4.trans ?_⟩)⟩
          exact inr_s _ _ _
  · have h40 := HC.lt hk
    rw [h1, oB_some, if_neg (ge0 (by omega))]
    exact ⟨_, u, rfl, Or.inl ⟨rfl, rfl, Or.inr ⟨k, hk, h2⟩⟩⟩
/-- the rows of the states alone change: done to open -/
theorem wait_loop {n : Nat} (v : Int32) : ∀ d f i (u : St), Nn u n → i + d = n → d < f → ∃ u', FL_X1_changeRank_34 f u v (nI i) = some (v, u') ∧ (∀ j, j ≠ 2 → u'.1 j = u.1 j) ∧ u'.2 = u.2 ∧ ∀ k, u'.1 2 k = if i ≤ k ∧ k < n ∧ u.1 2 k = 1 then 0 else u.1 2 k
  | d, 0, _, _, _, _, h => absurd h (by omega)
  | 0, f + 1, i, u, H, hi, _ => by
    have : i = n := by omega
    subst this
    unfold FL_X1_changeRank_34
    rw [H.2.1, if_pos (end_le _)]
    exact ⟨u, rfl, fun _ _ => rfl, rfl, fun k => by rw [if_neg (fun q => absurd q.2.1 (by omega))]⟩
  | d + 1, f + 1, i, u, H, hi, _ => by
    have hn : i < n := by omega
    have h40 := H.lt hn
    rw [FL_X1_changeRank_34]
    rw [H.2.1, if_neg (H.ge hn), aS (by decide) h40, oB_some, pS (by decide) h40, oB_some, nI_1]
    by_cases h1 : u.1 2 i = 1
    · rw [if_pos h1]
      obtain ⟨u', a, l, l2, l3⟩ := wait_loop v d f (i + 1) (stat u i 0) H (by omega) (by omega)
      refine ⟨u', a, fun j hj => (l j hj).trans (stat_n u i 0 hj), l2, fun k => ?_⟩
      rw [l3 k, stat_2]
      by_cases e : k = i
      · subst e
        rw [if_neg (fun q => absurd q.1 (by omega)), if_pos ⟨Nat.le_refl _, hn, h1⟩, pk_us]
      · rw [pk_un e]
        by_cases q : i + 1 ≤ k ∧ k < n ∧ u.1 2 k = 1
        · rw [if_pos q, if_pos ⟨by omega, q.2⟩]
        · rw [if_neg q, if_neg (fun z => q ⟨by omega, z.2⟩)]
    · rw [if_neg h1]
      obtain ⟨u', a, l, l2, l3⟩ := wait_loop v d f (i + 1) u H (by omega) (by omega)
      refine ⟨u', a, l, l2, fun k => ?_⟩
      rw [l3 k]
      by_cases e : k = i
      · subst e
        rw [if_neg (fun q => absurd q.1 (by omega)), if_neg (fun q => h1 q.2.2)]
      · by_cases q : i + 1 ≤ k ∧ k < n ∧ u.1 2 k = 1
        · rw [if_pos q, if_pos ⟨by omega, q.2⟩]
        · rw [if_neg q, if_neg (fun z => q ⟨by omega, z.2⟩)]
theorem rank_ok {u : St} {n a t : Nat} (H : Iv u n) (ha : a < 6) (ht : t < 6) : ∃ w u', w < 6 ∧ F_X1_rankOf u (nI a) = some (nI w) ∧ F_X1_changeRank u (nI a) (nI t) = some (nI w, u') ∧ Iv u' n := by
  obtain ⟨r, ρ, H⟩ := H
  obtain ⟨HC, HR, hk, HS⟩ := H
  obtain ⟨ra6, rar, _⟩ := hk.1 a ha
  obtain ⟨rt6, rtr, rts⟩ := hk.2 t ht
  have hinj : ∀ b c, b < 6 → c < 6 → r b = r c → b = c := fun b c hb hc e => by
    have h1 := (hk.1 b hb).2.1
    have h2 := (hk.1 c hc).2.1
    rw [e, h2] at h1
    exact h1.symm
  obtain ⟨u', w1, w2, w3, w4⟩ := wait_loop (nI (r a)) n fuel 0 (va_up (va_up u.1 0 (upd (u.1 0) (r a) (nI (ρ t)))) 0 (upd (upd (u.1 0) (r a) (nI (ρ t))) t (nI a)), u.2.1, u.2.2) HC.nn (by omega) HC.f
  have row0' : u'.1 0 = upd (upd (u.1 0) (r a) (nI (ρ t))) t (nI a) := by
    rw [w2 0 (by decide)]
    exact va_up_self (va_up u.1 0 (upd (u.1 0) (r a) (nI (ρ t)))) 0 _
  have rows : ∀ j, j ≠ 0 → j ≠ 2 → u'.1 j = u.1 j := fun j h0 h2 => by
    rw [w2 j h2]
    show (va_up (va_up u.1 0 _) 0 _) j = _
    rw [va_up_ne _ _ h0, va_up_ne _ _ h0]
  have r2 : ∀ k, u'.1 2 k = if 0 ≤ k ∧ k < n ∧ u.1 2 k = 1 then 0 else u.1 2 k := fun k => by
    rw [w4 k]
    have e : (va_up (va_up u.1 0 (upd (u.1 0) (r a) (nI (ρ t)))) 0 (upd (upd (u.1 0) (r a) (nI (ρ t))) t (nI a))) 2 = u.1 2 := by
      rw [va_up_ne _ _ (show (2 : Nat) ≠ 0 by decide), va_up_ne _ _ (show (2 : Nat) ≠ 0 by decide)]
    show (if 0 ≤ k ∧ k < n ∧ (va_up (va_up u.1 0 (upd (u.1 0) (r a) (nI (ρ t)))) 0 (upd (upd (u.1 0) (r a) (nI (ρ t))) t (nI a))) 2 k = 1 then 0 else (va_up (va_up u.1 0 (upd (u.1 0) (r a) (nI (ρ t)))) 0 (upd (upd (u.1 0) (r a) (nI (ρ t))) t (nI a))) 2 k) = _
    rw [e]
  have nd : ∀ k, k < n → ¬ u'.1 2 k = 1 := fun k hk2 => by
    rw [r2 k]
    by_cases q : u.1 2 k = 1
    · rw [if_pos ⟨Nat.zero_le _, hk2, q⟩]; decide
    · rw [if_neg (fun z => q z.2.2)]; exact q
  have hRk : Rk u' (fun b => if b = a then t else if r b = t then r a else r b) (fun i => if i = t then a else if i = r a then ρ t else ρ i) := by
    refine ⟨fun b hb => ?_, fun i hi => ?_⟩
    · obtain ⟨h1, h2, _⟩ := hk.1 b hb
      show (if b = a then t else if r b = t then r a else r b) < 6 ∧ (if (if b = a then t else if r b = t then r a else r b) = t then a else if (if b = a then t else if r b = t then r a else r b) = r a then ρ t else ρ (if b = a then t else if r b = t then r a else r b)) = b ∧ True
      by_cases e : b = a
      · subst e
        simp only [if_true]
        exact ⟨ht, trivial, trivial⟩
      · by_cases e2 : r b = t
        · have e3 : ¬ r a = t := fun q => e (hinj b a hb ha (e2.trans q.symm))
          simp only [if_neg e, if_pos e2, if_neg e3, if_true]
          refine ⟨ra6, ?_, trivial⟩
          rw [← e2, h2]
        · have e3 : ¬ r b = r a := fun q => e (hinj b a hb ha q)
          simp only [if_neg e, if_neg e2, if_neg e3]
          exact ⟨h1, h2, trivial⟩
    · obtain ⟨h1, h2, h3⟩ := hk.2 i hi
      rw [row0']
      show (if i = t then a else if i = r a then ρ t else ρ i) < 6 ∧ (if (if i = t then a else if i = r a then ρ t else ρ i) = a then t else if r (if i = t then a else if i = r a then ρ t else ρ i) = t then r a else r (if i = t then a else if i = r a then ρ t else ρ i)) = i ∧ upd (upd (u.1 0) (r a) (nI (ρ t))) t (nI a) i = nI (if i = t then a else if i = r a then ρ t else ρ i)
      by_cases e : i = t
      · subst e
        simp only [if_true]
        exact ⟨ha, trivial, pk_us⟩
      · by_cases e2 : i = r a
        · have e3 : ¬ ρ t = a := fun q => by
            rw [q] at rtr
            exact e (e2.trans rtr)
          simp only [if_neg e, if_pos e2, if_neg e3, if_pos rtr]
          refine ⟨rt6, e2.symm, ?_⟩
          rw [pk_un (by omega), e2, pk_us]
        · have e3 : ¬ ρ i = a := fun q => by
            rw [q] at h2
            exact e2 h2.symm
          have e4 : ¬ r (ρ i) = t := fun q => e (h2.symm.trans q)
          simp only [if_neg e, if_neg e2, if_neg e3, if_neg e4]
          refine ⟨h1, h2, ?_⟩
          rw [pk_un e, pk_un e2]
          exact h3
  refine ⟨r a, u', ra6, rank_at hk ha, ?_, _, _, ⟨HC.1, by rw [w3]; exact HC.2.1, by rw [w3]; exact HC.2.2.1, fun k hk2 => (HC.cl hk2).cg (fun j h1 _ h3 q _ => by rw [rows j (by omega) h3]) (by rw [w3]) ?_⟩, fun k hk2 => ?_, hRk, fun i j c R hi hj _ s1 => absurd s1 (nd i hi)⟩
  · unfold F_X1_changeRank
    rw [rank_at hk ha, oB_some, aR ht, oB_some, pR ra6, oB_some, rts]
    have e1 : (va_up u.1 0 (upd (u.1 0) (r a) (nI (ρ t)))) 0 = upd (u.1 0) (r a) (nI (ρ t)) := va_up_self _ _ _
    rw [e1, pR ht, oB_some]
    exact w1
  · rw [r2 k]
    by_cases q : 0 ≤ k ∧ k < n ∧ u.1 2 k = 1
    · rw [if_pos q]; exact Or.inl rfl
    · rw [if_neg q]; exact (HC.cl hk2).2.2.1
  · obtain ⟨e, x1, x2, x3⟩ := HR k hk2
    refine ⟨e, x1, ?_, by rw [rows 1 (by decide) (by decide)]; exact x3⟩
    rw [r2 e]
    by_cases q : 0 ≤ e ∧ e < n ∧ u.1 2 e = 1
    · rw [if_pos q]; decide
    · rw [if_neg q]; exact x2
theorem set_ok {u : St} {n g : Nat} (H : Iv u n) (h1 : 1 ≤ g) (h9 : g ≤ 9) : Iv (inr u 2 (nI g)) n := by
  obtain ⟨r, ρ, HC, HR, hk, HS⟩ := H
  refine ⟨r, ρ, ⟨HC.1, ?_, ⟨g, h1, h9, inr_s u 2 _⟩, HC.2.2.2⟩, HR, hk, HS⟩
  rw [inr_ne u 2 _ (show (0 : Nat) ≠ 2 by decide)]
  exact HC.2.1
theorem empty_ok {u : St} {n : Nat} (H : Iv u n) : Iv (inr (inr u 0 0) 1 0) 0 := by
  obtain ⟨r, ρ, HC, HR, hk, HS⟩ := H
  refine ⟨r, ρ, ⟨by omega, ?_, ?_, fun k hk => absurd hk (by omega)⟩, fun k hk => absurd hk (by omega), hk, fun i j c R hi => absurd hi (by omega)⟩
  · rw [inr_ne _ 1 _ (show (0 : Nat) ≠ 1 by decide)]
    exact inr_s u 0 0
  · rw [inr_ne _ 1 _ (show (2 : Nat) ≠ 1 by decide), inr_ne _ 0 _ (show (2 : Nat) ≠ 0 by decide)]
    exact HC.2.2.1
