/-! What the law holds of the object -/
theorem ha_z {c : Int32} (h : ha c 6 = false) : ((c &&& (c >>> ((1 : Int32) &&& 31))) &&& 1365) = 0 := by
  have h1 := ha3 c
  rw [h] at h1
  unfold F_X3_holdsAlways at h1
  by_cases q : ((c &&& (c >>> ((1 : Int32) &&& 31))) &&& 1365) = 0
  · exact q
  · rw [if_neg q] at h1
    exact absurd (Option.some.inj h1) (by decide)
theorem rs_law {a b s : Int32} {c : Nat} (hc : c < 6) (h : Rsv a b c s) : (a ||| b) &&& (((3 : Int32) <<< (((2 : Int32) * nI c) &&& 31)) ^^^ (-1)) = s := by
  rw [show (2 : Int32) * nI c = nI (2 * c) from pk_mul 2 c]
  refine rs_one (a := a) (b := b) (c := c) (fun j hj => ?_) h
  rw [b_and, b_or, b_xor, b_m1 j hj, b_shl (2 * c) (by omega) 3 hj]
  by_cases q : j = 2 * c ∨ j = 2 * c + 1
  · rw [decide_eq_true q]
    rcases q with q | q
    · rw [q, show 2 * c - 2 * c = 0 by omega, decide_eq_true (Nat.le_refl _)]; rfl
    · rw [q, show 2 * c + 1 - 2 * c = 1 by omega, decide_eq_true (by omega)]; rfl
  · rw [decide_eq_false q]
    by_cases q2 : 2 * c ≤ j
    · rw [decide_eq_true q2, b_3 (j - 2 * c) (by omega), decide_eq_false (by omega)]; rfl
    · rw [decide_eq_false q2]; rfl
theorem pr_1 {x : Int32} {c : Nat} (hc : c < 6) (h1 : bt x (2 * c) = true) (h2 : bt x (2 * c + 1) = false) : (x >>> (((2 : Int32) * nI c) &&& 31)) &&& 3 = 1 := by
  rw [pr_eq x (by omega)]
  unfold pr
  rw [h1, h2]
  rfl
theorem pr_2 {x : Int32} {c : Nat} (hc : c < 6) (h1 : bt x (2 * c) = false) (h2 : bt x (2 * c + 1) = true) : (x >>> (((2 : Int32) * nI c) &&& 31)) &&& 3 = 2 := by
  rw [pr_eq x (by omega)]
  unfold pr
  rw [h1, h2]
  rfl
def kpt (u : St) (i : Nat) : Nat := cn (fun k => decide (u.1 2 k = 0) || decide (u.1 2 k = 1)) i
theorem kpt_s {u : St} {k : Nat} (h : u.1 2 k = 0 ∨ u.1 2 k = 1 ∨ u.1 2 k = 2) : nI (kpt u k) + (if (2 : Int32) ≤ u.1 2 k then (0 : Int32) else 1) = nI (kpt u (k + 1)) := by
  have e : kpt u (k + 1) = kpt u k + (decide (u.1 2 k = 0) || decide (u.1 2 k = 1)).toNat := rfl
  rw [e]
  rcases h with h | h | h <;> rw [h]
  · rw [if_neg (by decide)]; exact nI_add _ 1
  · rw [if_neg (by decide)]; exact nI_add _ 1
  · rw [if_pos (by decide)]; exact nI_add _ 0
theorem kpt_n {u : St} : ∀ n, (∀ k, k < n → u.1 2 k = 0 ∨ u.1 2 k = 1 ∨ u.1 2 k = 2) → kpt u n = ct u 0 n + ct u 1 n ∧ n = kpt u n + ct u 2 n
  | 0, _ => ⟨rfl, rfl⟩
  | n + 1, h => by
    obtain ⟨h1, h2⟩ := kpt_n n (fun k hk => h k (by omega))
    have e0 : kpt u (n + 1) = kpt u n + (decide (u.1 2 n = 0) || decide (u.1 2 n = 1)).toNat := rfl
    have e1 : ct u 0 (n + 1) = ct u 0 n + (decide (u.1 2 n = 0)).toNat := rfl
    have e2 : ct u 1 (n + 1) = ct u 1 n + (decide (u.1 2 n = 1)).toNat := rfl
    have e3 : ct u 2 (n + 1) = ct u 2 n + (decide (u.1 2 n = 2)).toNat := rfl
    have d0 : (decide ((0 : Int32) = 0)) = true ∧ (decide ((0 : Int32) = 1)) = false ∧ (decide ((0 : Int32) = 2)) = false := by decide
    have d1 : (decide ((1 : Int32) = 0)) = false ∧ (decide ((1 : Int32) = 1)) = true ∧ (decide ((1 : Int32) = 2)) = false := by decide
    have d2 : (decide ((2 : Int32) = 0)) = false ∧ (decide ((2 : Int32) = 1)) = false ∧ (decide ((2 : Int32) = 2)) = true := by decide
    rw [e0, e1, e2, e3]
    rcases h n (by omega) with q | q | q <;> rw [q]
    · rw [d0.1, d0.2.1, d0.2.2]; simp only [Bool.toNat_true, Bool.toNat_false, Bool.true_or]; omega
    · rw [d1.1, d1.2.1, d1.2.2]; simp only [Bool.toNat_true, Bool.toNat_false, Bool.or_true]; omega
    · rw [d2.1, d2.2.1, d2.2.2]; simp only [Bool.toNat_true, Bool.toNat_false, Bool.or_false]; omega
theorem no_empty {u : St} {n k v : Nat} (H : Cs u n) (hk : k < n) (h0 : u.1 1 k = 0) (hv : tm u n v) : False := by
  have h := sound H hv k hk
  rw [h0] at h
  obtain ⟨L, h1, h2, _⟩ := sw_sat.mp h
  rw [b_0] at h2
  cases h2
theorem tail_ok {x : XS} {n : Nat} (H : Iv x.1 n) {kp : Nat} (hkp : kp = kpt x.1 n) : (oB (F_X3_count (x.1, x.2.1, x.2.2.1, x.2.2.2.1, x.2.2.2.2) (1 : Int32)) fun v7 => oB (F_X3_count (x.1, x.2.1, x.2.2.1, x.2.2.2.1, x.2.2.2.2) (2 : Int32)) fun v9 => if (nI kp) = (v7 + v9) then oB (F_X3_count (x.1, x.2.1, x.2.2.1, x.2.2.2.1, x.2.2.2.2) (3 : Int32)) fun v12 => if (nI n) = ((nI kp) + v12) then oB (F_X3_core (x.1, x.2.1, x.2.2.1, x.2.2.2.1, x.2.2.2.2)) fun v15 => oB (F_X3_models (x.1, x.2.1, x.2.2.1, x.2.2.2.1, x.2.2.2.2)) fun v18 => if (if (lg_cmp v15 ((-1000004) : Int64)) = 0 then (1 : Int32) else (0 : Int32)) = (if v18 ≤ 0 then (0 : Int32) else (1 : Int32)) then oB (F_X3_refutation (x.1, x.2.1, x.2.2.1, x.2.2.2.1, x.2.2.2.2)) fun v22 => if v22 < 0 then some (1 : Int32) else oB (F_X3_models (x.1, x.2.1, x.2.2.1, x.2.2.2.1, x.2.2.2.2)) fun v25 => if v25 = 0 then some (1 : Int32) else some (0 : Int32) else some (0 : Int32) else some (0 : Int32) else some (0 : Int32)) = some 1 := by
  have HC := H.cs
  have h40 := HC.1
  have q1 : F_X3_count (x.1, x.2.1, x.2.2.1, x.2.2.2.1, x.2.2.2.2) 1 = some (nI (ct x.1 0 n)) := q_open (x := x) HC.nn
  have q2 : F_X3_count (x.1, x.2.1, x.2.2.1, x.2.2.2.1, x.2.2.2.2) 2 = some (nI (ct x.1 1 n)) := q_done (x := x) HC.nn
  have q3 : F_X3_count (x.1, x.2.1, x.2.2.1, x.2.2.2.1, x.2.2.2.2) 3 = some (nI (ct x.1 2 n)) := q_drop (x := x) HC.nn
  obtain ⟨c, hc, m1, m2⟩ := q_models (x := x) HC
  have m1 : F_X3_models (x.1, x.2.1, x.2.2.1, x.2.2.2.1, x.2.2.2.2) = some (nI c) := m1
  obtain ⟨w, w1, w2⟩ := q_core (x := x) HC
  have w1 : F_X3_core (x.1, x.2.1, x.2.2.1, x.2.2.2.1, x.2.2.2.2) = some w := w1
  obtain ⟨k1, k2⟩ := kpt_n n (fun k hk => (HC.cl hk).2.2.1)
  rw [q1, oB_some, q2, oB_some, nI_add, if_pos (by rw [hkp, k1]), q3, oB_some, nI_add, if_pos (by rw [hkp, ← k2]), w1, oB_some, m1, oB_some]
  have hcw : (if lg_cmp w (-1000004) = 0 then (1 : Int32) else 0) = (if nI c ≤ 0 then 0 else 1) := by
    by_cases h0 : c = 0
    · have hno := m2.mp h0
      rw [if_pos (show nI c ≤ 0 by rw [h0]; decide), if_neg (fun q => by
        obtain ⟨v, hv, hm⟩ := w2.mp ((cmp_0 _ _).mp q)
        exact hno v hv hm)]
    · have hyes : ∃ v, v < 64 ∧ tm x.1 n v := Classical.byContradiction (fun q => h0 (m2.mpr (fun v hv hm => q ⟨v, hv, hm⟩)))
      rw [if_neg (show ¬ nI c ≤ 0 from nI_nle (n := c) (by omega) (by omega)), if_pos ((cmp_0 _ _).mpr (w2.mpr hyes))]
  rw [if_pos hcw]
  rcases q_ref (x := x) HC.nn with ⟨r1, _⟩ | ⟨k, hk, r1, r2⟩
  · rw [show F_X3_refutation (x.1, x.2.1, x.2.2.1, x.2.2.2.1, x.2.2.2.2) = some (-1000004) from r1, oB_some, if_pos (by decide)]
  · rw [show F_X3_refutation (x.1, x.2.1, x.2.2.1, x.2.2.2.1, x.2.2.2.2) = some (nI k) from r1, oB_some, if_neg (nI_pos (by omega)), oB_some]
    have h0 : c = 0 := m2.mpr (fun v _ hm => no_empty HC hk r2 hm)
    rw [if_pos (by rw [h0]; rfl)]
theorem rest_ok {x : XS} {n i : Nat} (H : Iv x.1 n) (hi : i < n) (f : Nat) (x1 x2 c1 : Int32) {c0 c3 c4 c8 : Int32} (e0 : c0 = x.1.1 1 i) (e3 : F_X3_foundOrNot (x.1.1 3 i) = some c3) (e4 : F_X3_foundOrNot (x.1.1 4 i) = some c4) (e8 : c8 = x.1.1 6 i) : (if c3 = ((-1000004) : Int32) then FL_L_holds_10 x f x1 (x2 + (if (2 : Int32) ≤ c1 then (0 : Int32) else (1 : Int32))) ((nI i) + 1) else oB (F_X3_clauseOf (x.1, x.2.1, x.2.2.1, x.2.2.2.1, x.2.2.2.2) (nI i) (5 : Int32)) fun v133 => oB (F_X3_clauseOf (x.1, x.2.1, x.2.2.1, x.2.2.2.1, x.2.2.2.2) c3 (0 : Int32)) fun v135 => oB (F_X3_clauseOf (x.1, x.2.1, x.2.2.1, x.2.2.2.1, x.2.2.2.2) c4 (0 : Int32)) fun v137 => oB (F_X3_tree (x.1, x.2.1, x.2.2.1, x.2.2.2.1, x.2.2.2.2) c3) fun v139 => oB (F_X3_tree (x.1, x.2.1, x.2.2.1, x.2.2.2.1, x.2.2.2.2) c4) fun v141 => if (nI i) ≤ c3 then some (0 : Int32) else if (nI i) ≤ c4 then some (0 : Int32) else if ((v135 ||| v137) &&& (((3 : Int32) <<< (((2 : Int32) * v133) &&& 31)) ^^^ ((-1) : Int32))) = c0 then oB (F_X3_clauseOf (x.1, x.2.1, x.2.2.1, x.2.2.2.1, x.2.2.2.2) c3 (0 : Int32)) fun v146 => if ((v146 >>> (((2 : Int32) * v133) &&& 31)) &&& (3 : Int32)) = (1 : Int32) then oB (F_X3_clauseOf (x.1, x.2.1, x.2.2.1, x.2.2.2.1, x.2.2.2.2) c4 (0 : Int32)) fun v149 => if ((v149 >>> (((2 : Int32) * v133) &&& 31)) &&& (3 : Int32)) = (2 : Int32) then oB (F_X3_tree (x.1, x.2.1, x.2.2.1, x.2.2.2.1, x.2.2.2.2) (nI i)) fun v152 => if (lg_cmp v152 ((v139 ||| v141) ||| ((1 : Int64) <<< (Int32.toInt64 (nI i) &&& 63)))) = 0 then oB (F_X3_clauseOf (x.1, x.2.1, x.2.2.1, x.2.2.2.1, x.2.2.2.2) c3 (8 : Int32)) fun v155 => if v155 < c8 then FL_L_holds_10 x f x1 (x2 + (if (2 : Int32) ≤ c1 then (0 : Int32) else (1 : Int32))) ((nI i) + 1) else some (0 : Int32) else some (0 : Int32) else some (0 : Int32) else some (0 : Int32) else some (0 : Int32)) = FL_L_holds_10 x f x1 (x2 + (if (2 : Int32) ≤ c1 then (0 : Int32) else (1 : Int32))) (nI i + 1) := by
  have HC := H.cs
  have h40 := HC.lt hi
  rcases (HC.cl hi).2.2.2 with ⟨p3, p4, p6⟩ | ⟨a, b, c, d, da, db, hA, hB, hc, p3, p4, p5, p6, pa, pb, hd1, hd2, hd, b1, b2, hR⟩
  · rw [p3, found_m1] at e3
    rw [if_pos (Option.some.inj e3).symm]
  · have ne : ∀ z : Nat, z < 41 → ¬ nI z = -1000004 := fun z hz e => by
      have := nI_pos (n := z) (by omega)
      rw [e] at this
      exact this (by decide)
    rw [p3, found_nI (by omega)] at e3
    rw [p4, found_nI (by omega)] at e4
    obtain rfl := Option.some.inj e3
    obtain rfl := Option.some.inj e4
    have ca := (HC.cl (k := a) (by omega)).1
    have cb := (HC.cl (k := b) (by omega)).1
    obtain ⟨_, _, _, haa⟩ := ca
    obtain ⟨_, _, _, hab⟩ := cb
    have a2 : bt (x.1.1 1 a) (2 * c + 1) = false := by
      cases q : bt (x.1.1 1 a) (2 * c + 1)
      · rfl
      · exact (ha_no haa hc b1 q).elim
    have bb : bt (x.1.1 1 b) (2 * c) = false := by
      cases q : bt (x.1.1 1 b) (2 * c)
      · rfl
      · exact (ha_no hab hc q b2).elim
    have g5 : F_X3_clauseOf (x.1, x.2.1, x.2.2.1, x.2.2.2.1, x.2.2.2.2) (nI i) 5 = some (nI c) := (q_c5 (x := x) HC.nn hi).trans (by rw [p5, found_nI (by omega)])
    have ga : F_X3_clauseOf (x.1, x.2.1, x.2.2.1, x.2.2.2.1, x.2.2.2.2) (nI a) 0 = some (x.1.1 1 a) := q_c0 (x := x) HC.nn (by omega)
    have gb : F_X3_clauseOf (x.1, x.2.1, x.2.2.1, x.2.2.2.1, x.2.2.2.2) (nI b) 0 = some (x.1.1 1 b) := q_c0 (x := x) HC.nn (by omega)
    have g8 : F_X3_clauseOf (x.1, x.2.1, x.2.2.1, x.2.2.2.1, x.2.2.2.2) (nI a) 8 = some (nI da) := (q_c8 (x := x) HC.nn (show a < n by omega)).trans (by rw [pa])
    obtain ⟨Va, ta, va⟩ := q_tree (x := x) HC (show a < n by omega)
    obtain ⟨Vb, tb', vb⟩ := q_tree (x := x) HC (show b < n by omega)
    obtain ⟨Vi, ti, vi⟩ := q_tree (x := x) HC hi
    have ta : F_X3_tree (x.1, x.2.1, x.2.2.1, x.2.2.2.1, x.2.2.2.2) (nI a) = some Va := ta
    have tb' : F_X3_tree (x.1, x.2.1, x.2.2.1, x.2.2.2.1, x.2.2.2.2) (nI b) = some Vb := tb'
    have ti : F_X3_tree (x.1, x.2.1, x.2.2.1, x.2.2.2.1, x.2.2.2.2) (nI i) = some Vi := ti
    have et : Vi = (Va ||| Vb) ||| ((1 : Int64) <<< ((nI i).toInt64 &&& 63)) := by
      apply l_ext
      intro j hj
      rw [l_or, l_or, one_k (by omega) hj, vi j hj, va j hj, vb j hj]
      exact tb_made hA hB h40 p3 p4 hj
    rw [if_neg (ne a (by omega)), g5, oB_some, ga, oB_some, gb, oB_some, ta, oB_some, tb', oB_some, if_neg (show ¬ nI i ≤ nI a from nI_ge (by omega) (by omega)), if_neg (show ¬ nI i ≤ nI b from nI_ge (by omega) (by omega)), if_pos (by rw [e0]; exact rs_law hc hR), oB_some, if_pos (pr_1 hc b1 a2), oB_some, if_pos (pr_2 hc bb b2), ti, oB_some, if_pos ((cmp_0 _ _).mpr et), g8, oB_some, if_pos (by rw [e8, p6]; exact nI_lt hd1 (by omega))]
theorem found_some (v : Int32) : ∃ w, F_X3_foundOrNot v = some w := by
  unfold F_X3_foundOrNot
  by_cases h : 0 ≤ v
  · exact ⟨_, if_pos h⟩
  · exact ⟨_, if_neg h⟩
theorem holds_loop {x : XS} {n : Nat} (H : Iv x.1 n) : ∀ d f i, i + d = n → d < f → FL_L_holds_10 x f (nI n) (nI (kpt x.1 i)) (nI i) = some 1
  | d, 0, _, _, h => absurd h (by omega)
  | 0, f + 1, i, hi, _ => by
    have : i = n := by omega
    subst this
    have HC := H.cs
    have h40 := HC.1
    have tl := tail_ok H (kp := kpt x.1 i) rfl
    have q1 : F_X3_count (x.1, x.2.1, x.2.2.1, x.2.2.2.1, x.2.2.2.2) 1 = some (nI (ct x.1 0 i)) := q_open (x := x) HC.nn
    rw [FL_L_holds_10, if_pos (end_le _), q1, oB_some]
    rw [q1, oB_some] at tl
    by_cases hop : ct x.1 0 i = 0
    · rw [if_neg (show ¬ 0 < nI (ct x.1 0 i) by rw [hop]; decide)]
      rcases q_ref (x := x) HC.nn with ⟨r1, r2⟩ | ⟨k, hk, r1, _⟩
      · have r1 : F_X3_refutation (x.1, x.2.1, x.2.2.1, x.2.2.2.1, x.2.2.2.2) = some (-1000004) := r1
        obtain ⟨c, hc, m1, m2⟩ := q_models (x := x) HC
        have m1 : F_X3_models (x.1, x.2.1, x.2.2.1, x.2.2.2.1, x.2.2.2.2) = some (nI c) := m1
        have hop2 : ∀ k, k < i → ¬ x.1.1 2 k = 0 := fun k hk e => by
          have := (cn_z _ _).mp hop k hk
          rw [decide_eq_true e] at this
          cases this
        obtain ⟨v, hv, hs⟩ := compl H hop2 r2
        have hc0 : ¬ c = 0 := fun e => m2.mp e v hv (fun k hk _ => hs k hk)
        rw [r1, oB_some, if_neg (by decide)]
        rw [r1] at tl
        rw [m1, oB_some, if_neg (show ¬ nI c ≤ 0 from nI_nle (n := c) (by omega) (by omega)), oB_some]
        rw [m1] at tl
        exact tl
      · have r1 : F_X3_refutation (x.1, x.2.1, x.2.2.1, x.2.2.2.1, x.2.2.2.2) = some (nI k) := r1
        rw [r1, oB_some, if_pos (nI_pos' (by omega)), oB_some]
        rw [r1] at tl
        exact tl
    · have := ct_le x.1 0 i
      rw [if_pos (show 0 < nI (ct x.1 0 i) from nI_lt (a := 0) (b := ct x.1 0 i) (by omega) (by omega)), oB_some]
      exact tl
  | d + 1, f + 1, i, hi, _ => by
    have HC := H.cs
    have hn : i < n := by omega
    have h40 := HC.1
    have ih := holds_loop H d f (i + 1) (by omega) (by omega)
    obtain ⟨r, ρ, hW⟩ := id H
    obtain ⟨m, hm, em, ham⟩ := (HC.cl hn).1
    obtain ⟨c3, e3⟩ := found_some (x.1.1 3 i)
    obtain ⟨c4, e4⟩ := found_some (x.1.1 4 i)
    have g0 : F_X3_clauseOf (x.1, x.2.1, x.2.2.1, x.2.2.2.1, x.2.2.2.2) (nI i) 0 = some (x.1.1 1 i) := q_c0 (x := x) HC.nn hn
    have g1 : F_X3_clauseOf (x.1, x.2.1, x.2.2.1, x.2.2.2.1, x.2.2.2.2) (nI i) 1 = some (x.1.1 2 i) := q_c1 (x := x) HC.nn hn
    have g3 : F_X3_clauseOf (x.1, x.2.1, x.2.2.1, x.2.2.2.1, x.2.2.2.2) (nI i) 3 = some c3 := (q_c3 (x := x) HC.nn hn).trans e3
    have g4 : F_X3_clauseOf (x.1, x.2.1, x.2.2.1, x.2.2.2.1, x.2.2.2.2) (nI i) 4 = some c4 := (q_c4 (x := x) HC.nn hn).trans e4
    have g8 : F_X3_clauseOf (x.1, x.2.1, x.2.2.1, x.2.2.2.1, x.2.2.2.2) (nI i) 8 = some (x.1.1 6 i) := q_c8 (x := x) HC.nn hn
    have gf : F_X3_follows (x.1, x.2.1, x.2.2.1, x.2.2.2.1, x.2.2.2.2) (x.1.1 1 i) = some 1 := by
      rw [em]
      exact q_follows (x := x) HC hm (fun v _ hv => by rw [← em]; exact sound HC hv i hn)
    have ne : ∀ z : Nat, z < 41 → ¬ nI z = -1000004 := fun z hz e => by
      have := nI_pos (n := z) (by omega)
      rw [e] at this
      exact this (by decide)
    have pp : (if c3 = -1000004 then (1 : Int32) else 0) = (if x.1.1 6 i = 0 then 1 else 0) ∧ (if c3 = -1000004 then (1 : Int32) else 0) = (if c4 = -1000004 then 1 else 0) := by
      rcases (HC.cl hn).2.2.2 with ⟨p3, p4, p6⟩ | ⟨a, b, c, d, da, db, hA, hB, hc, p3, p4, p5, p6, pa, pb, hd1, hd2, hd, b1, b2, hR⟩
      · rw [p3, found_m1] at e3
        rw [p4, found_m1] at e4
        rw [if_pos (Option.some.inj e3).symm, if_pos (Option.some.inj e4).symm, if_pos (by rw [p6]; rfl)]
        exact ⟨rfl, rfl⟩
      · rw [p3, found_nI (by omega)] at e3
        rw [p4, found_nI (by omega)] at e4
        rw [← Option.some.inj e3, ← Option.some.inj e4, if_neg (ne a (by omega)), if_neg (ne b (by omega)), if_neg (by rw [p6]; exact nI_ne0 (by omega) (by omega))]
        exact ⟨rfl, rfl⟩
    have rest := rest_ok H hn f (nI n) (nI (kpt x.1 i)) (x.1.1 2 i) (c0 := x.1.1 1 i) (c8 := x.1.1 6 i) rfl e3 e4 rfl
    have rest := rest.trans (show _ = some 1 by rw [kpt_s (HC.cl hn).2.2.1, nI_1]; exact ih)
    rw [FL_L_holds_10, if_neg (show ¬ nI n ≤ nI i from nI_ge hn (by omega)), g0, oB_some, g3, oB_some, g4, oB_some, g8, oB_some, g1, oB_some, if_pos (ha_z ham), gf, oB_some, if_pos rfl, if_pos pp.1, if_pos pp.2]
    rcases q_c2 (x := x) hW.2.2.1 HC hn with ⟨z0, g2⟩ | ⟨z0, L, hL, g2⟩
    · have g2 : F_X3_clauseOf (x.1, x.2.1, x.2.2.1, x.2.2.2.1, x.2.2.2.2) (nI i) 2 = some (-1000004) := g2
      rw [g2, oB_some, if_pos (by rw [if_pos z0, if_pos rfl]), if_pos z0]
      rcases q_ref (x := x) HC.nn with ⟨_, r2⟩ | ⟨k, hk, r1, _⟩
      · exact absurd z0 (r2 i hn)
      · rw [show F_X3_refutation (x.1, x.2.1, x.2.2.1, x.2.2.2.1, x.2.2.2.2) = some (nI k) from r1, oB_some, if_pos (nI_pos' (by omega))]
        exact rest
    · have g2 : F_X3_clauseOf (x.1, x.2.1, x.2.2.1, x.2.2.2.1, x.2.2.2.2) (nI i) 2 = some (nI L) := g2
      rw [g2, oB_some, if_pos (by rw [if_neg z0, if_neg (ne L (by omega))]), if_neg z0]
      exact rest
theorem holds_ok {x : XS} {n : Nat} (H : Iv x.1 n) : F_L_holds x = some 1 := by
  have h := holds_loop H n fuel 0 (by omega) H.cs.f
  have q0 : F_X3_count (x.1, x.2.1, x.2.2.1, x.2.2.2.1, x.2.2.2.2) 0 = some (nI n) := q_n (x := x) H.cs.nn
  unfold F_L_holds
  rw [q0, oB_some]
  exact h
