/-! The text played -/
def sm (r : Int32) : Prop := ∃ m, m < 4096 ∧ r = nI m
theorem lb_sm : ∀ m, m < 103 → 97 ≤ m → (lb (nI m) 0 &&& 4095 = lb (nI m) 0) ∧ (lb (nI m) 1 &&& 4095 = lb (nI m) 1) := by decide +kernel
theorem sm_and {r : Int32} (h : r &&& 4095 = r) : sm r := by
  obtain ⟨w, _, e⟩ := b_rep r
  refine ⟨w &&& 4095, Nat.lt_of_le_of_lt Nat.and_le_right (by decide), ?_⟩
  rw [← h, e, show (4095 : Int32) = nI 4095 from rfl, fa_and]
theorem sm_or {a b : Int32} (ha : sm a) (hb : sm b) : sm (a ||| b) := by
  obtain ⟨m, hm, rfl⟩ := ha
  obtain ⟨w, hw, rfl⟩ := hb
  exact ⟨m ||| w, Nat.or_lt_two_pow (n := 12) hm hw, or_nI m w⟩
theorem lb_ok {y : St} {t i : Nat} {T : St} (hT : Tx T y t) (h : isL (chr y t i) = true) : sm (lb (chr y t i) 0) ∧ sm (lb (chr y t i) 1) := by
  have hit := chr_lo h
  obtain ⟨_, c, _, hc, ec⟩ := hT.2.2.2 i hit
  have e : chr y t i = nI c := by
    unfold chr
    rw [if_pos hit, ec]
  rw [e] at h ⊢
  obtain ⟨h1, h2⟩ := (isL_c _).mp h
  have a1 : 97 ≤ c := by
    rcases Nat.lt_or_ge c 97 with q | q
    · exact absurd (nI_lt (b := 97) q (by decide)) h1
    · exact q
  have a2 : c < 103 := by
    rcases Nat.lt_or_ge c 103 with q | q
    · exact q
    · exact absurd (nI_le (a := 103) (b := c) q (by omega)) h2
  obtain ⟨b1, b2⟩ := lb_sm c a2 a1
  exact ⟨sm_and b1, sm_and b2⟩
theorem rd_sm {y T : St} {t : Nat} (hT : Tx T y t) : ∀ d i r, sm r → sm (rd (chr y t) d i r).2.2
  | 0, i, r, h => h
  | d + 1, i, r, h => by
    unfold rd
    cases hL : isL (chr y t i)
    · rw [if_neg (show ¬ false = true by decide)]
      by_cases h45 : chr y t i = 45
      · rw [if_pos h45]
        cases hM : isL (chr y t (i + 1))
        · rw [if_neg (show ¬ false = true by decide)]
          exact h
        · rw [if_pos rfl]
          exact rd_sm hT d (i + 2) _ (sm_or h (lb_ok hT hM).2)
      · rw [if_neg h45]
        by_cases h59 : chr y t i = 59
        · rw [if_pos h59]
          exact h
        · rw [if_neg h59]
          exact h
    · rw [if_pos rfl]
      exact rd_sm hT d (i + 1) _ (sm_or h (lb_ok hT hL).1)
theorem bx_step {x : XS} {y : St} {t i : Nat} (hT : Tx x.2.2.2.2 y t) (hi : i < t) (f : Nat) (a r s : Int32) (h59 : ¬ chr y t i = 59) : FL_X3_bringText_9 (f + 1) x a r s (nI i) = if chr y t i = 45 then FL_X3_bringText_9 f x a r 1 (nI (i + 1)) else FL_X3_bringText_9 f x a (r ||| lb (chr y t i) s) 0 (nI (i + 1)) := by
  have h60 := hT.1
  rw [FL_X3_bringText_9, hT.2.1, if_neg (nI_ge hi (by omega)), tx_at hT hi, oB_some, if_neg h59, nI_1]
  rfl
theorem bx_loop {x : XS} {y : St} {t : Nat} (hT : Tx x.2.2.2.2 y t) (a : Int32) : ∀ d i r f, t < i + d → i ≤ t → t < i + f → (rd (chr y t) d i r).1 = true →
    ∃ f', FL_X3_bringText_9 f x a r 0 (nI i) = FL_X3_bringText_9 (f' + 1) x a (rd (chr y t) d i r).2.2 0 (nI ((rd (chr y t) d i r).2.1 - 1)) ∧ t < (rd (chr y t) d i r).2.1 + f'
  | 0, i, r, f, hd, hi, _, _ => absurd hd (by omega)
  | d + 1, i, r, 0, hd, hi, hf, _ => absurd hf (by omega)
  | d + 1, i, r, f + 1, hd, hi, hf, hok => by
    unfold rd at hok ⊢
    have n59 : ∀ j, isL (chr y t j) = true → ¬ chr y t j = 59 := fun j h e => by
      rw [e] at h
      exact absurd h (by decide)
    cases hL : isL (chr y t i)
    · rw [hL, if_neg (show ¬ false = true by decide)] at hok
      rw [if_neg (show ¬ false = true by decide)]
      by_cases h45 : chr y t i = 45
      · rw [if_pos h45] at hok ⊢
        have hit : i < t := by
          rcases Nat.lt_or_ge i t with q | q
          · exact q
          · rw [chr_hi (by omega)] at h45
            exact absurd h45 (by decide)
        cases hM : isL (chr y t (i + 1))
        · rw [hM, if_neg (show ¬ false = true by decide)] at hok
          exact absurd (show false = true from hok) (by decide)
        · rw [hM, if_pos rfl] at hok
          rw [if_pos rfl]
          have h3 := chr_lo hM
          obtain ⟨f2, rfl⟩ : ∃ f2, f = f2 + 1 := ⟨f - 1, by omega⟩
          rw [bx_step hT hit _ _ _ _ (by rw [h45]; decide), if_pos h45, bx_step hT h3 _ _ _ _ (n59 _ hM), if_neg (isL_45 hM)]
          exact bx_loop hT a d (i + 2) _ f2 (by omega) (by omega) (by omega) hok
      · rw [if_neg h45] at hok ⊢
        by_cases h59 : chr y t i = 59
        · rw [if_pos h59]
          exact ⟨f, by show _ = FL_X3_bringText_9 (f + 1) x a r 0 (nI (i + 1 - 1)); rw [Nat.add_sub_cancel], by show t < i + 1 + f; omega⟩
        · rw [if_neg h59] at hok
          exact absurd (show false = true from hok) (by decide)
    · rw [hL, if_pos rfl] at hok
      rw [if_pos rfl]
      have h3 := chr_lo hL
      rw [bx_step hT h3 _ _ _ _ (n59 _ hL), if_neg (isL_45 hL)]
      exact bx_loop hT a d (i + 1) _ f (by omega) (by omega) (by omega) hok
theorem At.self {u : St} {i : Nat} (h : u.2.2 2 = nI i) : At u u i (u.2.2 3) := ⟨rfl, rfl, rfl, rfl, h, rfl⟩
theorem rds_ok {u : St} {t st : Nat} (h60 : t ≤ 60) (hy : u.2.2 1 = nI t) (h2 : u.2.2 2 = nI st) (hs : st ≤ t) : ∃ u', F_X4_reads u = some (bI (rd (chr u t) 100 st 0).1, u') ∧ At u u' (rd (chr u t) 100 st 0).2.1 (rd (chr u t) 100 st 0).2.2 := by
  have hA : At u (u.1, u.2.1, va_up u.2.2 3 0) st 0 := by
    refine ⟨rfl, rfl, ?_, ?_, ?_, ?_⟩
    · show va_up u.2.2 3 0 0 = _
      rw [va_up_ne _ _ (by decide)]
    · show va_up u.2.2 3 0 1 = _
      rw [va_up_ne _ _ (by decide)]
    · show va_up u.2.2 3 0 2 = _
      rw [va_up_ne _ _ (by decide)]; exact h2
    · show va_up u.2.2 3 0 3 = _
      rw [va_up_self]
  exact reads_loop (y := u) h60 hy 100 fuel st 0 _ hA (by omega) (by omega) (by decide)
theorem pl_loop {C : Nat → St} {π : Nat → Nat} {K : Int32} {T : St} {t : Nat} : ∀ d st g f fw cnt n (M u : St), Tx T u t → u.2.2 2 = nI st → Rs M (u.1 0) n → Md (M, C, π, K, T) u → t < st + d → st ≤ t → d ≤ g → t < st + f → t < st + fw → FL_X2_whereItBreaksOff_4 T fw 0 (nI st) = some (-1) →
    ∃ v M' u' n', FL_X3_bringText_9 f (M, C, π, K, T) (nI cnt) 0 0 (nI st) = some (v, (M', C, π, K, T)) ∧ FL_X4_plays_7 g u (nI cnt) = some (v, u') ∧ Rs M' (u'.1 0) n' ∧ Md (M', C, π, K, T) u'
  | 0, st, _, _, _, _, _, _, _, _, _, _, _, hd, hs, _, _, _, _ => absurd hd (by omega)
  | d + 1, st, 0, _, _, _, _, _, _, _, _, _, _, _, _, hg, _, _, _ => absurd hg (by omega)
  | d + 1, st, g + 1, 0, _, _, _, _, _, _, _, _, _, hd, hs, _, hf, _, _ => absurd hf (by omega)
  | d + 1, st, g + 1, f + 1, fw, cnt, n, M, u, hT, h2, H, hM, hd, hs, hg, hf, hfw, hw => by
    have h60 := hT.1
    rw [FL_X4_plays_7, hT.2.2.1, h2]
    rcases Nat.lt_or_ge st t with hlt | hge
    · rw [if_neg (nI_ge hlt (by omega))]
      obtain ⟨u1, q1, q2⟩ := rds_ok h60 hT.2.2.1 h2 hs
      obtain ⟨e1, e2, e3, _⟩ := rd_end u t 100 st 0 (by omega) hs
      obtain ⟨w1, w2⟩ := wb_loop hT 100 st 0 fw (by omega) hs (Or.inl hlt) hfw
      have hok : (rd (chr u t) 100 st 0).1 = true := by
        cases hk : (rd (chr u t) 100 st 0).1
        · have := w1 hk
          rw [hw] at this
          exact absurd (Option.some.inj this).symm (ge0 (by omega))
        · rfl
      obtain ⟨fw', w3, w4⟩ := w2 hok
      obtain ⟨e5, e6⟩ := e3 hok
      obtain ⟨f', b1, b2⟩ := bx_loop (x := (M, C, π, K, T)) hT (nI cnt) 100 st 0 (f + 1) (by omega) hs (by omega) hok
      have hsm : sm (rd (chr u t) 100 st 0).2.2 := rd_sm hT 100 st 0 ⟨0, by omega, rfl⟩
      obtain ⟨a1, a2, a3, a4, a5, a6⟩ := q2
      have hH1 : Rs M (u1.1 0) n := by rw [a1]; exact H
      obtain ⟨v, M', u2, n', c1, c2, H', hF, hn, _, _, hv⟩ := bring_eq hH1 (p1 := -1) (p2 := -1) (p3 := -1) hsm (Or.inl ⟨rfl, rfl, rfl⟩)
      have hM' : Md (M', C, π, K, T) u2 := hM.fr rfl (fun j hj => (hF.2 j hj).trans (by rw [a1])) (by rw [hF.1]; exact a3) (by rw [hF.1]; exact a4)
      have hT' : Tx T u2 t := hT.fr ((hF.2 3 (by decide)).trans (by rw [a1])) (by rw [hF.1]; exact a4)
      have h2' : u2.2.2 2 = nI (rd (chr u t) 100 st 0).2.1 := by rw [hF.1]; exact a5
      rw [b1, q1, oB2_some, hok, if_neg (show ¬ bI true = 0 by decide), show F_X4_comes (u1.1, u1.2.1, u1.2.2) (u1.2.2 3) (-1) (-1) (-1) = some (v, u2) by rw [a6]; exact c2, oB2_some]
      rw [FL_X3_bringText_9, hT.2.1, if_neg (nI_ge (a := (rd (chr u t) 100 st 0).2.1 - 1) (b := t) (by omega) (by omega)), tx_at hT (by omega), oB_some, if_pos e6, c1, oB2_some, nI_1, show (rd (chr u t) 100 st 0).2.1 - 1 + 1 = (rd (chr u t) 100 st 0).2.1 by omega]
      rw [w3] at hw
      have go := fun cnt => pl_loop d (rd (chr u t) 100 st 0).2.1 g f' fw' cnt n' M' u2 hT' h2' H' hM' (by omega) e2 (by omega) b2 w4 hw
      by_cases h3 : v = -1000003
      · rw [if_pos h3, if_pos h3]
        exact ⟨-1000003, M', u2, n', rfl, by rw [h3], H', hM'⟩
      · rw [if_neg h3, if_neg h3]
        by_cases hneg : v < 0
        · rw [if_pos hneg, if_pos hneg, add_z]
          exact go cnt
        · rw [if_neg hneg, if_neg hneg, show nI cnt + 1 = nI (cnt + 1) from nI_1 cnt]
          exact go (cnt + 1)
    · have e : st = t := by omega
      subst e
      rw [if_pos (end_le _), FL_X3_bringText_9, hT.2.1, if_pos (end_le _)]
      exact ⟨nI cnt, M, u, n, rfl, rfl, H, hM⟩
theorem sim_play {x : XS} {y : St} (h : Rl x y) : ∃ v x1 y1, F_X3_play x = some (v, x1) ∧ F_X4_play y = some (v, y1) ∧ Rl x1 y1 := by
  have hR := h
  obtain ⟨_, _, t, _, _, _, _, _, _, hT⟩ := h
  have h60 := hT.1
  unfold F_X3_play F_X4_play
  rcases br_eq hT with ⟨a1, u', i', r', a2, a3⟩ | ⟨a, b, a1, a2, hab, hbt, u', r', a3, a4⟩
  · obtain ⟨x1, y1, n, b1, b2, hM, H, ex, ex2, ey, ey1⟩ := begin_ok (hR.at a3)
    rw [a1, a2, oB_some, oB2_some, if_pos rfl, if_pos (by decide)]
    rw [show F_X0_putAside (x.1, x.2.1, x.2.2.1, x.2.2.2.1, x.2.2.2.2) = some x1 from b1, oB_some, show F_X4_begins (u'.1, u'.2.1, u'.2.2) = some y1 from b2, oB_some]
    obtain ⟨M, C, π, K, T⟩ := x1
    have eT : T = x.2.2.2.2 := by
      have := congrArg (fun z : (Nat → Nat) × Int32 × St => z.2.2) ex2
      exact this
    have hT1 : Tx T (y1.1, y1.2.1, va_up y1.2.2 2 0) t := by
      rw [eT]
      refine hT.fr ?_ ?_
      · show y1.1 3 = _
        rw [ey1 3 (by decide), a3.1]
      · show va_up y1.2.2 2 0 1 = _
        rw [va_up_ne _ _ (by decide), ey]
        exact a3.2.2.2.1
    have hM1 : Md (M, C, π, K, T) (y1.1, y1.2.1, va_up y1.2.2 2 0) := hM.fr rfl (fun _ _ => rfl) (va_up_ne y1.2.2 (0 : Int32) (show 0 ≠ 2 by decide)) (va_up_ne y1.2.2 (0 : Int32) (show 1 ≠ 2 by decide))
    obtain ⟨v, M', u2, n', c1, c2, H', hM'⟩ := pl_loop (t := t) 100 0 fuel fuel fuel 0 n M _ hT1 (va_up_self y1.2.2 2 (0 : Int32)) H hM1 (by omega) (by omega) (by decide) (by unfold fuel; omega) (by unfold fuel; omega) (by rw [eT]; exact a1)
    obtain ⟨x2, y2, d1, d2, hR2⟩ := settle_ok hM' H' v
    refine ⟨v, x2, y2, ?_, ?_, hR2⟩
    · rw [show F_X3_bringText (M, C, π, K, T) = some (v, (M', C, π, K, T)) from c1, oB2_some]
      show (oB2 (F_X3_settle (M', C, π, K, T) v) fun v10 w11 => some (v10, (w11.1, w11.2.1, w11.2.2.1, w11.2.2.2.1, w11.2.2.2.2))) = _
      rw [d1]
      rfl
    · rw [show F_X4_plays (y1.1, y1.2.1, y1.2.2) = some (v, u2) from c2, oB2_some, show F_X4_acted (u2.1, u2.2.1, u2.2.2) v = some (v, y2) from d2]
      rfl
  · rw [a1, a3, oB_some, oB2_some, if_neg (ge0 (by omega)), if_neg (nI_pos (by omega))]
    exact ⟨_, x, u', rfl, rfl, hR.at a4⟩
