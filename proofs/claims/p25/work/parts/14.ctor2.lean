/-! Constructors that call constructors -/
section KD
variable {p : Program} {l : Launch} {e : Env} {R : Room} {s : State} {m : MethodId} {args : Array Value} {below : List Frame} {meth : Method} {c : Code} {H : Heap} {locs : List Loc} {cells slots : Nat} {Q : State → Prop} {cc : ByteArray} {pc mc ms : Nat} {ls : Array Slot} {rest st0 : List Value} {a : Array Value} {g : Gm} {A : Nat → Prop}
theorem n_init {post : List Nat × (Nat → va_E) → Prop} (hS : va_S A s.heap H locs) (hr : va_Run p l e R s m args below meth c H locs cells slots mc ms (F0 m pc ls st0) rest (va_Qv post (fun (q : List Nat × (Nat → va_E)) t => va_P g.1 vwCl (va_pl q.1 q.2) t.heap) A a) A) (kk : ∀ (L1 : List Nat) (G1 : Nat → va_E) (H1 : Heap) (locs1 : List Loc), post (L1, G1) → va_P g.1 vwCl (va_pl L1 G1) H1 → va_S A s.heap H1 locs1 → W p l e R s m args below meth c H1 locs1 (cells + mc) (slots + ms) Q (F0 m (pc + 3) ls rest)) : W p l e R s m args below meth c H locs cells slots Q (F0 m pc ls st0) :=
  va_callv hr hS (fun _ _ h => h) (fun _ h => h) (fun u t H1 locs1 ht _ hp hb _ _ hS1 => kk u.1 u.2 H1 locs1 hp (ht ▸ hb) hS1)
end KD
/-- a new object's own cells are none of the old ones but itself -/
theorem own_new {L qs : List Nat} {A : Nat → Prop} {x n : Nat} (h : kL (L ++ qs) A) (hl : qs.length = n) {b : Nat} (hb : b ∈ L) (hbx : b ≠ x) : ∀ q, ownS x (rOf qs) n q → q ≠ b := fun q hq e => by
  subst e
  rcases hq with rfl | ⟨j, hj, e⟩
  · exact hbx rfl
  · refine (List.nodup_append.mp h.1).2.2 q hb q ?_ rfl
    rw [e]
    unfold rOf
    rw [List.getD_eq_getElem?_getD, List.getElem?_eq_getElem (by omega)]
    exact List.getElem_mem _
theorem len8 {qs : List Nat} (h : qs.length = 8) : ∃ a b c d e f g i, qs = [a, b, c, d, e, f, g, i] := by
  match qs, h with
  | [a, b, c, d, e, f, g, i], _ => exact ⟨a, b, c, d, e, f, g, i, rfl⟩
theorem len1 {qs : List Nat} (h : qs.length = 1) : ∃ a, qs = [a] := by
  match qs, h with
  | [a], _ => exact ⟨a, rfl⟩
theorem vO.rc {g : Gm} {L : List Nat} {G : Nat → va_E} {a : Nat} {r r1 : Nat → Nat} {ci nI n : Nat} {len : Nat → Nat} {fs : (Nat → Nat) → (Nat → Int32) → List Value} {u : St} (h : vO g L G a r ci nI n len fs u) (hn : nI ≤ n) (hr : ∀ j, j < n → r1 j = r j) (hf : fs r1 u.2.2 = fs r u.2.2) : vO g L G a r1 ci nI n len fs u := by
  obtain ⟨h1, h2, h3, h4, h5, h6⟩ := h
  refine ⟨h1, by rw [hf]; exact h2, fun j hj => by rw [hr j hj]; exact h3 j hj, fun i j hi hj e => h4 i j hi hj (by rw [← hr i hi, ← hr j hj]; exact e), fun j hj => by rw [hr j (by omega)]; exact h5 j hj, fun j h7 hj => by rw [hr j hj]; exact h6 j h7 hj⟩
def newH (g : Gm) (A : Nat → Prop) (L : List Nat) (G : Nat → va_E) (h0 : Nat) (q : List Nat × (Nat → va_E)) : Prop := ∃ (ar s0 s1 s2 s3 s4 : Nat) (q0 q1 q2 q3 q4 : List Nat), q0.length = 8 ∧ q1.length = 8 ∧ q2.length = 8 ∧ q3.length = 8 ∧ q4.length = 8 ∧ q.1 = L ++ ([ar] ++ ([s0] ++ q0 ++ ([s1] ++ q1) ++ ([s2] ++ q2) ++ ([s3] ++ q3) ++ ([s4] ++ q4))) ∧ kL q.1 A ∧ q.2 h0 = .inr (0, [.ref ar, .int 0]) ∧ q.2 ar = .inl (gR g, 5, .inr (.inr (.inr (.inr (fun i => if i < 5 then some (rOf [s0, s1, s2, s3, s4] i) else none))))) ∧ vS g q.1 q.2 s0 (rOf q0) stI ∧ vS g q.1 q.2 s1 (rOf q1) stI ∧ vS g q.1 q.2 s2 (rOf q2) stI ∧ vS g q.1 q.2 s3 (rOf q3) stI ∧ vS g q.1 q.2 s4 (rOf q4) stI ∧ ∀ a, a ∈ L → a ≠ h0 → q.2 a = G a
set_option maxHeartbeats 4000000 in
set_option maxRecDepth 100000 in
theorem c_X0_init (l : Launch) (g : Gm) (L : List Nat) {A : Nat → Prop} (hL : kL L A) (G : Nat → va_E) (h0 : Nat) (hm0 : h0 ∈ L) (hG0 : G h0 = .inr (0, [.null, .int 0])) : Met l yX0_init wsX0_init ({ frames := 2, cells := 46, slots := 1500, locals := 43 } : Room) (va_Pc [.ref h0] (kBO g L A G)) (va_Qv (newH g A L G h0) (fun q t => va_P g.1 vwCl (va_pl q.1 q.2) t.heap) A) 46 1500 A := by
  refine Met.ofW (cc := cX0_init) (maxL := 2) (ret := none) (by decide) rfl ?_
  intro p e s m args below meth c s₁ B hml hv
  obtain ⟨rfl, ⟨hP, hC⟩, hO9⟩ := hv
  have hx := B.exec
  have hb := B.bytes
  have hr := B.returns
  have hts := atoms_spec (ws := wsX0_init) B.pre
  have hown : s.vm.findClass RX0 = some m.cls := findClass_of_methodNamed B.named
  have hlk := B.notSynchronized
  have hin0 : meth.name = "<init>" := (name_of_methodNamed B.named B.method).1
  have hS : va_S A s.heap s.heap [] := va_S.rf
  have hm_h0 := hm0
  have hG_h0 := hG0
  have hsub : ∀ a, a ∈ L → a ∈ L := fun a ha => ha
  have hO : ∀ a, a ∈ L → a ≠ h0 → G a = G a := fun _ _ _ => rfl
  have hl := lv_entry ([.ref h0]) (n := 2) (Nat.le_of_ble_eq_true rfl)
  rw [lg_entry_eq]
  generalize (lg_sl ([.ref h0]) ++ List.replicate (2 - (lg_sl ([.ref h0])).length) Slot.unset).toArray = ls at hl ⊢
  have hl : lv_has ls 2 [(0, .ref h0)] := hl
  refine lv_aload_n hx hb dX0_init_0 rfl (lv_at hl 0 rfl) ?_
  refine W.objInit hx hb hown (hts (.methodLink RX0 3 objectInit) (List.mem_of_getElem? (i := 1) rfl)) (hts (.instanceMethod objectInit) (List.mem_of_getElem? (i := 2) rfl)) (hts (.code objectInit ⟨#[0xb1]⟩ 1 none) (List.mem_of_getElem? (i := 3) rfl)) rfl (by rw [hml]; exact hl.1) rfl dX0_init_1 (Nat.le_of_ble_eq_true rfl) (Nat.le_of_ble_eq_true rfl) ?_
  refine W.eq (g2 := F0 m 4 ls []) rfl ?_
  refine lv_aload_n hx hb dX0_init_4 rfl (lv_at hl 0 rfl) ?_
  refine lv_iconst (v := 5) hx hb dX0_init_5 (by decide) ?_
  refine n_arrR (N := 5) hx hb hown (hts (.classLink RX0 9 RX1) (List.mem_of_getElem? (i := 4) rfl)) hL hC hO9 hP hS (by decide) (by decide) (Nat.le_of_ble_eq_true rfl) (Nat.le_of_ble_eq_true rfl) (Nat.le_of_ble_eq_true rfl) dX0_init_6 (fun ar G1 H hq hL hG_ar hk hP hS => ?_)
  have ne_h0_ar : h0 ≠ ar := n_ne hq hm_h0
  have hG_h0 := (hk h0 hm_h0).trans hG_h0
  have hO : ∀ a, a ∈ L → a ≠ h0 → G1 a = G a := fun a ha hn => (hk a (hsub a ha)).trans (hO a ha hn)
  have h0_ar : ∀ a, a ∈ L → a ≠ ar := fun a ha => n_ne hq (hsub a ha)
  have hm_h0 := n_left ar hm_h0
  have hm_ar : ar ∈ (L ++ [ar]) := n_last _ _
  have hsub : ∀ a, a ∈ L → a ∈ (L ++ [ar]) := fun a ha => n_left ar (hsub a ha)
  refine W.widen (k := 1) (n := 5) (Nat.le_of_ble_eq_true rfl) (Nat.le_of_ble_eq_true rfl) ?_
  refine n_putF (C := RX0) (T := TX0) (N := 2) (ci := 0) hx hb hts (fun _ h => List.mem_cons_of_mem _ (List.mem_append_left _ (List.mem_append_right _ h))) tyX0 tyX0_ok nmX0 hown hL hC hP hS hm_h0 hG_h0 rfl 0 (by decide) (hts (.fieldLink RX0 11 "OrderedClauses$History" "states" "[LOrderedClauses$Store;") (List.mem_of_getElem? (i := 5) rfl)) (by decide +kernel) hin0 rfl (ty := tyX0 0) (tyX0_ok 0 (by decide)) rfl rfl (Nat.le_of_ble_eq_true rfl) dX0_init_9 (fun G2 H locs hq hk hP hS => ?_)
  have hG_h0 : G2 h0 = .inr (0, [.ref ar, .int 0]) := hq
  have hG_ar := (hk ar (Ne.symm ne_h0_ar)).trans hG_ar
  have hO : ∀ a, a ∈ L → a ≠ h0 → G2 a = G a := fun a ha hn => (hk a hn).trans (hO a ha hn)
  refine lv_aload_n hx hb dX0_init_12 rfl (lv_at hl 0 rfl) ?_
  refine lv_iconst (v := 0) hx hb dX0_init_13 (by decide) ?_
  refine k_putE (C := RX0) (T := TX0) (N := 2) (ci := 0) hx hb hts (fun _ h => List.mem_cons_of_mem _ (List.mem_append_left _ (List.mem_append_right _ h))) tyX0 tyX0_ok nmX0 hown hL hC hP hS hm_h0 hG_h0 rfl 1 (by decide) (hts (.fieldLink RX0 17 "OrderedClauses$History" "kept" "I") (List.mem_of_getElem? (i := 6) rfl)) (by decide +kernel) (by decide +kernel) (Nat.le_of_ble_eq_true rfl) dX0_init_14 (fun G3 H locs hq hP hS => ?_)
  have hk : ∀ a, a ≠ h0 → G3 a = G2 a := fun a ha => by rw [hq]; exact va_up_ne _ _ ha
  have hG_h0 : G3 h0 = .inr (0, [.ref ar, .int 0]) := by rw [hq]; exact va_up_self _ _ _
  have hG_ar := (hk ar (Ne.symm ne_h0_ar)).trans hG_ar
  have hO : ∀ a, a ∈ L → a ≠ h0 → G3 a = G a := fun a ha hn => (hk a hn).trans (hO a ha hn)
  refine lv_iconst (v := 0) hx hb dX0_init_17 (by decide) ?_
  refine lv_istore_n (lv' := [(1, .int 0), (0, .ref h0)]) hx hb dX0_init_18 rfl hl (by decide) rfl (fun ls hl => ?_)
  refine lv_iload_n hx hb dX0_init_19 rfl (lv_at hl 0 rfl) ?_
  refine lv_aload_n hx hb dX0_init_20 rfl (lv_at hl 1 rfl) ?_
  refine k_get (C := RX0) (T := TX0) (N := 2) (ci := 0) (v := .ref ar) hx hb hts (fun _ h => List.mem_cons_of_mem _ (List.mem_append_left _ (List.mem_append_right _ h))) hown hC hP hm_h0 hG_h0 rfl 0 (by decide) (hts (.fieldLink RX0 11 "OrderedClauses$History" "states" "[LOrderedClauses$Store;") (List.mem_of_getElem? (i := 5) rfl)) rfl dX0_init_21 ?_
  refine k_lenr hx hb hC hP hm_ar hG_ar dX0_init_24 ?_
  refine lv_icmp_ge (tgt := 47) hx hb dX0_init_25 (by decide) (fun c9 => absurd c9 (by decide)) (fun _ => ?_)
  refine lv_aload_n hx hb dX0_init_28 rfl (lv_at hl 1 rfl) ?_
  refine k_get (C := RX0) (T := TX0) (N := 2) (ci := 0) (v := .ref ar) hx hb hts (fun _ h => List.mem_cons_of_mem _ (List.mem_append_left _ (List.mem_append_right _ h))) hown hC hP hm_h0 hG_h0 rfl 0 (by decide) (hts (.fieldLink RX0 11 "OrderedClauses$History" "states" "[LOrderedClauses$Store;") (List.mem_of_getElem? (i := 5) rfl)) rfl dX0_init_29 ?_
  refine lv_iload_n hx hb dX0_init_32 rfl (lv_at hl 0 rfl) ?_
  refine n_obj (ci := 1) (fs := [.null, .null, .null, .null, .null, .null, .null, .null, .int 0, .int 0, .int 0, .int 0, .int 0]) (C := RX1) (T := TX1) (N := 13) hx hb hts (fun _ h => List.mem_cons_of_mem _ (List.mem_append_right _ h)) tyX1 tyX1_ok hown (hts (.classLink RX0 9 RX1) (List.mem_of_getElem? (i := 4) rfl)) (hts (.instantiable RX1 13) (List.mem_of_getElem? (i := 7) rfl)) (hts (.initialized RX1) (List.mem_of_getElem? (i := 8) rfl)) hL hC hO9 hP hS rfl (fun j hj => by rcases (show j = 0 ∨ j = 1 ∨ j = 2 ∨ j = 3 ∨ j = 4 ∨ j = 5 ∨ j = 6 ∨ j = 7 ∨ j = 8 ∨ j = 9 ∨ j = 10 ∨ j = 11 ∨ j = 12 by omega) with rfl | rfl | rfl | rfl | rfl | rfl | rfl | rfl | rfl | rfl | rfl | rfl | rfl <;> rfl) (Nat.le_of_ble_eq_true rfl) (Nat.le_of_ble_eq_true rfl) dX0_init_33 (fun q4 G5 H hq hL hG_q4 hk hP hS => ?_)
  have ne_h0_q4 : h0 ≠ q4 := n_ne hq hm_h0
  have ne_ar_q4 : ar ≠ q4 := n_ne hq hm_ar
  have hG_h0 := (hk h0 hm_h0).trans hG_h0
  have hG_ar := (hk ar hm_ar).trans hG_ar
  have hO : ∀ a, a ∈ L → a ≠ h0 → G5 a = G a := fun a ha hn => (hk a (hsub a ha)).trans (hO a ha hn)
  have h0_q4 : ∀ a, a ∈ L → a ≠ q4 := fun a ha => n_ne hq (hsub a ha)
  have hm_h0 := n_left q4 hm_h0
  have hm_ar := n_left q4 hm_ar
  have hm_q4 : q4 ∈ ((L ++ [ar]) ++ [q4]) := n_last _ _
  have hsub : ∀ a, a ∈ L → a ∈ ((L ++ [ar]) ++ [q4]) := fun a ha => n_left q4 (hsub a ha)
  refine W.widen (k := 2) (n := 18) (Nat.le_of_ble_eq_true rfl) (Nat.le_of_ble_eq_true rfl) ?_
  refine lv_dup hx hb dX0_init_36 rfl ?_
  refine n_init hS (va_runIN (As := []) (rest := [.ref q4, .int 0, .ref ar]) ⟨hx, hb, hml, hown, hts⟩ (c_X1_init l g ((L ++ [ar]) ++ [q4]) hL G5 q4 hm_q4 hG_q4) ⟨va_cnB 0 hts gX0_init_X1_init_n21 rfl rfl rfl (hC.2.1.2 (RX0, 21, yX1_init, RX3) (List.mem_of_getElem? (i := 3) rfl)) (hts (.initialized RX1) (List.mem_of_getElem? (i := 8) rfl)) (by decide +kernel) ⟨Nat.le_of_ble_eq_true rfl, Nat.le_of_ble_eq_true rfl⟩, rfl, (hts (.instanceMethod yX1_init) (List.mem_of_getElem? (i := 9) rfl))⟩ (k_preO hC hO9 hS hP) rfl rfl hl.1 rfl (lv_room (Nat.le_of_ble_eq_true rfl)) dX0_init_37 ⟨Nat.le_of_ble_eq_true rfl, Nat.le_of_ble_eq_true rfl⟩) (fun L7 G6 H locs hpost hP hS => ?_)
  refine W.widen (k := 10) (n := 304) (Nat.le_of_ble_eq_true rfl) (Nat.le_of_ble_eq_true rfl) ?_
  obtain ⟨b0, hl_b0, e1, hL9, hv_q4, hk⟩ := hpost
  dsimp only at e1 hv_q4 hk
  subst e1
  have hn_ar : ∀ a, ownS q4 (rOf b0) 8 a → a ≠ ar := own_new hL9 hl_b0 hm_ar ne_ar_q4
  have nar_q4 := hn_ar
  have hG_h0 := (hk h0 hm_h0 ne_h0_q4).trans hG_h0
  have hG_ar := (hk ar hm_ar ne_ar_q4).trans hG_ar
  have hO : ∀ a, a ∈ L → a ≠ h0 → G6 a = G a := fun a ha hn => (hk a (hsub a ha) (h0_q4 a ha)).trans (hO a ha hn)
  have hm_h0 := (fun a h => List.mem_append_left b0 h) h0 hm_h0
  have hm_ar := (fun a h => List.mem_append_left b0 h) ar hm_ar
  have hm_q4 := (fun a h => List.mem_append_left b0 h) q4 hm_q4
  have hsub : ∀ a, a ∈ L → a ∈ (((L ++ [ar]) ++ [q4]) ++ b0) := fun a ha => (fun a h => List.mem_append_left b0 h) a (hsub a ha)
  have hL := hL9
  refine k_rst hx hb hL hC hP hS hm_ar hG_ar (vO.m hv_q4) (vO.o hv_q4) (i := 0) (vp_in_iff.mpr (by decide)) dX0_init_40 (fun H locs hP hS => ?_)
  obtain ⟨G8, hq⟩ : ∃ z, z = va_up G6 ar (.inl (gR g, 5, .inr (.inr (.inr (.inr (va_up (fun _ => none) ((0 : Int32).toNatClampNeg) (some q4))))))) := ⟨_, rfl⟩
  rw [← hq] at hP
  have hk : ∀ a, a ≠ ar → G8 a = G6 a := fun a ha => by rw [hq]; exact va_up_ne _ _ ha
  have hG_ar : G8 ar = .inl (gR g, 5, .inr (.inr (.inr (.inr (va_up (fun _ => none) ((0 : Int32).toNatClampNeg) (some q4)))))) := by rw [hq]; exact va_up_self _ _ _
  have hv_q4 := vO.mono hv_q4 (by decide) (fun a h => h) (fun a ha => hk a (nar_q4 a ha))
  have hG_h0 := (hk h0 ne_h0_ar).trans hG_h0
  have hO : ∀ a, a ∈ L → a ≠ h0 → G8 a = G a := fun a ha hn => (hk a (h0_ar a ha)).trans (hO a ha hn)
  refine lv_iinc (v := 1) (lv' := [(1, .int 1), (0, .ref h0)]) hx hb dX0_init_41 hl (k := 0) rfl (by decide) (by decide) rfl (fun ls hl => ?_)
  refine lv_goto (tgt := 19) hx hb dX0_init_44 (by decide) ?_
  refine lv_iload_n hx hb dX0_init_19 rfl (lv_at hl 0 rfl) ?_
  refine lv_aload_n hx hb dX0_init_20 rfl (lv_at hl 1 rfl) ?_
  refine k_get (C := RX0) (T := TX0) (N := 2) (ci := 0) (v := .ref ar) hx hb hts (fun _ h => List.mem_cons_of_mem _ (List.mem_append_left _ (List.mem_append_right _ h))) hown hC hP hm_h0 hG_h0 rfl 0 (by decide) (hts (.fieldLink RX0 11 "OrderedClauses$History" "states" "[LOrderedClauses$Store;") (List.mem_of_getElem? (i := 5) rfl)) rfl dX0_init_21 ?_
  refine k_lenr hx hb hC hP hm_ar hG_ar dX0_init_24 ?_
  refine lv_icmp_ge (tgt := 47) hx hb dX0_init_25 (by decide) (fun c9 => absurd c9 (by decide)) (fun _ => ?_)
  refine lv_aload_n hx hb dX0_init_28 rfl (lv_at hl 1 rfl) ?_
  refine k_get (C := RX0) (T := TX0) (N := 2) (ci := 0) (v := .ref ar) hx hb hts (fun _ h => List.mem_cons_of_mem _ (List.mem_append_left _ (List.mem_append_right _ h))) hown hC hP hm_h0 hG_h0 rfl 0 (by decide) (hts (.fieldLink RX0 11 "OrderedClauses$History" "states" "[LOrderedClauses$Store;") (List.mem_of_getElem? (i := 5) rfl)) rfl dX0_init_29 ?_
  refine lv_iload_n hx hb dX0_init_32 rfl (lv_at hl 0 rfl) ?_
  refine n_obj (ci := 1) (fs := [.null, .null, .null, .null, .null, .null, .null, .null, .int 0, .int 0, .int 0, .int 0, .int 0]) (C := RX1) (T := TX1) (N := 13) hx hb hts (fun _ h => List.mem_cons_of_mem _ (List.mem_append_right _ h)) tyX1 tyX1_ok hown (hts (.classLink RX0 9 RX1) (List.mem_of_getElem? (i := 4) rfl)) (hts (.instantiable RX1 13) (List.mem_of_getElem? (i := 7) rfl)) (hts (.initialized RX1) (List.mem_of_getElem? (i := 8) rfl)) hL hC hO9 hP hS rfl (fun j hj => by rcases (show j = 0 ∨ j = 1 ∨ j = 2 ∨ j = 3 ∨ j = 4 ∨ j = 5 ∨ j = 6 ∨ j = 7 ∨ j = 8 ∨ j = 9 ∨ j = 10 ∨ j = 11 ∨ j = 12 by omega) with rfl | rfl | rfl | rfl | rfl | rfl | rfl | rfl | rfl | rfl | rfl | rfl | rfl <;> rfl) (Nat.le_of_ble_eq_true rfl) (Nat.le_of_ble_eq_true rfl) dX0_init_33 (fun q9 G10 H hq hL hG_q9 hk hP hS => ?_)
  have no_q4_q9 : ∀ a, ownS q4 (rOf b0) 8 a → a ≠ q9 := fun a ha => n_ne hq (vO.ownL hv_q4 a ha)
  have hv_q4 := vO.mono hv_q4 (by decide) (fun a h => n_left q9 h) (fun a ha => hk a (vO.ownL hv_q4 a ha))
  have ne_h0_q9 : h0 ≠ q9 := n_ne hq hm_h0
  have ne_ar_q9 : ar ≠ q9 := n_ne hq hm_ar
  have hG_h0 := (hk h0 hm_h0).trans hG_h0
  have hG_ar := (hk ar hm_ar).trans hG_ar
  have hO : ∀ a, a ∈ L → a ≠ h0 → G10 a = G a := fun a ha hn => (hk a (hsub a ha)).trans (hO a ha hn)
  have h0_q9 : ∀ a, a ∈ L → a ≠ q9 := fun a ha => n_ne hq (hsub a ha)
  have hm_h0 := n_left q9 hm_h0
  have hm_ar := n_left q9 hm_ar
  have hm_q9 : q9 ∈ ((((L ++ [ar]) ++ [q4]) ++ b0) ++ [q9]) := n_last _ _
  have hsub : ∀ a, a ∈ L → a ∈ ((((L ++ [ar]) ++ [q4]) ++ b0) ++ [q9]) := fun a ha => n_left q9 (hsub a ha)
  refine W.widen (k := 11) (n := 317) (Nat.le_of_ble_eq_true rfl) (Nat.le_of_ble_eq_true rfl) ?_
  refine lv_dup hx hb dX0_init_36 rfl ?_
  refine n_init hS (va_runIN (As := []) (rest := [.ref q9, .int 1, .ref ar]) ⟨hx, hb, hml, hown, hts⟩ (c_X1_init l g ((((L ++ [ar]) ++ [q4]) ++ b0) ++ [q9]) hL G10 q9 hm_q9 hG_q9) ⟨va_cnB 0 hts gX0_init_X1_init_n21 rfl rfl rfl (hC.2.1.2 (RX0, 21, yX1_init, RX3) (List.mem_of_getElem? (i := 3) rfl)) (hts (.initialized RX1) (List.mem_of_getElem? (i := 8) rfl)) (by decide +kernel) ⟨Nat.le_of_ble_eq_true rfl, Nat.le_of_ble_eq_true rfl⟩, rfl, (hts (.instanceMethod yX1_init) (List.mem_of_getElem? (i := 9) rfl))⟩ (k_preO hC hO9 hS hP) rfl rfl hl.1 rfl (lv_room (Nat.le_of_ble_eq_true rfl)) dX0_init_37 ⟨Nat.le_of_ble_eq_true rfl, Nat.le_of_ble_eq_true rfl⟩) (fun L12 G11 H locs hpost hP hS => ?_)
  refine W.widen (k := 19) (n := 603) (Nat.le_of_ble_eq_true rfl) (Nat.le_of_ble_eq_true rfl) ?_
  obtain ⟨b1, hl_b1, e1, hL9, hv_q9, hk⟩ := hpost
  dsimp only at e1 hv_q9 hk
  subst e1
  have hn_ar : ∀ a, ownS q9 (rOf b1) 8 a → a ≠ ar := own_new hL9 hl_b1 hm_ar ne_ar_q9
  have nar_q9 := hn_ar
  have hG_h0 := (hk h0 hm_h0 ne_h0_q9).trans hG_h0
  have hG_ar := (hk ar hm_ar ne_ar_q9).trans hG_ar
  have hO : ∀ a, a ∈ L → a ≠ h0 → G11 a = G a := fun a ha hn => (hk a (hsub a ha) (h0_q9 a ha)).trans (hO a ha hn)
  have hv_q4 := vO.mono hv_q4 (by decide) (fun a h => List.mem_append_left b1 h) (fun a ha => hk a (vO.ownL hv_q4 a ha) (no_q4_q9 a ha))
  have hm_h0 := (fun a h => List.mem_append_left b1 h) h0 hm_h0
  have hm_ar := (fun a h => List.mem_append_left b1 h) ar hm_ar
  have hm_q9 := (fun a h => List.mem_append_left b1 h) q9 hm_q9
  have hsub : ∀ a, a ∈ L → a ∈ (((((L ++ [ar]) ++ [q4]) ++ b0) ++ [q9]) ++ b1) := fun a ha => (fun a h => List.mem_append_left b1 h) a (hsub a ha)
  have hL := hL9
  refine k_rst hx hb hL hC hP hS hm_ar hG_ar (vO.m hv_q9) (vO.o hv_q9) (i := 1) (vp_in_iff.mpr (by decide)) dX0_init_40 (fun H locs hP hS => ?_)
  obtain ⟨G13, hq⟩ : ∃ z, z = va_up G11 ar (.inl (gR g, 5, .inr (.inr (.inr (.inr (va_up (va_up (fun _ => none) ((0 : Int32).toNatClampNeg) (some q4)) ((1 : Int32).toNatClampNeg) (some q9))))))) := ⟨_, rfl⟩
  rw [← hq] at hP
  have hk : ∀ a, a ≠ ar → G13 a = G11 a := fun a ha => by rw [hq]; exact va_up_ne _ _ ha
  have hG_ar : G13 ar = .inl (gR g, 5, .inr (.inr (.inr (.inr (va_up (va_up (fun _ => none) ((0 : Int32).toNatClampNeg) (some q4)) ((1 : Int32).toNatClampNeg) (some q9)))))) := by rw [hq]; exact va_up_self _ _ _
  have hv_q4 := vO.mono hv_q4 (by decide) (fun a h => h) (fun a ha => hk a (nar_q4 a ha))
  have hv_q9 := vO.mono hv_q9 (by decide) (fun a h => h) (fun a ha => hk a (nar_q9 a ha))
  have hG_h0 := (hk h0 ne_h0_ar).trans hG_h0
  have hO : ∀ a, a ∈ L → a ≠ h0 → G13 a = G a := fun a ha hn => (hk a (h0_ar a ha)).trans (hO a ha hn)
  refine lv_iinc (v := 2) (lv' := [(1, .int 2), (0, .ref h0)]) hx hb dX0_init_41 hl (k := 0) rfl (by decide) (by decide) rfl (fun ls hl => ?_)
  refine lv_goto (tgt := 19) hx hb dX0_init_44 (by decide) ?_
  refine lv_iload_n hx hb dX0_init_19 rfl (lv_at hl 0 rfl) ?_
  refine lv_aload_n hx hb dX0_init_20 rfl (lv_at hl 1 rfl) ?_
  refine k_get (C := RX0) (T := TX0) (N := 2) (ci := 0) (v := .ref ar) hx hb hts (fun _ h => List.mem_cons_of_mem _ (List.mem_append_left _ (List.mem_append_right _ h))) hown hC hP hm_h0 hG_h0 rfl 0 (by decide) (hts (.fieldLink RX0 11 "OrderedClauses$History" "states" "[LOrderedClauses$Store;") (List.mem_of_getElem? (i := 5) rfl)) rfl dX0_init_21 ?_
  refine k_lenr hx hb hC hP hm_ar hG_ar dX0_init_24 ?_
  refine lv_icmp_ge (tgt := 47) hx hb dX0_init_25 (by decide) (fun c9 => absurd c9 (by decide)) (fun _ => ?_)
  refine lv_aload_n hx hb dX0_init_28 rfl (lv_at hl 1 rfl) ?_
  refine k_get (C := RX0) (T := TX0) (N := 2) (ci := 0) (v := .ref ar) hx hb hts (fun _ h => List.mem_cons_of_mem _ (List.mem_append_left _ (List.mem_append_right _ h))) hown hC hP hm_h0 hG_h0 rfl 0 (by decide) (hts (.fieldLink RX0 11 "OrderedClauses$History" "states" "[LOrderedClauses$Store;") (List.mem_of_getElem? (i := 5) rfl)) rfl dX0_init_29 ?_
  refine lv_iload_n hx hb dX0_init_32 rfl (lv_at hl 0 rfl) ?_
  refine n_obj (ci := 1) (fs := [.null, .null, .null, .null, .null, .null, .null, .null, .int 0, .int 0, .int 0, .int 0, .int 0]) (C := RX1) (T := TX1) (N := 13) hx hb hts (fun _ h => List.mem_cons_of_mem _ (List.mem_append_right _ h)) tyX1 tyX1_ok hown (hts (.classLink RX0 9 RX1) (List.mem_of_getElem? (i := 4) rfl)) (hts (.instantiable RX1 13) (List.mem_of_getElem? (i := 7) rfl)) (hts (.initialized RX1) (List.mem_of_getElem? (i := 8) rfl)) hL hC hO9 hP hS rfl (fun j hj => by rcases (show j = 0 ∨ j = 1 ∨ j = 2 ∨ j = 3 ∨ j = 4 ∨ j = 5 ∨ j = 6 ∨ j = 7 ∨ j = 8 ∨ j = 9 ∨ j = 10 ∨ j = 11 ∨ j = 12 by omega) with rfl | rfl | rfl | rfl | rfl | rfl | rfl | rfl | rfl | rfl | rfl | rfl | rfl <;> rfl) (Nat.le_of_ble_eq_true rfl) (Nat.le_of_ble_eq_true rfl) dX0_init_33 (fun q14 G15 H hq hL hG_q14 hk hP hS => ?_)
  have no_q4_q14 : ∀ a, ownS q4 (rOf b0) 8 a → a ≠ q14 := fun a ha => n_ne hq (vO.ownL hv_q4 a ha)
  have no_q9_q14 : ∀ a, ownS q9 (rOf b1) 8 a → a ≠ q14 := fun a ha => n_ne hq (vO.ownL hv_q9 a ha)
  have hv_q4 := vO.mono hv_q4 (by decide) (fun a h => n_left q14 h) (fun a ha => hk a (vO.ownL hv_q4 a ha))
  have hv_q9 := vO.mono hv_q9 (by decide) (fun a h => n_left q14 h) (fun a ha => hk a (vO.ownL hv_q9 a ha))
  have ne_h0_q14 : h0 ≠ q14 := n_ne hq hm_h0
  have ne_ar_q14 : ar ≠ q14 := n_ne hq hm_ar
  have hG_h0 := (hk h0 hm_h0).trans hG_h0
  have hG_ar := (hk ar hm_ar).trans hG_ar
  have hO : ∀ a, a ∈ L → a ≠ h0 → G15 a = G a := fun a ha hn => (hk a (hsub a ha)).trans (hO a ha hn)
  have h0_q14 : ∀ a, a ∈ L → a ≠ q14 := fun a ha => n_ne hq (hsub a ha)
  have hm_h0 := n_left q14 hm_h0
  have hm_ar := n_left q14 hm_ar
  have hm_q14 : q14 ∈ ((((((L ++ [ar]) ++ [q4]) ++ b0) ++ [q9]) ++ b1) ++ [q14]) := n_last _ _
  have hsub : ∀ a, a ∈ L → a ∈ ((((((L ++ [ar]) ++ [q4]) ++ b0) ++ [q9]) ++ b1) ++ [q14]) := fun a ha => n_left q14 (hsub a ha)
  refine W.widen (k := 20) (n := 616) (Nat.le_of_ble_eq_true rfl) (Nat.le_of_ble_eq_true rfl) ?_
  refine lv_dup hx hb dX0_init_36 rfl ?_
  refine n_init hS (va_runIN (As := []) (rest := [.ref q14, .int 2, .ref ar]) ⟨hx, hb, hml, hown, hts⟩ (c_X1_init l g ((((((L ++ [ar]) ++ [q4]) ++ b0) ++ [q9]) ++ b1) ++ [q14]) hL G15 q14 hm_q14 hG_q14) ⟨va_cnB 0 hts gX0_init_X1_init_n21 rfl rfl rfl (hC.2.1.2 (RX0, 21, yX1_init, RX3) (List.mem_of_getElem? (i := 3) rfl)) (hts (.initialized RX1) (List.mem_of_getElem? (i := 8) rfl)) (by decide +kernel) ⟨Nat.le_of_ble_eq_true rfl, Nat.le_of_ble_eq_true rfl⟩, rfl, (hts (.instanceMethod yX1_init) (List.mem_of_getElem? (i := 9) rfl))⟩ (k_preO hC hO9 hS hP) rfl rfl hl.1 rfl (lv_room (Nat.le_of_ble_eq_true rfl)) dX0_init_37 ⟨Nat.le_of_ble_eq_true rfl, Nat.le_of_ble_eq_true rfl⟩) (fun L17 G16 H locs hpost hP hS => ?_)
  refine W.widen (k := 28) (n := 902) (Nat.le_of_ble_eq_true rfl) (Nat.le_of_ble_eq_true rfl) ?_
  obtain ⟨b2, hl_b2, e1, hL9, hv_q14, hk⟩ := hpost
  dsimp only at e1 hv_q14 hk
  subst e1
  have hn_ar : ∀ a, ownS q14 (rOf b2) 8 a → a ≠ ar := own_new hL9 hl_b2 hm_ar ne_ar_q14
  have nar_q14 := hn_ar
  have hG_h0 := (hk h0 hm_h0 ne_h0_q14).trans hG_h0
  have hG_ar := (hk ar hm_ar ne_ar_q14).trans hG_ar
  have hO : ∀ a, a ∈ L → a ≠ h0 → G16 a = G a := fun a ha hn => (hk a (hsub a ha) (h0_q14 a ha)).trans (hO a ha hn)
  have hv_q4 := vO.mono hv_q4 (by decide) (fun a h => List.mem_append_left b2 h) (fun a ha => hk a (vO.ownL hv_q4 a ha) (no_q4_q14 a ha))
  have hv_q9 := vO.mono hv_q9 (by decide) (fun a h => List.mem_append_left b2 h) (fun a ha => hk a (vO.ownL hv_q9 a ha) (no_q9_q14 a ha))
  have hm_h0 := (fun a h => List.mem_append_left b2 h) h0 hm_h0
  have hm_ar := (fun a h => List.mem_append_left b2 h) ar hm_ar
  have hm_q14 := (fun a h => List.mem_append_left b2 h) q14 hm_q14
  have hsub : ∀ a, a ∈ L → a ∈ (((((((L ++ [ar]) ++ [q4]) ++ b0) ++ [q9]) ++ b1) ++ [q14]) ++ b2) := fun a ha => (fun a h => List.mem_append_left b2 h) a (hsub a ha)
  have hL := hL9
  refine k_rst hx hb hL hC hP hS hm_ar hG_ar (vO.m hv_q14) (vO.o hv_q14) (i := 2) (vp_in_iff.mpr (by decide)) dX0_init_40 (fun H locs hP hS => ?_)
  obtain ⟨G18, hq⟩ : ∃ z, z = va_up G16 ar (.inl (gR g, 5, .inr (.inr (.inr (.inr (va_up (va_up (va_up (fun _ => none) ((0 : Int32).toNatClampNeg) (some q4)) ((1 : Int32).toNatClampNeg) (some q9)) ((2 : Int32).toNatClampNeg) (some q14))))))) := ⟨_, rfl⟩
  rw [← hq] at hP
  have hk : ∀ a, a ≠ ar → G18 a = G16 a := fun a ha => by rw [hq]; exact va_up_ne _ _ ha
  have hG_ar : G18 ar = .inl (gR g, 5, .inr (.inr (.inr (.inr (va_up (va_up (va_up (fun _ => none) ((0 : Int32).toNatClampNeg) (some q4)) ((1 : Int32).toNatClampNeg) (some q9)) ((2 : Int32).toNatClampNeg) (some q14)))))) := by rw [hq]; exact va_up_self _ _ _
  have hv_q4 := vO.mono hv_q4 (by decide) (fun a h => h) (fun a ha => hk a (nar_q4 a ha))
  have hv_q9 := vO.mono hv_q9 (by decide) (fun a h => h) (fun a ha => hk a (nar_q9 a ha))
  have hv_q14 := vO.mono hv_q14 (by decide) (fun a h => h) (fun a ha => hk a (nar_q14 a ha))
  have hG_h0 := (hk h0 ne_h0_ar).trans hG_h0
  have hO : ∀ a, a ∈ L → a ≠ h0 → G18 a = G a := fun a ha hn => (hk a (h0_ar a ha)).trans (hO a ha hn)
  refine lv_iinc (v := 3) (lv' := [(1, .int 3), (0, .ref h0)]) hx hb dX0_init_41 hl (k := 0) rfl (by decide) (by decide) rfl (fun ls hl => ?_)
  refine lv_goto (tgt := 19) hx hb dX0_init_44 (by decide) ?_
  refine lv_iload_n hx hb dX0_init_19 rfl (lv_at hl 0 rfl) ?_
  refine lv_aload_n hx hb dX0_init_20 rfl (lv_at hl 1 rfl) ?_
  refine k_get (C := RX0) (T := TX0) (N := 2) (ci := 0) (v := .ref ar) hx hb hts (fun _ h => List.mem_cons_of_mem _ (List.mem_append_left _ (List.mem_append_right _ h))) hown hC hP hm_h0 hG_h0 rfl 0 (by decide) (hts (.fieldLink RX0 11 "OrderedClauses$History" "states" "[LOrderedClauses$Store;") (List.mem_of_getElem? (i := 5) rfl)) rfl dX0_init_21 ?_
  refine k_lenr hx hb hC hP hm_ar hG_ar dX0_init_24 ?_
  refine lv_icmp_ge (tgt := 47) hx hb dX0_init_25 (by decide) (fun c9 => absurd c9 (by decide)) (fun _ => ?_)
  refine lv_aload_n hx hb dX0_init_28 rfl (lv_at hl 1 rfl) ?_
  refine k_get (C := RX0) (T := TX0) (N := 2) (ci := 0) (v := .ref ar) hx hb hts (fun _ h => List.mem_cons_of_mem _ (List.mem_append_left _ (List.mem_append_right _ h))) hown hC hP hm_h0 hG_h0 rfl 0 (by decide) (hts (.fieldLink RX0 11 "OrderedClauses$History" "states" "[LOrderedClauses$Store;") (List.mem_of_getElem? (i := 5) rfl)) rfl dX0_init_29 ?_
  refine lv_iload_n hx hb dX0_init_32 rfl (lv_at hl 0 rfl) ?_
  refine n_obj (ci := 1) (fs := [.null, .null, .null, .null, .null, .null, .null, .null, .int 0, .int 0, .int 0, .int 0, .int 0]) (C := RX1) (T := TX1) (N := 13) hx hb hts (fun _ h => List.mem_cons_of_mem _ (List.mem_append_right _ h)) tyX1 tyX1_ok hown (hts (.classLink RX0 9 RX1) (List.mem_of_getElem? (i := 4) rfl)) (hts (.instantiable RX1 13) (List.mem_of_getElem? (i := 7) rfl)) (hts (.initialized RX1) (List.mem_of_getElem? (i := 8) rfl)) hL hC hO9 hP hS rfl (fun j hj => by rcases (show j = 0 ∨ j = 1 ∨ j = 2 ∨ j = 3 ∨ j = 4 ∨ j = 5 ∨ j = 6 ∨ j = 7 ∨ j = 8 ∨ j = 9 ∨ j = 10 ∨ j = 11 ∨ j = 12 by omega) with rfl | rfl | rfl | rfl | rfl | rfl | rfl | rfl | rfl | rfl | rfl | rfl | rfl <;> rfl) (Nat.le_of_ble_eq_true rfl) (Nat.le_of_ble_eq_true rfl) dX0_init_33 (fun q19 G20 H hq hL hG_q19 hk hP hS => ?_)
  have no_q4_q19 : ∀ a, ownS q4 (rOf b0) 8 a → a ≠ q19 := fun a ha => n_ne hq (vO.ownL hv_q4 a ha)
  have no_q9_q19 : ∀ a, ownS q9 (rOf b1) 8 a → a ≠ q19 := fun a ha => n_ne hq (vO.ownL hv_q9 a ha)
  have no_q14_q19 : ∀ a, ownS q14 (rOf b2) 8 a → a ≠ q19 := fun a ha => n_ne hq (vO.ownL hv_q14 a ha)
  have hv_q4 := vO.mono hv_q4 (by decide) (fun a h => n_left q19 h) (fun a ha => hk a (vO.ownL hv_q4 a ha))
  have hv_q9 := vO.mono hv_q9 (by decide) (fun a h => n_left q19 h) (fun a ha => hk a (vO.ownL hv_q9 a ha))
  have hv_q14 := vO.mono hv_q14 (by decide) (fun a h => n_left q19 h) (fun a ha => hk a (vO.ownL hv_q14 a ha))
  have ne_h0_q19 : h0 ≠ q19 := n_ne hq hm_h0
  have ne_ar_q19 : ar ≠ q19 := n_ne hq hm_ar
  have hG_h0 := (hk h0 hm_h0).trans hG_h0
  have hG_ar := (hk ar hm_ar).trans hG_ar
  have hO : ∀ a, a ∈ L → a ≠ h0 → G20 a = G a := fun a ha hn => (hk a (hsub a ha)).trans (hO a ha hn)
  have h0_q19 : ∀ a, a ∈ L → a ≠ q19 := fun a ha => n_ne hq (hsub a ha)
  have hm_h0 := n_left q19 hm_h0
  have hm_ar := n_left q19 hm_ar
  have hm_q19 : q19 ∈ ((((((((L ++ [ar]) ++ [q4]) ++ b0) ++ [q9]) ++ b1) ++ [q14]) ++ b2) ++ [q19]) := n_last _ _
  have hsub : ∀ a, a ∈ L → a ∈ ((((((((L ++ [ar]) ++ [q4]) ++ b0) ++ [q9]) ++ b1) ++ [q14]) ++ b2) ++ [q19]) := fun a ha => n_left q19 (hsub a ha)
  refine W.widen (k := 29) (n := 915) (Nat.le_of_ble_eq_true rfl) (Nat.le_of_ble_eq_true rfl) ?_
  refine lv_dup hx hb dX0_init_36 rfl ?_
  refine n_init hS (va_runIN (As := []) (rest := [.ref q19, .int 3, .ref ar]) ⟨hx, hb, hml, hown, hts⟩ (c_X1_init l g ((((((((L ++ [ar]) ++ [q4]) ++ b0) ++ [q9]) ++ b1) ++ [q14]) ++ b2) ++ [q19]) hL G20 q19 hm_q19 hG_q19) ⟨va_cnB 0 hts gX0_init_X1_init_n21 rfl rfl rfl (hC.2.1.2 (RX0, 21, yX1_init, RX3) (List.mem_of_getElem? (i := 3) rfl)) (hts (.initialized RX1) (List.mem_of_getElem? (i := 8) rfl)) (by decide +kernel) ⟨Nat.le_of_ble_eq_true rfl, Nat.le_of_ble_eq_true rfl⟩, rfl, (hts (.instanceMethod yX1_init) (List.mem_of_getElem? (i := 9) rfl))⟩ (k_preO hC hO9 hS hP) rfl rfl hl.1 rfl (lv_room (Nat.le_of_ble_eq_true rfl)) dX0_init_37 ⟨Nat.le_of_ble_eq_true rfl, Nat.le_of_ble_eq_true rfl⟩) (fun L22 G21 H locs hpost hP hS => ?_)
  refine W.widen (k := 37) (n := 1201) (Nat.le_of_ble_eq_true rfl) (Nat.le_of_ble_eq_true rfl) ?_
  obtain ⟨b3, hl_b3, e1, hL9, hv_q19, hk⟩ := hpost
  dsimp only at e1 hv_q19 hk
  subst e1
  have hn_ar : ∀ a, ownS q19 (rOf b3) 8 a → a ≠ ar := own_new hL9 hl_b3 hm_ar ne_ar_q19
  have nar_q19 := hn_ar
  have hG_h0 := (hk h0 hm_h0 ne_h0_q19).trans hG_h0
  have hG_ar := (hk ar hm_ar ne_ar_q19).trans hG_ar
  have hO : ∀ a, a ∈ L → a ≠ h0 → G21 a = G a := fun a ha hn => (hk a (hsub a ha) (h0_q19 a ha)).trans (hO a ha hn)
  have hv_q4 := vO.mono hv_q4 (by decide) (fun a h => List.mem_append_left b3 h) (fun a ha => hk a (vO.ownL hv_q4 a ha) (no_q4_q19 a ha))
  have hv_q9 := vO.mono hv_q9 (by decide) (fun a h => List.mem_append_left b3 h) (fun a ha => hk a (vO.ownL hv_q9 a ha) (no_q9_q19 a ha))
  have hv_q14 := vO.mono hv_q14 (by decide) (fun a h => List.mem_append_left b3 h) (fun a ha => hk a (vO.ownL hv_q14 a ha) (no_q14_q19 a ha))
  have hm_h0 := (fun a h => List.mem_append_left b3 h) h0 hm_h0
  have hm_ar := (fun a h => List.mem_append_left b3 h) ar hm_ar
  have hm_q19 := (fun a h => List.mem_append_left b3 h) q19 hm_q19
  have hsub : ∀ a, a ∈ L → a ∈ (((((((((L ++ [ar]) ++ [q4]) ++ b0) ++ [q9]) ++ b1) ++ [q14]) ++ b2) ++ [q19]) ++ b3) := fun a ha => (fun a h => List.mem_append_left b3 h) a (hsub a ha)
  have hL := hL9
  refine k_rst hx hb hL hC hP hS hm_ar hG_ar (vO.m hv_q19) (vO.o hv_q19) (i := 3) (vp_in_iff.mpr (by decide)) dX0_init_40 (fun H locs hP hS => ?_)
  obtain ⟨G23, hq⟩ : ∃ z, z = va_up G21 ar (.inl (gR g, 5, .inr (.inr (.inr (.inr (va_up (va_up (va_up (va_up (fun _ => none) ((0 : Int32).toNatClampNeg) (some q4)) ((1 : Int32).toNatClampNeg) (some q9)) ((2 : Int32).toNatClampNeg) (some q14)) ((3 : Int32).toNatClampNeg) (some q19))))))) := ⟨_, rfl⟩
  rw [← hq] at hP
  have hk : ∀ a, a ≠ ar → G23 a = G21 a := fun a ha => by rw [hq]; exact va_up_ne _ _ ha
  have hG_ar : G23 ar = .inl (gR g, 5, .inr (.inr (.inr (.inr (va_up (va_up (va_up (va_up (fun _ => none) ((0 : Int32).toNatClampNeg) (some q4)) ((1 : Int32).toNatClampNeg) (some q9)) ((2 : Int32).toNatClampNeg) (some q14)) ((3 : Int32).toNatClampNeg) (some q19)))))) := by rw [hq]; exact va_up_self _ _ _
  have hv_q4 := vO.mono hv_q4 (by decide) (fun a h => h) (fun a ha => hk a (nar_q4 a ha))
  have hv_q9 := vO.mono hv_q9 (by decide) (fun a h => h) (fun a ha => hk a (nar_q9 a ha))
  have hv_q14 := vO.mono hv_q14 (by decide) (fun a h => h) (fun a ha => hk a (nar_q14 a ha))
  have hv_q19 := vO.mono hv_q19 (by decide) (fun a h => h) (fun a ha => hk a (nar_q19 a ha))
  have hG_h0 := (hk h0 ne_h0_ar).trans hG_h0
  have hO : ∀ a, a ∈ L → a ≠ h0 → G23 a = G a := fun a ha hn => (hk a (h0_ar a ha)).trans (hO a ha hn)
  refine lv_iinc (v := 4) (lv' := [(1, .int 4), (0, .ref h0)]) hx hb dX0_init_41 hl (k := 0) rfl (by decide) (by decide) rfl (fun ls hl => ?_)
  refine lv_goto (tgt := 19) hx hb dX0_init_44 (by decide) ?_
  refine lv_iload_n hx hb dX0_init_19 rfl (lv_at hl 0 rfl) ?_
  refine lv_aload_n hx hb dX0_init_20 rfl (lv_at hl 1 rfl) ?_
  refine k_get (C := RX0) (T := TX0) (N := 2) (ci := 0) (v := .ref ar) hx hb hts (fun _ h => List.mem_cons_of_mem _ (List.mem_append_left _ (List.mem_append_right _ h))) hown hC hP hm_h0 hG_h0 rfl 0 (by decide) (hts (.fieldLink RX0 11 "OrderedClauses$History" "states" "[LOrderedClauses$Store;") (List.mem_of_getElem? (i := 5) rfl)) rfl dX0_init_21 ?_
  refine k_lenr hx hb hC hP hm_ar hG_ar dX0_init_24 ?_
  refine lv_icmp_ge (tgt := 47) hx hb dX0_init_25 (by decide) (fun c9 => absurd c9 (by decide)) (fun _ => ?_)
  refine lv_aload_n hx hb dX0_init_28 rfl (lv_at hl 1 rfl) ?_
  refine k_get (C := RX0) (T := TX0) (N := 2) (ci := 0) (v := .ref ar) hx hb hts (fun _ h => List.mem_cons_of_mem _ (List.mem_append_left _ (List.mem_append_right _ h))) hown hC hP hm_h0 hG_h0 rfl 0 (by decide) (hts (.fieldLink RX0 11 "OrderedClauses$History" "states" "[LOrderedClauses$Store;") (List.mem_of_getElem? (i := 5) rfl)) rfl dX0_init_29 ?_
  refine lv_iload_n hx hb dX0_init_32 rfl (lv_at hl 0 rfl) ?_
  refine n_obj (ci := 1) (fs := [.null, .null, .null, .null, .null, .null, .null, .null, .int 0, .int 0, .int 0, .int 0, .int 0]) (C := RX1) (T := TX1) (N := 13) hx hb hts (fun _ h => List.mem_cons_of_mem _ (List.mem_append_right _ h)) tyX1 tyX1_ok hown (hts (.classLink RX0 9 RX1) (List.mem_of_getElem? (i := 4) rfl)) (hts (.instantiable RX1 13) (List.mem_of_getElem? (i := 7) rfl)) (hts (.initialized RX1) (List.mem_of_getElem? (i := 8) rfl)) hL hC hO9 hP hS rfl (fun j hj => by rcases (show j = 0 ∨ j = 1 ∨ j = 2 ∨ j = 3 ∨ j = 4 ∨ j = 5 ∨ j = 6 ∨ j = 7 ∨ j = 8 ∨ j = 9 ∨ j = 10 ∨ j = 11 ∨ j = 12 by omega) with rfl | rfl | rfl | rfl | rfl | rfl | rfl | rfl | rfl | rfl | rfl | rfl | rfl <;> rfl) (Nat.le_of_ble_eq_true rfl) (Nat.le_of_ble_eq_true rfl) dX0_init_33 (fun q24 G25 H hq hL hG_q24 hk hP hS => ?_)
  have no_q4_q24 : ∀ a, ownS q4 (rOf b0) 8 a → a ≠ q24 := fun a ha => n_ne hq (vO.ownL hv_q4 a ha)
  have no_q9_q24 : ∀ a, ownS q9 (rOf b1) 8 a → a ≠ q24 := fun a ha => n_ne hq (vO.ownL hv_q9 a ha)
  have no_q14_q24 : ∀ a, ownS q14 (rOf b2) 8 a → a ≠ q24 := fun a ha => n_ne hq (vO.ownL hv_q14 a ha)
  have no_q19_q24 : ∀ a, ownS q19 (rOf b3) 8 a → a ≠ q24 := fun a ha => n_ne hq (vO.ownL hv_q19 a ha)
  have hv_q4 := vO.mono hv_q4 (by decide) (fun a h => n_left q24 h) (fun a ha => hk a (vO.ownL hv_q4 a ha))
  have hv_q9 := vO.mono hv_q9 (by decide) (fun a h => n_left q24 h) (fun a ha => hk a (vO.ownL hv_q9 a ha))
  have hv_q14 := vO.mono hv_q14 (by decide) (fun a h => n_left q24 h) (fun a ha => hk a (vO.ownL hv_q14 a ha))
  have hv_q19 := vO.mono hv_q19 (by decide) (fun a h => n_left q24 h) (fun a ha => hk a (vO.ownL hv_q19 a ha))
  have ne_h0_q24 : h0 ≠ q24 := n_ne hq hm_h0
  have ne_ar_q24 : ar ≠ q24 := n_ne hq hm_ar
  have hG_h0 := (hk h0 hm_h0).trans hG_h0
  have hG_ar := (hk ar hm_ar).trans hG_ar
  have hO : ∀ a, a ∈ L → a ≠ h0 → G25 a = G a := fun a ha hn => (hk a (hsub a ha)).trans (hO a ha hn)
  have h0_q24 : ∀ a, a ∈ L → a ≠ q24 := fun a ha => n_ne hq (hsub a ha)
  have hm_h0 := n_left q24 hm_h0
  have hm_ar := n_left q24 hm_ar
  have hm_q24 : q24 ∈ ((((((((((L ++ [ar]) ++ [q4]) ++ b0) ++ [q9]) ++ b1) ++ [q14]) ++ b2) ++ [q19]) ++ b3) ++ [q24]) := n_last _ _
  have hsub : ∀ a, a ∈ L → a ∈ ((((((((((L ++ [ar]) ++ [q4]) ++ b0) ++ [q9]) ++ b1) ++ [q14]) ++ b2) ++ [q19]) ++ b3) ++ [q24]) := fun a ha => n_left q24 (hsub a ha)
  refine W.widen (k := 38) (n := 1214) (Nat.le_of_ble_eq_true rfl) (Nat.le_of_ble_eq_true rfl) ?_
  refine lv_dup hx hb dX0_init_36 rfl ?_
  refine n_init hS (va_runIN (As := []) (rest := [.ref q24, .int 4, .ref ar]) ⟨hx, hb, hml, hown, hts⟩ (c_X1_init l g ((((((((((L ++ [ar]) ++ [q4]) ++ b0) ++ [q9]) ++ b1) ++ [q14]) ++ b2) ++ [q19]) ++ b3) ++ [q24]) hL G25 q24 hm_q24 hG_q24) ⟨va_cnB 0 hts gX0_init_X1_init_n21 rfl rfl rfl (hC.2.1.2 (RX0, 21, yX1_init, RX3) (List.mem_of_getElem? (i := 3) rfl)) (hts (.initialized RX1) (List.mem_of_getElem? (i := 8) rfl)) (by decide +kernel) ⟨Nat.le_of_ble_eq_true rfl, Nat.le_of_ble_eq_true rfl⟩, rfl, (hts (.instanceMethod yX1_init) (List.mem_of_getElem? (i := 9) rfl))⟩ (k_preO hC hO9 hS hP) rfl rfl hl.1 rfl (lv_room (Nat.le_of_ble_eq_true rfl)) dX0_init_37 ⟨Nat.le_of_ble_eq_true rfl, Nat.le_of_ble_eq_true rfl⟩) (fun L27 G26 H locs hpost hP hS => ?_)
  refine W.widen (k := 46) (n := 1500) (Nat.le_of_ble_eq_true rfl) (Nat.le_of_ble_eq_true rfl) ?_
  obtain ⟨b4, hl_b4, e1, hL9, hv_q24, hk⟩ := hpost
  dsimp only at e1 hv_q24 hk
  subst e1
  have hn_ar : ∀ a, ownS q24 (rOf b4) 8 a → a ≠ ar := own_new hL9 hl_b4 hm_ar ne_ar_q24
  have nar_q24 := hn_ar
  have hG_h0 := (hk h0 hm_h0 ne_h0_q24).trans hG_h0
  have hG_ar := (hk ar hm_ar ne_ar_q24).trans hG_ar
  have hO : ∀ a, a ∈ L → a ≠ h0 → G26 a = G a := fun a ha hn => (hk a (hsub a ha) (h0_q24 a ha)).trans (hO a ha hn)
  have hv_q4 := vO.mono hv_q4 (by decide) (fun a h => List.mem_append_left b4 h) (fun a ha => hk a (vO.ownL hv_q4 a ha) (no_q4_q24 a ha))
  have hv_q9 := vO.mono hv_q9 (by decide) (fun a h => List.mem_append_left b4 h) (fun a ha => hk a (vO.ownL hv_q9 a ha) (no_q9_q24 a ha))
  have hv_q14 := vO.mono hv_q14 (by decide) (fun a h => List.mem_append_left b4 h) (fun a ha => hk a (vO.ownL hv_q14 a ha) (no_q14_q24 a ha))
  have hv_q19 := vO.mono hv_q19 (by decide) (fun a h => List.mem_append_left b4 h) (fun a ha => hk a (vO.ownL hv_q19 a ha) (no_q19_q24 a ha))
  have hm_h0 := (fun a h => List.mem_append_left b4 h) h0 hm_h0
  have hm_ar := (fun a h => List.mem_append_left b4 h) ar hm_ar
  have hm_q24 := (fun a h => List.mem_append_left b4 h) q24 hm_q24
  have hsub : ∀ a, a ∈ L → a ∈ (((((((((((L ++ [ar]) ++ [q4]) ++ b0) ++ [q9]) ++ b1) ++ [q14]) ++ b2) ++ [q19]) ++ b3) ++ [q24]) ++ b4) := fun a ha => (fun a h => List.mem_append_left b4 h) a (hsub a ha)
  have hL := hL9
  refine k_rst hx hb hL hC hP hS hm_ar hG_ar (vO.m hv_q24) (vO.o hv_q24) (i := 4) (vp_in_iff.mpr (by decide)) dX0_init_40 (fun H locs hP hS => ?_)
  obtain ⟨G28, hq⟩ : ∃ z, z = va_up G26 ar (.inl (gR g, 5, .inr (.inr (.inr (.inr (va_up (va_up (va_up (va_up (va_up (fun _ => none) ((0 : Int32).toNatClampNeg) (some q4)) ((1 : Int32).toNatClampNeg) (some q9)) ((2 : Int32).toNatClampNeg) (some q14)) ((3 : Int32).toNatClampNeg) (some q19)) ((4 : Int32).toNatClampNeg) (some q24))))))) := ⟨_, rfl⟩
  rw [← hq] at hP
  have hk : ∀ a, a ≠ ar → G28 a = G26 a := fun a ha => by rw [hq]; exact va_up_ne _ _ ha
  have hG_ar : G28 ar = .inl (gR g, 5, .inr (.inr (.inr (.inr (va_up (va_up (va_up (va_up (va_up (fun _ => none) ((0 : Int32).toNatClampNeg) (some q4)) ((1 : Int32).toNatClampNeg) (some q9)) ((2 : Int32).toNatClampNeg) (some q14)) ((3 : Int32).toNatClampNeg) (some q19)) ((4 : Int32).toNatClampNeg) (some q24)))))) := by rw [hq]; exact va_up_self _ _ _
  have hv_q4 := vO.mono hv_q4 (by decide) (fun a h => h) (fun a ha => hk a (nar_q4 a ha))
  have hv_q9 := vO.mono hv_q9 (by decide) (fun a h => h) (fun a ha => hk a (nar_q9 a ha))
  have hv_q14 := vO.mono hv_q14 (by decide) (fun a h => h) (fun a ha => hk a (nar_q14 a ha))
  have hv_q19 := vO.mono hv_q19 (by decide) (fun a h => h) (fun a ha => hk a (nar_q19 a ha))
  have hv_q24 := vO.mono hv_q24 (by decide) (fun a h => h) (fun a ha => hk a (nar_q24 a ha))
  have hG_h0 := (hk h0 ne_h0_ar).trans hG_h0
  have hO : ∀ a, a ∈ L → a ≠ h0 → G28 a = G a := fun a ha hn => (hk a (h0_ar a ha)).trans (hO a ha hn)
  refine lv_iinc (v := 5) (lv' := [(1, .int 5), (0, .ref h0)]) hx hb dX0_init_41 hl (k := 0) rfl (by decide) (by decide) rfl (fun ls hl => ?_)
  refine lv_goto (tgt := 19) hx hb dX0_init_44 (by decide) ?_
  refine lv_iload_n hx hb dX0_init_19 rfl (lv_at hl 0 rfl) ?_
  refine lv_aload_n hx hb dX0_init_20 rfl (lv_at hl 1 rfl) ?_
  refine k_get (C := RX0) (T := TX0) (N := 2) (ci := 0) (v := .ref ar) hx hb hts (fun _ h => List.mem_cons_of_mem _ (List.mem_append_left _ (List.mem_append_right _ h))) hown hC hP hm_h0 hG_h0 rfl 0 (by decide) (hts (.fieldLink RX0 11 "OrderedClauses$History" "states" "[LOrderedClauses$Store;") (List.mem_of_getElem? (i := 5) rfl)) rfl dX0_init_21 ?_
  refine k_lenr hx hb hC hP hm_ar hG_ar dX0_init_24 ?_
  refine lv_icmp_ge (tgt := 47) hx hb dX0_init_25 (by decide) (fun _ => ?_) (fun c9 => absurd c9 (by decide))
  have eL : (((((((((((L ++ [ar]) ++ [q4]) ++ b0) ++ [q9]) ++ b1) ++ [q14]) ++ b2) ++ [q19]) ++ b3) ++ [q24]) ++ b4) = L ++ ([ar] ++ ([q4] ++ b0 ++ ([q9] ++ b1) ++ ([q14] ++ b2) ++ ([q19] ++ b3) ++ ([q24] ++ b4))) := by simp only [List.append_assoc]
  have eR : (va_up (va_up (va_up (va_up (va_up (fun _ => none) ((0 : Int32).toNatClampNeg) (some q4)) ((1 : Int32).toNatClampNeg) (some q9)) ((2 : Int32).toNatClampNeg) (some q14)) ((3 : Int32).toNatClampNeg) (some q19)) ((4 : Int32).toNatClampNeg) (some q24)) = (fun i => if i < 5 then some (rOf [q4, q9, q14, q19, q24] i) else none : Nat → Option Nat) := by
    funext i
    match i with
    | 0 => rfl
    | 1 => rfl
    | 2 => rfl
    | 3 => rfl
    | 4 => rfl
    | n + 5 =>
      have z : ∀ k : Nat, k < 5 → n + 5 ≠ k := fun k hk => by omega
      rw [va_up_ne _ _ (show n + 5 ≠ Int32.toNatClampNeg 4 from z 4 (by omega)), va_up_ne _ _ (show n + 5 ≠ Int32.toNatClampNeg 3 from z 3 (by omega)), va_up_ne _ _ (show n + 5 ≠ Int32.toNatClampNeg 2 from z 2 (by omega)), va_up_ne _ _ (show n + 5 ≠ Int32.toNatClampNeg 1 from z 1 (by omega)), va_up_ne _ _ (show n + 5 ≠ Int32.toNatClampNeg 0 from z 0 (by omega)), if_neg (by omega)]
  rw [eR] at hG_ar
  rw [eL] at hL
  rw [eL] at hP
  rw [eL] at hv_q4
  rw [eL] at hv_q9
  rw [eL] at hv_q14
  rw [eL] at hv_q19
  rw [eL] at hv_q24
  exact W.vret hx hb hr (fun t ht _ => ⟨⟨(L ++ ([ar] ++ ([q4] ++ b0 ++ ([q9] ++ b1) ++ ([q14] ++ b2) ++ ([q19] ++ b3) ++ ([q24] ++ b4))), G28), rfl, ⟨ar, q4, q9, q14, q19, q24, b0, b1, b2, b3, b4, hl_b0, hl_b1, hl_b2, hl_b3, hl_b4, rfl, hL, hG_h0, hG_ar, hv_q4, hv_q9, hv_q14, hv_q19, hv_q24, hO⟩, by show va_P _ _ _ t.heap; rw [ht]; exact hP⟩, hS.F ht⟩) hS.2.2 dX0_init_47 hlk
/-- what the class holds when it is new -/
def xI : XS := (stI, fun _ => stI, fun i => i, 0, txI)
set_option maxHeartbeats 4000000 in
set_option maxRecDepth 100000 in
theorem newX_of {g : Gm} {A : Nat → Prop} {L : List Nat} {G : Nat → va_E} {h0 q6 ar q11 w60 q1 s0 w00 w01 w02 w03 w04 w05 w06 w07 s1 w10 w11 w12 w13 w14 w15 w16 w17 s2 w20 w21 w22 w23 w24 w25 w26 w27 s3 w30 w31 w32 w33 w34 w35 w36 w37 s4 w40 w41 w42 w43 w44 w45 w46 w47 w50 w51 w52 w53 w54 w55 w56 w57 : Nat} (hm0 : h0 ∈ L) (hL : kL (L ++ [q1, w50, w51, w52, w53, w54, w55, w56, w57, q6, ar, s0, w00, w01, w02, w03, w04, w05, w06, w07, s1, w10, w11, w12, w13, w14, w15, w16, w17, s2, w20, w21, w22, w23, w24, w25, w26, w27, s3, w30, w31, w32, w33, w34, w35, w36, w37, s4, w40, w41, w42, w43, w44, w45, w46, w47, q11, w60]) A) (h1 : G h0 = .inr (3, [.ref q1, .ref q6, .ref q11])) (h2 : G q6 = .inr (0, [.ref ar, .int 0])) (h3 : G ar = .inl (gR g, 5, .inr (.inr (.inr (.inr (fun i => if i < 5 then some (rOf [s0, s1, s2, s3, s4] i) else none)))))) (m0 : h0 ∈ (L ++ [q1, w50, w51, w52, w53, w54, w55, w56, w57, q6, ar, s0, w00, w01, w02, w03, w04, w05, w06, w07, s1, w10, w11, w12, w13, w14, w15, w16, w17, s2, w20, w21, w22, w23, w24, w25, w26, w27, s3, w30, w31, w32, w33, w34, w35, w36, w37, s4, w40, w41, w42, w43, w44, w45, w46, w47, q11, w60])) (m1 : q6 ∈ (L ++ [q1, w50, w51, w52, w53, w54, w55, w56, w57, q6, ar, s0, w00, w01, w02, w03, w04, w05, w06, w07, s1, w10, w11, w12, w13, w14, w15, w16, w17, s2, w20, w21, w22, w23, w24, w25, w26, w27, s3, w30, w31, w32, w33, w34, w35, w36, w37, s4, w40, w41, w42, w43, w44, w45, w46, w47, q11, w60])) (m2 : ar ∈ (L ++ [q1, w50, w51, w52, w53, w54, w55, w56, w57, q6, ar, s0, w00, w01, w02, w03, w04, w05, w06, w07, s1, w10, w11, w12, w13, w14, w15, w16, w17, s2, w20, w21, w22, w23, w24, w25, w26, w27, s3, w30, w31, w32, w33, w34, w35, w36, w37, s4, w40, w41, w42, w43, w44, w45, w46, w47, q11, w60])) (v5 : vS g (L ++ [q1, w50, w51, w52, w53, w54, w55, w56, w57, q6, ar, s0, w00, w01, w02, w03, w04, w05, w06, w07, s1, w10, w11, w12, w13, w14, w15, w16, w17, s2, w20, w21, w22, w23, w24, w25, w26, w27, s3, w30, w31, w32, w33, w34, w35, w36, w37, s4, w40, w41, w42, w43, w44, w45, w46, w47, q11, w60]) G q1 (rOf [w50, w51, w52, w53, w54, w55, w56, w57]) stI) (v0 : vS g (L ++ [q1, w50, w51, w52, w53, w54, w55, w56, w57, q6, ar, s0, w00, w01, w02, w03, w04, w05, w06, w07, s1, w10, w11, w12, w13, w14, w15, w16, w17, s2, w20, w21, w22, w23, w24, w25, w26, w27, s3, w30, w31, w32, w33, w34, w35, w36, w37, s4, w40, w41, w42, w43, w44, w45, w46, w47, q11, w60]) G s0 (rOf [w00, w01, w02, w03, w04, w05, w06, w07]) stI) (v1 : vS g (L ++ [q1, w50, w51, w52, w53, w54, w55, w56, w57, q6, ar, s0, w00, w01, w02, w03, w04, w05, w06, w07, s1, w10, w11, w12, w13, w14, w15, w16, w17, s2, w20, w21, w22, w23, w24, w25, w26, w27, s3, w30, w31, w32, w33, w34, w35, w36, w37, s4, w40, w41, w42, w43, w44, w45, w46, w47, q11, w60]) G s1 (rOf [w10, w11, w12, w13, w14, w15, w16, w17]) stI) (v2 : vS g (L ++ [q1, w50, w51, w52, w53, w54, w55, w56, w57, q6, ar, s0, w00, w01, w02, w03, w04, w05, w06, w07, s1, w10, w11, w12, w13, w14, w15, w16, w17, s2, w20, w21, w22, w23, w24, w25, w26, w27, s3, w30, w31, w32, w33, w34, w35, w36, w37, s4, w40, w41, w42, w43, w44, w45, w46, w47, q11, w60]) G s2 (rOf [w20, w21, w22, w23, w24, w25, w26, w27]) stI) (v3 : vS g (L ++ [q1, w50, w51, w52, w53, w54, w55, w56, w57, q6, ar, s0, w00, w01, w02, w03, w04, w05, w06, w07, s1, w10, w11, w12, w13, w14, w15, w16, w17, s2, w20, w21, w22, w23, w24, w25, w26, w27, s3, w30, w31, w32, w33, w34, w35, w36, w37, s4, w40, w41, w42, w43, w44, w45, w46, w47, q11, w60]) G s3 (rOf [w30, w31, w32, w33, w34, w35, w36, w37]) stI) (v4 : vS g (L ++ [q1, w50, w51, w52, w53, w54, w55, w56, w57, q6, ar, s0, w00, w01, w02, w03, w04, w05, w06, w07, s1, w10, w11, w12, w13, w14, w15, w16, w17, s2, w20, w21, w22, w23, w24, w25, w26, w27, s3, w30, w31, w32, w33, w34, w35, w36, w37, s4, w40, w41, w42, w43, w44, w45, w46, w47, q11, w60]) G s4 (rOf [w40, w41, w42, w43, w44, w45, w46, w47]) stI) (vt : vT g (L ++ [q1, w50, w51, w52, w53, w54, w55, w56, w57, q6, ar, s0, w00, w01, w02, w03, w04, w05, w06, w07, s1, w10, w11, w12, w13, w14, w15, w16, w17, s2, w20, w21, w22, w23, w24, w25, w26, w27, s3, w30, w31, w32, w33, w34, w35, w36, w37, s4, w40, w41, w42, w43, w44, w45, w46, w47, q11, w60]) G q11 (rOf [w60]) txI) : vX g (L ++ [q1, w50, w51, w52, w53, w54, w55, w56, w57, q6, ar, s0, w00, w01, w02, w03, w04, w05, w06, w07, s1, w10, w11, w12, w13, w14, w15, w16, w17, s2, w20, w21, w22, w23, w24, w25, w26, w27, s3, w30, w31, w32, w33, w34, w35, w36, w37, s4, w40, w41, w42, w43, w44, w45, w46, w47, q11, w60]) G (rOf [h0, q6, ar, q11, w60, s0, w00, w01, w02, w03, w04, w05, w06, w07, s1, w10, w11, w12, w13, w14, w15, w16, w17, s2, w20, w21, w22, w23, w24, w25, w26, w27, s3, w30, w31, w32, w33, w34, w35, w36, w37, s4, w40, w41, w42, w43, w44, w45, w46, w47, q1, w50, w51, w52, w53, w54, w55, w56, w57]) xI := by
  have hp : (h0 :: [q1, w50, w51, w52, w53, w54, w55, w56, w57, q6, ar, s0, w00, w01, w02, w03, w04, w05, w06, w07, s1, w10, w11, w12, w13, w14, w15, w16, w17, s2, w20, w21, w22, w23, w24, w25, w26, w27, s3, w30, w31, w32, w33, w34, w35, w36, w37, s4, w40, w41, w42, w43, w44, w45, w46, w47, q11, w60]).Nodup := by
    refine List.nodup_cons.mpr ⟨fun h => (List.nodup_append.mp hL.1).2.2 h0 hm0 h0 h rfl, (List.nodup_append.mp hL.1).2.1⟩
  have hq : [h0, q6, ar, q11, w60, s0, w00, w01, w02, w03, w04, w05, w06, w07, s1, w10, w11, w12, w13, w14, w15, w16, w17, s2, w20, w21, w22, w23, w24, w25, w26, w27, s3, w30, w31, w32, w33, w34, w35, w36, w37, s4, w40, w41, w42, w43, w44, w45, w46, w47, q1, w50, w51, w52, w53, w54, w55, w56, w57].Nodup := by
    refine (List.Perm.nodup_iff (l₁ := h0 :: [q1, w50, w51, w52, w53, w54, w55, w56, w57, q6, ar, s0, w00, w01, w02, w03, w04, w05, w06, w07, s1, w10, w11, w12, w13, w14, w15, w16, w17, s2, w20, w21, w22, w23, w24, w25, w26, w27, s3, w30, w31, w32, w33, w34, w35, w36, w37, s4, w40, w41, w42, w43, w44, w45, w46, w47, q11, w60]) ?_).mp hp
    refine List.perm_iff_count.mpr (fun a => ?_)
    simp only [List.count_cons, List.count_nil]
    omega
  refine ⟨rOf_inj hq, fun i hi => ?_, h1, h2, ?_, ?_, fun p hp => ?_, ?_⟩
  · have hz : rOf [h0, q6, ar, q11, w60, s0, w00, w01, w02, w03, w04, w05, w06, w07, s1, w10, w11, w12, w13, w14, w15, w16, w17, s2, w20, w21, w22, w23, w24, w25, w26, w27, s3, w30, w31, w32, w33, w34, w35, w36, w37, s4, w40, w41, w42, w43, w44, w45, w46, w47, q1, w50, w51, w52, w53, w54, w55, w56, w57] i ∈ [h0, q6, ar, q11, w60, s0, w00, w01, w02, w03, w04, w05, w06, w07, s1, w10, w11, w12, w13, w14, w15, w16, w17, s2, w20, w21, w22, w23, w24, w25, w26, w27, s3, w30, w31, w32, w33, w34, w35, w36, w37, s4, w40, w41, w42, w43, w44, w45, w46, w47, q1, w50, w51, w52, w53, w54, w55, w56, w57] := by
      unfold rOf
      rw [List.getD_eq_getElem?_getD, List.getElem?_eq_getElem (show i < [h0, q6, ar, q11, w60, s0, w00, w01, w02, w03, w04, w05, w06, w07, s1, w10, w11, w12, w13, w14, w15, w16, w17, s2, w20, w21, w22, w23, w24, w25, w26, w27, s3, w30, w31, w32, w33, w34, w35, w36, w37, s4, w40, w41, w42, w43, w44, w45, w46, w47, q1, w50, w51, w52, w53, w54, w55, w56, w57].length from hi)]
      exact List.getElem_mem _
    generalize rOf [h0, q6, ar, q11, w60, s0, w00, w01, w02, w03, w04, w05, w06, w07, s1, w10, w11, w12, w13, w14, w15, w16, w17, s2, w20, w21, w22, w23, w24, w25, w26, w27, s3, w30, w31, w32, w33, w34, w35, w36, w37, s4, w40, w41, w42, w43, w44, w45, w46, w47, q1, w50, w51, w52, w53, w54, w55, w56, w57] i = a at hz
    have hz2 : a ∈ h0 :: [q1, w50, w51, w52, w53, w54, w55, w56, w57, q6, ar, s0, w00, w01, w02, w03, w04, w05, w06, w07, s1, w10, w11, w12, w13, w14, w15, w16, w17, s2, w20, w21, w22, w23, w24, w25, w26, w27, s3, w30, w31, w32, w33, w34, w35, w36, w37, s4, w40, w41, w42, w43, w44, w45, w46, w47, q11, w60] := by
      have hc : ∀ b, [h0, q6, ar, q11, w60, s0, w00, w01, w02, w03, w04, w05, w06, w07, s1, w10, w11, w12, w13, w14, w15, w16, w17, s2, w20, w21, w22, w23, w24, w25, w26, w27, s3, w30, w31, w32, w33, w34, w35, w36, w37, s4, w40, w41, w42, w43, w44, w45, w46, w47, q1, w50, w51, w52, w53, w54, w55, w56, w57].count b = (h0 :: [q1, w50, w51, w52, w53, w54, w55, w56, w57, q6, ar, s0, w00, w01, w02, w03, w04, w05, w06, w07, s1, w10, w11, w12, w13, w14, w15, w16, w17, s2, w20, w21, w22, w23, w24, w25, w26, w27, s3, w30, w31, w32, w33, w34, w35, w36, w37, s4, w40, w41, w42, w43, w44, w45, w46, w47, q11, w60]).count b := fun b => by
        simp only [List.count_cons, List.count_nil]
        omega
      exact List.count_pos_iff.mp (by rw [← hc a]; exact List.count_pos_iff.mpr hz)
    rcases List.mem_cons.mp hz2 with h | h
    · rw [h]; exact m0
    · exact List.mem_append_right _ h
  · rw [show rOf [h0, q6, ar, q11, w60, s0, w00, w01, w02, w03, w04, w05, w06, w07, s1, w10, w11, w12, w13, w14, w15, w16, w17, s2, w20, w21, w22, w23, w24, w25, w26, w27, s3, w30, w31, w32, w33, w34, w35, w36, w37, s4, w40, w41, w42, w43, w44, w45, w46, w47, q1, w50, w51, w52, w53, w54, w55, w56, w57] 2 = ar from rfl, h3]
    have er : (fun i => if i < 5 then some (rOf [s0, s1, s2, s3, s4] i) else none : Nat → Option Nat) = rfc (rOf [h0, q6, ar, q11, w60, s0, w00, w01, w02, w03, w04, w05, w06, w07, s1, w10, w11, w12, w13, w14, w15, w16, w17, s2, w20, w21, w22, w23, w24, w25, w26, w27, s3, w30, w31, w32, w33, w34, w35, w36, w37, s4, w40, w41, w42, w43, w44, w45, w46, w47, q1, w50, w51, w52, w53, w54, w55, w56, w57]) xI.2.2.1 := by
      funext i
      match i with
      | 0 => rfl
      | 1 => rfl
      | 2 => rfl
      | 3 => rfl
      | 4 => rfl
      | n + 5 =>
        show (if n + 5 < 5 then _ else none) = if n + 5 < 5 then _ else none
        rw [if_neg (by omega), if_neg (by omega)]
    rw [er]
  · exact vO.rc v5 (by decide) (fun j hj => by rcases (show j = 0 ∨ j = 1 ∨ j = 2 ∨ j = 3 ∨ j = 4 ∨ j = 5 ∨ j = 6 ∨ j = 7 by omega) with rfl | rfl | rfl | rfl | rfl | rfl | rfl | rfl <;> rfl) rfl
  · rcases (show p = 0 ∨ p = 1 ∨ p = 2 ∨ p = 3 ∨ p = 4 by omega) with rfl | rfl | rfl | rfl | rfl
    · exact vO.rc v0 (by decide) (fun j hj => by rcases (show j = 0 ∨ j = 1 ∨ j = 2 ∨ j = 3 ∨ j = 4 ∨ j = 5 ∨ j = 6 ∨ j = 7 by omega) with rfl | rfl | rfl | rfl | rfl | rfl | rfl | rfl <;> rfl) rfl
    · exact vO.rc v1 (by decide) (fun j hj => by rcases (show j = 0 ∨ j = 1 ∨ j = 2 ∨ j = 3 ∨ j = 4 ∨ j = 5 ∨ j = 6 ∨ j = 7 by omega) with rfl | rfl | rfl | rfl | rfl | rfl | rfl | rfl <;> rfl) rfl
    · exact vO.rc v2 (by decide) (fun j hj => by rcases (show j = 0 ∨ j = 1 ∨ j = 2 ∨ j = 3 ∨ j = 4 ∨ j = 5 ∨ j = 6 ∨ j = 7 by omega) with rfl | rfl | rfl | rfl | rfl | rfl | rfl | rfl <;> rfl) rfl
    · exact vO.rc v3 (by decide) (fun j hj => by rcases (show j = 0 ∨ j = 1 ∨ j = 2 ∨ j = 3 ∨ j = 4 ∨ j = 5 ∨ j = 6 ∨ j = 7 by omega) with rfl | rfl | rfl | rfl | rfl | rfl | rfl | rfl <;> rfl) rfl
    · exact vO.rc v4 (by decide) (fun j hj => by rcases (show j = 0 ∨ j = 1 ∨ j = 2 ∨ j = 3 ∨ j = 4 ∨ j = 5 ∨ j = 6 ∨ j = 7 by omega) with rfl | rfl | rfl | rfl | rfl | rfl | rfl | rfl <;> rfl) rfl
  · exact vO.rc vt (by decide) (fun j hj => by rcases (show j = 0 by omega) with rfl; rfl) rfl
def newX (g : Gm) (A : Nat → Prop) (L : List Nat) (G : Nat → va_E) (h0 : Nat) (q : List Nat × (Nat → va_E)) : Prop := ∃ (N : List Nat) (ad : Nat → Nat), ad 0 = h0 ∧ q.1 = L ++ N ∧ kL q.1 A ∧ vX g q.1 q.2 ad xI ∧ ∀ a, a ∈ L → a ≠ h0 → q.2 a = G a
set_option maxHeartbeats 4000000 in
set_option maxRecDepth 100000 in
theorem c_X3_init (l : Launch) (g : Gm) (L : List Nat) {A : Nat → Prop} (hL : kL L A) (G : Nat → va_E) (h0 : Nat) (hm0 : h0 ∈ L) (hG0 : G h0 = .inr (3, [.null, .null, .null])) : Met l yX3_init wsX3_init ({ frames := 3, cells := 58, slots := 1863, locals := 64 } : Room) (va_Pc [.ref h0] (kBO g L A G)) (va_Qv (newX g A L G h0) (fun q t => va_P g.1 vwCl (va_pl q.1 q.2) t.heap) A) 58 1863 A := by
  refine Met.ofW (cc := cX3_init) (maxL := 1) (ret := none) (by decide) rfl ?_
  intro p e s m args below meth c s₁ B hml hv
  obtain ⟨rfl, ⟨hP, hC⟩, hO9⟩ := hv
  have hx := B.exec
  have hb := B.bytes
  have hr := B.returns
  have hts := atoms_spec (ws := wsX3_init) B.pre
  have hown : s.vm.findClass RX3 = some m.cls := findClass_of_methodNamed B.named
  have hlk := B.notSynchronized
  have hin0 : meth.name = "<init>" := (name_of_methodNamed B.named B.method).1
  have hS : va_S A s.heap s.heap [] := va_S.rf
  have hm_h0 := hm0
  have hG_h0 := hG0
  have hsub : ∀ a, a ∈ L → a ∈ L := fun a ha => ha
  have hO : ∀ a, a ∈ L → a ≠ h0 → G a = G a := fun _ _ _ => rfl
  have hl := lv_entry ([.ref h0]) (n := 1) (Nat.le_of_ble_eq_true rfl)
  rw [lg_entry_eq]
  generalize (lg_sl ([.ref h0]) ++ List.replicate (1 - (lg_sl ([.ref h0])).length) Slot.unset).toArray = ls at hl ⊢
  have hl : lv_has ls 1 [(0, .ref h0)] := hl
  refine lv_aload_n hx hb dX3_init_0 rfl (lv_at hl 0 rfl) ?_
  refine W.objInit hx hb hown (hts (.methodLink RX3 1 objectInit) (List.mem_of_getElem? (i := 1) rfl)) (hts (.instanceMethod objectInit) (List.mem_of_getElem? (i := 2) rfl)) (hts (.code objectInit ⟨#[0xb1]⟩ 1 none) (List.mem_of_getElem? (i := 3) rfl)) rfl (by rw [hml]; exact hl.1) rfl dX3_init_1 (Nat.le_of_ble_eq_true rfl) (Nat.le_of_ble_eq_true rfl) ?_
  refine W.eq (g2 := F0 m 4 ls []) rfl ?_
  refine lv_aload_n hx hb dX3_init_4 rfl (lv_at hl 0 rfl) ?_
  refine n_obj (ci := 1) (fs := [.null, .null, .null, .null, .null, .null, .null, .null, .int 0, .int 0, .int 0, .int 0, .int 0]) (C := RX1) (T := TX1) (N := 13) hx hb hts (fun _ h => List.mem_cons_of_mem _ (List.mem_append_left _ (List.mem_append_left _ (List.mem_append_left _ (List.mem_append_right _ h))))) tyX1 tyX1_ok hown (hts (.classLink RX3 7 RX1) (List.mem_of_getElem? (i := 4) rfl)) (hts (.instantiable RX1 13) (List.mem_of_getElem? (i := 5) rfl)) (hts (.initialized RX1) (List.mem_of_getElem? (i := 6) rfl)) hL hC hO9 hP hS rfl (fun j hj => by rcases (show j = 0 ∨ j = 1 ∨ j = 2 ∨ j = 3 ∨ j = 4 ∨ j = 5 ∨ j = 6 ∨ j = 7 ∨ j = 8 ∨ j = 9 ∨ j = 10 ∨ j = 11 ∨ j = 12 by omega) with rfl | rfl | rfl | rfl | rfl | rfl | rfl | rfl | rfl | rfl | rfl | rfl | rfl <;> rfl) (Nat.le_of_ble_eq_true rfl) (Nat.le_of_ble_eq_true rfl) dX3_init_5 (fun q1 G2 H hq hL hG_q1 hk hP hS => ?_)
  have ne_h0_q1 : h0 ≠ q1 := n_ne hq hm_h0
  have hG_h0 := (hk h0 hm_h0).trans hG_h0
  have hO : ∀ a, a ∈ L → a ≠ h0 → G2 a = G a := fun a ha hn => (hk a (hsub a ha)).trans (hO a ha hn)
  have h0_q1 : ∀ a, a ∈ L → a ≠ q1 := fun a ha => n_ne hq (hsub a ha)
  have hm_h0 := n_left q1 hm_h0
  have hm_q1 : q1 ∈ (L ++ [q1]) := n_last _ _
  have hsub : ∀ a, a ∈ L → a ∈ (L ++ [q1]) := fun a ha => n_left q1 (hsub a ha)
  refine W.widen (k := 1) (n := 13) (Nat.le_of_ble_eq_true rfl) (Nat.le_of_ble_eq_true rfl) ?_
  refine lv_dup hx hb dX3_init_8 rfl ?_
  refine n_init hS (va_runIN (As := []) (rest := [.ref q1, .ref h0]) ⟨hx, hb, hml, hown, hts⟩ (c_X1_init l g (L ++ [q1]) hL G2 q1 hm_q1 hG_q1) ⟨va_cnB 0 hts gX3_init_X1_init_n9 rfl rfl rfl (hC.2.1.2 (RX3, 9, yX1_init, RX3) (List.mem_of_getElem? (i := 0) rfl)) (hts (.initialized RX1) (List.mem_of_getElem? (i := 6) rfl)) (by decide +kernel) ⟨Nat.le_of_ble_eq_true rfl, Nat.le_of_ble_eq_true rfl⟩, rfl, (hts (.instanceMethod yX1_init) (List.mem_of_getElem? (i := 16) rfl))⟩ (k_preO hC hO9 hS hP) rfl rfl hl.1 rfl (lv_room (Nat.le_of_ble_eq_true rfl)) dX3_init_9 ⟨Nat.le_of_ble_eq_true rfl, Nat.le_of_ble_eq_true rfl⟩) (fun L4 G3 H locs hpost hP hS => ?_)
  refine W.widen (k := 9) (n := 299) (Nat.le_of_ble_eq_true rfl) (Nat.le_of_ble_eq_true rfl) ?_
  obtain ⟨b5, hl_b5, e1, hL9, hv_q1, hk⟩ := hpost
  dsimp only at e1 hv_q1 hk
  subst e1
  have nh0_q1 : ∀ a, ownS q1 (rOf b5) 8 a → a ≠ h0 := own_new hL9 hl_b5 hm_h0 ne_h0_q1
  have hG_h0 := (hk h0 hm_h0 ne_h0_q1).trans hG_h0
  have hO : ∀ a, a ∈ L → a ≠ h0 → G3 a = G a := fun a ha hn => (hk a (hsub a ha) (h0_q1 a ha)).trans (hO a ha hn)
  have hm_h0 := (fun a h => List.mem_append_left b5 h) h0 hm_h0
  have hm_q1 := (fun a h => List.mem_append_left b5 h) q1 hm_q1
  have hsub : ∀ a, a ∈ L → a ∈ ((L ++ [q1]) ++ b5) := fun a ha => (fun a h => List.mem_append_left b5 h) a (hsub a ha)
  have hL := hL9
  refine n_putF (C := RX3) (T := TX3) (N := 3) (ci := 3) hx hb hts (fun _ h => List.mem_cons_of_mem _ (List.mem_append_left _ (List.mem_append_left _ (List.mem_append_right _ h)))) tyX3 tyX3_ok nmX3 hown hL hC hP hS hm_h0 hG_h0 rfl 0 (by decide) (hts (.fieldLink RX3 10 "OrderedClauses" "store" "LOrderedClauses$Store;") (List.mem_of_getElem? (i := 7) rfl)) (by decide +kernel) hin0 rfl (ty := tyX3 0) (tyX3_ok 0 (by decide)) rfl rfl (Nat.le_of_ble_eq_true rfl) dX3_init_12 (fun G5 H locs hq hk hP hS => ?_)
  have hG_h0 : G5 h0 = .inr (3, [.ref q1, .null, .null]) := hq
  have hv_q1 := vO.mono hv_q1 (by decide) (fun a h => h) (fun a ha => hk a (nh0_q1 a ha))
  have hO : ∀ a, a ∈ L → a ≠ h0 → G5 a = G a := fun a ha hn => (hk a hn).trans (hO a ha hn)
  refine lv_aload_n hx hb dX3_init_15 rfl (lv_at hl 0 rfl) ?_
  refine n_obj (ci := 0) (fs := [.null, .int 0]) (C := RX0) (T := TX0) (N := 2) hx hb hts (fun _ h => List.mem_cons_of_mem _ (List.mem_append_left _ (List.mem_append_right _ h))) tyX0 tyX0_ok hown (hts (.classLink RX3 16 RX0) (List.mem_of_getElem? (i := 8) rfl)) (hts (.instantiable RX0 2) (List.mem_of_getElem? (i := 9) rfl)) (hts (.initialized RX0) (List.mem_of_getElem? (i := 10) rfl)) hL hC hO9 hP hS rfl (fun j hj => by rcases (show j = 0 ∨ j = 1 by omega) with rfl | rfl <;> rfl) (Nat.le_of_ble_eq_true rfl) (Nat.le_of_ble_eq_true rfl) dX3_init_16 (fun q6 G7 H hq hL hG_q6 hk hP hS => ?_)
  have no_q1_q6 : ∀ a, ownS q1 (rOf b5) 8 a → a ≠ q6 := fun a ha => n_ne hq (vO.ownL hv_q1 a ha)
  have hv_q1 := vO.mono hv_q1 (by decide) (fun a h => n_left q6 h) (fun a ha => hk a (vO.ownL hv_q1 a ha))
  have ne_h0_q6 : h0 ≠ q6 := n_ne hq hm_h0
  have hG_h0 := (hk h0 hm_h0).trans hG_h0
  have hO : ∀ a, a ∈ L → a ≠ h0 → G7 a = G a := fun a ha hn => (hk a (hsub a ha)).trans (hO a ha hn)
  have h0_q6 : ∀ a, a ∈ L → a ≠ q6 := fun a ha => n_ne hq (hsub a ha)
  have hm_h0 := n_left q6 hm_h0
  have hm_q6 : q6 ∈ (((L ++ [q1]) ++ b5) ++ [q6]) := n_last _ _
  have hsub : ∀ a, a ∈ L → a ∈ (((L ++ [q1]) ++ b5) ++ [q6]) := fun a ha => n_left q6 (hsub a ha)
  refine W.widen (k := 10) (n := 301) (Nat.le_of_ble_eq_true rfl) (Nat.le_of_ble_eq_true rfl) ?_
  refine lv_dup hx hb dX3_init_19 rfl ?_
  refine n_init hS (va_runIN (As := []) (rest := [.ref q6, .ref h0]) ⟨hx, hb, hml, hown, hts⟩ (c_X0_init l g (((L ++ [q1]) ++ b5) ++ [q6]) hL G7 q6 hm_q6 hG_q6) ⟨va_cnB 0 hts gX3_init_X0_init_n18 rfl rfl rfl (hC.2.1.2 (RX3, 18, yX0_init, RX3) (List.mem_of_getElem? (i := 2) rfl)) (hts (.initialized RX0) (List.mem_of_getElem? (i := 10) rfl)) (by decide +kernel) ⟨Nat.le_of_ble_eq_true rfl, Nat.le_of_ble_eq_true rfl⟩, rfl, (hts (.instanceMethod yX0_init) (List.mem_of_getElem? (i := 37) rfl))⟩ (k_preO hC hO9 hS hP) rfl rfl hl.1 rfl (lv_room (Nat.le_of_ble_eq_true rfl)) dX3_init_20 ⟨Nat.le_of_ble_eq_true rfl, Nat.le_of_ble_eq_true rfl⟩) (fun L9 G8 H locs hpost hP hS => ?_)
  refine W.widen (k := 56) (n := 1801) (Nat.le_of_ble_eq_true rfl) (Nat.le_of_ble_eq_true rfl) ?_
  obtain ⟨ar, s0, s1, s2, s3, s4, b0, b1, b2, b3, b4, hl_b0, hl_b1, hl_b2, hl_b3, hl_b4, e1, hL9, hG_q6, hG_ar, hv_s0, hv_s1, hv_s2, hv_s3, hv_s4, hk⟩ := hpost
  dsimp only at e1 hL9 hG_q6 hG_ar hv_s0 hv_s1 hv_s2 hv_s3 hv_s4 hk
  subst e1
  have hG_h0 := (hk h0 hm_h0 ne_h0_q6).trans hG_h0
  have hO : ∀ a, a ∈ L → a ≠ h0 → G8 a = G a := fun a ha hn => (hk a (hsub a ha) (h0_q6 a ha)).trans (hO a ha hn)
  have hv_q1 := vO.mono hv_q1 (by decide) (fun a h => List.mem_append_left ([ar] ++ ([s0] ++ b0 ++ ([s1] ++ b1) ++ ([s2] ++ b2) ++ ([s3] ++ b3) ++ ([s4] ++ b4))) h) (fun a ha => hk a (vO.ownL hv_q1 a ha) (no_q1_q6 a ha))
  have hm_h0 := (fun a h => List.mem_append_left ([ar] ++ ([s0] ++ b0 ++ ([s1] ++ b1) ++ ([s2] ++ b2) ++ ([s3] ++ b3) ++ ([s4] ++ b4))) h) h0 hm_h0
  have hm_q6 := (fun a h => List.mem_append_left ([ar] ++ ([s0] ++ b0 ++ ([s1] ++ b1) ++ ([s2] ++ b2) ++ ([s3] ++ b3) ++ ([s4] ++ b4))) h) q6 hm_q6
  have hsub : ∀ a, a ∈ L → a ∈ ((((L ++ [q1]) ++ b5) ++ [q6]) ++ ([ar] ++ ([s0] ++ b0 ++ ([s1] ++ b1) ++ ([s2] ++ b2) ++ ([s3] ++ b3) ++ ([s4] ++ b4)))) := fun a ha => (fun a h => List.mem_append_left ([ar] ++ ([s0] ++ b0 ++ ([s1] ++ b1) ++ ([s2] ++ b2) ++ ([s3] ++ b3) ++ ([s4] ++ b4))) h) a (hsub a ha)
  have hL := hL9
  have dz : ∀ a, a ∈ (((L ++ [q1]) ++ b5) ++ [q6]) → ∀ q, q ∈ ([ar] ++ ([s0] ++ b0 ++ ([s1] ++ b1) ++ ([s2] ++ b2) ++ ([s3] ++ b3) ++ ([s4] ++ b4))) → q ≠ a := fun a ha q hq9 e9 => (List.nodup_append.mp hL9.1).2.2 a ha q hq9 e9.symm
  have hm_ar : ar ∈ ((((L ++ [q1]) ++ b5) ++ [q6]) ++ ([ar] ++ ([s0] ++ b0 ++ ([s1] ++ b1) ++ ([s2] ++ b2) ++ ([s3] ++ b3) ++ ([s4] ++ b4)))) := List.mem_append_right _ (List.mem_append_left _ (List.mem_singleton.mpr rfl))
  have h0o : h0 ∈ (((L ++ [q1]) ++ b5) ++ [q6]) := by simp [hm0]
  have hqo : q6 ∈ (((L ++ [q1]) ++ b5) ++ [q6]) := n_last _ _
  have ne_h0_ar : h0 ≠ ar := fun e9 => dz h0 h0o ar (List.mem_append_left _ (List.mem_singleton.mpr rfl)) e9.symm
  have ne_q6_ar : q6 ≠ ar := fun e9 => dz q6 hqo ar (List.mem_append_left _ (List.mem_singleton.mpr rfl)) e9.symm
  have h0_ar : ∀ a, a ∈ L → a ≠ ar := fun a ha e9 => dz a (by simp [ha]) ar (List.mem_append_left _ (List.mem_singleton.mpr rfl)) e9.symm
  have nh0_s0 : ∀ a, ownS s0 (rOf b0) 8 a → a ≠ h0 := fun a ha => by
    refine dz h0 h0o a ?_
    rcases ha with rfl | ⟨j, hj, rfl⟩
    · simp
    · have hz : rOf b0 j ∈ b0 := by
        unfold rOf
        rw [List.getD_eq_getElem?_getD, List.getElem?_eq_getElem (by omega)]
        exact List.getElem_mem _
      simp [hz]
  have nh0_s1 : ∀ a, ownS s1 (rOf b1) 8 a → a ≠ h0 := fun a ha => by
    refine dz h0 h0o a ?_
    rcases ha with rfl | ⟨j, hj, rfl⟩
    · simp
    · have hz : rOf b1 j ∈ b1 := by
        unfold rOf
        rw [List.getD_eq_getElem?_getD, List.getElem?_eq_getElem (by omega)]
        exact List.getElem_mem _
      simp [hz]
  have nh0_s2 : ∀ a, ownS s2 (rOf b2) 8 a → a ≠ h0 := fun a ha => by
    refine dz h0 h0o a ?_
    rcases ha with rfl | ⟨j, hj, rfl⟩
    · simp
    · have hz : rOf b2 j ∈ b2 := by
        unfold rOf
        rw [List.getD_eq_getElem?_getD, List.getElem?_eq_getElem (by omega)]
        exact List.getElem_mem _
      simp [hz]
  have nh0_s3 : ∀ a, ownS s3 (rOf b3) 8 a → a ≠ h0 := fun a ha => by
    refine dz h0 h0o a ?_
    rcases ha with rfl | ⟨j, hj, rfl⟩
    · simp
    · have hz : rOf b3 j ∈ b3 := by
        unfold rOf
        rw [List.getD_eq_getElem?_getD, List.getElem?_eq_getElem (by omega)]
        exact List.getElem_mem _
      simp [hz]
  have nh0_s4 : ∀ a, ownS s4 (rOf b4) 8 a → a ≠ h0 := fun a ha => by
    refine dz h0 h0o a ?_
    rcases ha with rfl | ⟨j, hj, rfl⟩
    · simp
    · have hz : rOf b4 j ∈ b4 := by
        unfold rOf
        rw [List.getD_eq_getElem?_getD, List.getElem?_eq_getElem (by omega)]
        exact List.getElem_mem _
      simp [hz]
  refine n_putF (C := RX3) (T := TX3) (N := 3) (ci := 3) hx hb hts (fun _ h => List.mem_cons_of_mem _ (List.mem_append_left _ (List.mem_append_left _ (List.mem_append_right _ h)))) tyX3 tyX3_ok nmX3 hown hL hC hP hS hm_h0 hG_h0 rfl 1 (by decide) (hts (.fieldLink RX3 19 "OrderedClauses" "history" "LOrderedClauses$History;") (List.mem_of_getElem? (i := 11) rfl)) (by decide +kernel) hin0 rfl (ty := tyX3 1) (tyX3_ok 1 (by decide)) rfl rfl (Nat.le_of_ble_eq_true rfl) dX3_init_23 (fun G10 H locs hq hk hP hS => ?_)
  have hG_h0 : G10 h0 = .inr (3, [.ref q1, .ref q6, .null]) := hq
  have hv_q1 := vO.mono hv_q1 (by decide) (fun a h => h) (fun a ha => hk a (nh0_q1 a ha))
  have hv_s0 := vO.mono hv_s0 (by decide) (fun a h => h) (fun a ha => hk a (nh0_s0 a ha))
  have hv_s1 := vO.mono hv_s1 (by decide) (fun a h => h) (fun a ha => hk a (nh0_s1 a ha))
  have hv_s2 := vO.mono hv_s2 (by decide) (fun a h => h) (fun a ha => hk a (nh0_s2 a ha))
  have hv_s3 := vO.mono hv_s3 (by decide) (fun a h => h) (fun a ha => hk a (nh0_s3 a ha))
  have hv_s4 := vO.mono hv_s4 (by decide) (fun a h => h) (fun a ha => hk a (nh0_s4 a ha))
  have hG_q6 := (hk q6 (Ne.symm ne_h0_q6)).trans hG_q6
  have hG_ar := (hk ar (Ne.symm ne_h0_ar)).trans hG_ar
  have hO : ∀ a, a ∈ L → a ≠ h0 → G10 a = G a := fun a ha hn => (hk a hn).trans (hO a ha hn)
  refine lv_aload_n hx hb dX3_init_26 rfl (lv_at hl 0 rfl) ?_
  refine n_obj (ci := 2) (fs := [.null, .int 0]) (C := RX2) (T := TX2) (N := 2) hx hb hts (fun _ h => List.mem_cons_of_mem _ (List.mem_append_right _ h)) tyX2 tyX2_ok hown (hts (.classLink RX3 23 RX2) (List.mem_of_getElem? (i := 12) rfl)) (hts (.instantiable RX2 2) (List.mem_of_getElem? (i := 13) rfl)) (hts (.initialized RX2) (List.mem_of_getElem? (i := 14) rfl)) hL hC hO9 hP hS rfl (fun j hj => by rcases (show j = 0 ∨ j = 1 by omega) with rfl | rfl <;> rfl) (Nat.le_of_ble_eq_true rfl) (Nat.le_of_ble_eq_true rfl) dX3_init_27 (fun q11 G12 H hq hL hG_q11 hk hP hS => ?_)
  have no_q1_q11 : ∀ a, ownS q1 (rOf b5) 8 a → a ≠ q11 := fun a ha => n_ne hq (vO.ownL hv_q1 a ha)
  have no_s0_q11 : ∀ a, ownS s0 (rOf b0) 8 a → a ≠ q11 := fun a ha => n_ne hq (vO.ownL hv_s0 a ha)
  have no_s1_q11 : ∀ a, ownS s1 (rOf b1) 8 a → a ≠ q11 := fun a ha => n_ne hq (vO.ownL hv_s1 a ha)
  have no_s2_q11 : ∀ a, ownS s2 (rOf b2) 8 a → a ≠ q11 := fun a ha => n_ne hq (vO.ownL hv_s2 a ha)
  have no_s3_q11 : ∀ a, ownS s3 (rOf b3) 8 a → a ≠ q11 := fun a ha => n_ne hq (vO.ownL hv_s3 a ha)
  have no_s4_q11 : ∀ a, ownS s4 (rOf b4) 8 a → a ≠ q11 := fun a ha => n_ne hq (vO.ownL hv_s4 a ha)
  have hv_q1 := vO.mono hv_q1 (by decide) (fun a h => n_left q11 h) (fun a ha => hk a (vO.ownL hv_q1 a ha))
  have hv_s0 := vO.mono hv_s0 (by decide) (fun a h => n_left q11 h) (fun a ha => hk a (vO.ownL hv_s0 a ha))
  have hv_s1 := vO.mono hv_s1 (by decide) (fun a h => n_left q11 h) (fun a ha => hk a (vO.ownL hv_s1 a ha))
  have hv_s2 := vO.mono hv_s2 (by decide) (fun a h => n_left q11 h) (fun a ha => hk a (vO.ownL hv_s2 a ha))
  have hv_s3 := vO.mono hv_s3 (by decide) (fun a h => n_left q11 h) (fun a ha => hk a (vO.ownL hv_s3 a ha))
  have hv_s4 := vO.mono hv_s4 (by decide) (fun a h => n_left q11 h) (fun a ha => hk a (vO.ownL hv_s4 a ha))
  have ne_h0_q11 : h0 ≠ q11 := n_ne hq hm_h0
  have ne_q6_q11 : q6 ≠ q11 := n_ne hq hm_q6
  have ne_ar_q11 : ar ≠ q11 := n_ne hq hm_ar
  have hG_h0 := (hk h0 hm_h0).trans hG_h0
  have hG_q6 := (hk q6 hm_q6).trans hG_q6
  have hG_ar := (hk ar hm_ar).trans hG_ar
  have hO : ∀ a, a ∈ L → a ≠ h0 → G12 a = G a := fun a ha hn => (hk a (hsub a ha)).trans (hO a ha hn)
  have h0_q11 : ∀ a, a ∈ L → a ≠ q11 := fun a ha => n_ne hq (hsub a ha)
  have hm_h0 := n_left q11 hm_h0
  have hm_q6 := n_left q11 hm_q6
  have hm_ar := n_left q11 hm_ar
  have hm_q11 : q11 ∈ (((((L ++ [q1]) ++ b5) ++ [q6]) ++ ([ar] ++ ([s0] ++ b0 ++ ([s1] ++ b1) ++ ([s2] ++ b2) ++ ([s3] ++ b3) ++ ([s4] ++ b4)))) ++ [q11]) := n_last _ _
  have hsub : ∀ a, a ∈ L → a ∈ (((((L ++ [q1]) ++ b5) ++ [q6]) ++ ([ar] ++ ([s0] ++ b0 ++ ([s1] ++ b1) ++ ([s2] ++ b2) ++ ([s3] ++ b3) ++ ([s4] ++ b4)))) ++ [q11]) := fun a ha => n_left q11 (hsub a ha)
  refine W.widen (k := 57) (n := 1803) (Nat.le_of_ble_eq_true rfl) (Nat.le_of_ble_eq_true rfl) ?_
  refine lv_dup hx hb dX3_init_30 rfl ?_
  refine n_init hS (va_runIN (As := []) (rest := [.ref q11, .ref h0]) ⟨hx, hb, hml, hown, hts⟩ (c_X2_init l g (((((L ++ [q1]) ++ b5) ++ [q6]) ++ ([ar] ++ ([s0] ++ b0 ++ ([s1] ++ b1) ++ ([s2] ++ b2) ++ ([s3] ++ b3) ++ ([s4] ++ b4)))) ++ [q11]) hL G12 q11 hm_q11 hG_q11) ⟨va_cnB 0 hts gX3_init_X2_init_n25 rfl rfl rfl (hC.2.1.2 (RX3, 25, yX2_init, RX3) (List.mem_of_getElem? (i := 4) rfl)) (hts (.initialized RX2) (List.mem_of_getElem? (i := 14) rfl)) (by decide +kernel) ⟨Nat.le_of_ble_eq_true rfl, Nat.le_of_ble_eq_true rfl⟩, rfl, (hts (.instanceMethod yX2_init) (List.mem_of_getElem? (i := 43) rfl))⟩ (k_preO hC hO9 hS hP) rfl rfl hl.1 rfl (lv_room (Nat.le_of_ble_eq_true rfl)) dX3_init_31 ⟨Nat.le_of_ble_eq_true rfl, Nat.le_of_ble_eq_true rfl⟩) (fun L14 G13 H locs hpost hP hS => ?_)
  refine W.widen (k := 58) (n := 1863) (Nat.le_of_ble_eq_true rfl) (Nat.le_of_ble_eq_true rfl) ?_
  obtain ⟨b6, hl_b6, e1, hL9, hv_q11, hk⟩ := hpost
  dsimp only at e1 hv_q11 hk
  subst e1
  have nh0_q11 : ∀ a, ownS q11 (rOf b6) 1 a → a ≠ h0 := own_new hL9 hl_b6 hm_h0 ne_h0_q11
  have hG_h0 := (hk h0 hm_h0 ne_h0_q11).trans hG_h0
  have hG_q6 := (hk q6 hm_q6 ne_q6_q11).trans hG_q6
  have hG_ar := (hk ar hm_ar ne_ar_q11).trans hG_ar
  have hO : ∀ a, a ∈ L → a ≠ h0 → G13 a = G a := fun a ha hn => (hk a (hsub a ha) (h0_q11 a ha)).trans (hO a ha hn)
  have hv_q1 := vO.mono hv_q1 (by decide) (fun a h => List.mem_append_left b6 h) (fun a ha => hk a (vO.ownL hv_q1 a ha) (no_q1_q11 a ha))
  have hv_s0 := vO.mono hv_s0 (by decide) (fun a h => List.mem_append_left b6 h) (fun a ha => hk a (vO.ownL hv_s0 a ha) (no_s0_q11 a ha))
  have hv_s1 := vO.mono hv_s1 (by decide) (fun a h => List.mem_append_left b6 h) (fun a ha => hk a (vO.ownL hv_s1 a ha) (no_s1_q11 a ha))
  have hv_s2 := vO.mono hv_s2 (by decide) (fun a h => List.mem_append_left b6 h) (fun a ha => hk a (vO.ownL hv_s2 a ha) (no_s2_q11 a ha))
  have hv_s3 := vO.mono hv_s3 (by decide) (fun a h => List.mem_append_left b6 h) (fun a ha => hk a (vO.ownL hv_s3 a ha) (no_s3_q11 a ha))
  have hv_s4 := vO.mono hv_s4 (by decide) (fun a h => List.mem_append_left b6 h) (fun a ha => hk a (vO.ownL hv_s4 a ha) (no_s4_q11 a ha))
  have hm_h0 := (fun a h => List.mem_append_left b6 h) h0 hm_h0
  have hm_q6 := (fun a h => List.mem_append_left b6 h) q6 hm_q6
  have hm_ar := (fun a h => List.mem_append_left b6 h) ar hm_ar
  have hm_q11 := (fun a h => List.mem_append_left b6 h) q11 hm_q11
  have hsub : ∀ a, a ∈ L → a ∈ ((((((L ++ [q1]) ++ b5) ++ [q6]) ++ ([ar] ++ ([s0] ++ b0 ++ ([s1] ++ b1) ++ ([s2] ++ b2) ++ ([s3] ++ b3) ++ ([s4] ++ b4)))) ++ [q11]) ++ b6) := fun a ha => (fun a h => List.mem_append_left b6 h) a (hsub a ha)
  have hL := hL9
  refine n_putF (C := RX3) (T := TX3) (N := 3) (ci := 3) hx hb hts (fun _ h => List.mem_cons_of_mem _ (List.mem_append_left _ (List.mem_append_left _ (List.mem_append_right _ h)))) tyX3 tyX3_ok nmX3 hown hL hC hP hS hm_h0 hG_h0 rfl 2 (by decide) (hts (.fieldLink RX3 26 "OrderedClauses" "text" "LOrderedClauses$Text;") (List.mem_of_getElem? (i := 15) rfl)) (by decide +kernel) hin0 rfl (ty := tyX3 2) (tyX3_ok 2 (by decide)) rfl rfl (Nat.le_of_ble_eq_true rfl) dX3_init_34 (fun G15 H locs hq hk hP hS => ?_)
  have hG_h0 : G15 h0 = .inr (3, [.ref q1, .ref q6, .ref q11]) := hq
  have hv_q1 := vO.mono hv_q1 (by decide) (fun a h => h) (fun a ha => hk a (nh0_q1 a ha))
  have hv_s0 := vO.mono hv_s0 (by decide) (fun a h => h) (fun a ha => hk a (nh0_s0 a ha))
  have hv_s1 := vO.mono hv_s1 (by decide) (fun a h => h) (fun a ha => hk a (nh0_s1 a ha))
  have hv_s2 := vO.mono hv_s2 (by decide) (fun a h => h) (fun a ha => hk a (nh0_s2 a ha))
  have hv_s3 := vO.mono hv_s3 (by decide) (fun a h => h) (fun a ha => hk a (nh0_s3 a ha))
  have hv_s4 := vO.mono hv_s4 (by decide) (fun a h => h) (fun a ha => hk a (nh0_s4 a ha))
  have hv_q11 := vO.mono hv_q11 (by decide) (fun a h => h) (fun a ha => hk a (nh0_q11 a ha))
  have hG_q6 := (hk q6 (Ne.symm ne_h0_q6)).trans hG_q6
  have hG_ar := (hk ar (Ne.symm ne_h0_ar)).trans hG_ar
  have hO : ∀ a, a ∈ L → a ≠ h0 → G15 a = G a := fun a ha hn => (hk a hn).trans (hO a ha hn)
  have hh0 : h0 ∉ L ∨ True := Or.inr trivial
  obtain ⟨w00, w01, w02, w03, w04, w05, w06, w07, rfl⟩ := len8 hl_b0
  obtain ⟨w10, w11, w12, w13, w14, w15, w16, w17, rfl⟩ := len8 hl_b1
  obtain ⟨w20, w21, w22, w23, w24, w25, w26, w27, rfl⟩ := len8 hl_b2
  obtain ⟨w30, w31, w32, w33, w34, w35, w36, w37, rfl⟩ := len8 hl_b3
  obtain ⟨w40, w41, w42, w43, w44, w45, w46, w47, rfl⟩ := len8 hl_b4
  obtain ⟨w50, w51, w52, w53, w54, w55, w56, w57, rfl⟩ := len8 hl_b5
  obtain ⟨w60, rfl⟩ := len1 hl_b6
  have eL : ((((((L ++ [q1]) ++ [w50, w51, w52, w53, w54, w55, w56, w57]) ++ [q6]) ++ ([ar] ++ ([s0] ++ [w00, w01, w02, w03, w04, w05, w06, w07] ++ ([s1] ++ [w10, w11, w12, w13, w14, w15, w16, w17]) ++ ([s2] ++ [w20, w21, w22, w23, w24, w25, w26, w27]) ++ ([s3] ++ [w30, w31, w32, w33, w34, w35, w36, w37]) ++ ([s4] ++ [w40, w41, w42, w43, w44, w45, w46, w47])))) ++ [q11]) ++ [w60]) = L ++ [q1, w50, w51, w52, w53, w54, w55, w56, w57, q6, ar, s0, w00, w01, w02, w03, w04, w05, w06, w07, s1, w10, w11, w12, w13, w14, w15, w16, w17, s2, w20, w21, w22, w23, w24, w25, w26, w27, s3, w30, w31, w32, w33, w34, w35, w36, w37, s4, w40, w41, w42, w43, w44, w45, w46, w47, q11, w60] := by simp only [List.append_assoc, List.cons_append, List.nil_append]
  rw [eL] at hL
  rw [eL] at hP
  rw [eL] at hm_h0
  rw [eL] at hm_q6
  rw [eL] at hm_ar
  rw [eL] at hv_q1
  rw [eL] at hv_s0
  rw [eL] at hv_s1
  rw [eL] at hv_s2
  rw [eL] at hv_s3
  rw [eL] at hv_s4
  rw [eL] at hv_q11
  refine W.widen (k := 58) (n := 1863) (Nat.le_of_ble_eq_true rfl) (Nat.le_of_ble_eq_true rfl) ?_
  exact W.vret hx hb hr (fun t ht _ => ⟨⟨(L ++ [q1, w50, w51, w52, w53, w54, w55, w56, w57, q6, ar, s0, w00, w01, w02, w03, w04, w05, w06, w07, s1, w10, w11, w12, w13, w14, w15, w16, w17, s2, w20, w21, w22, w23, w24, w25, w26, w27, s3, w30, w31, w32, w33, w34, w35, w36, w37, s4, w40, w41, w42, w43, w44, w45, w46, w47, q11, w60], G15), rfl, ⟨[q1, w50, w51, w52, w53, w54, w55, w56, w57, q6, ar, s0, w00, w01, w02, w03, w04, w05, w06, w07, s1, w10, w11, w12, w13, w14, w15, w16, w17, s2, w20, w21, w22, w23, w24, w25, w26, w27, s3, w30, w31, w32, w33, w34, w35, w36, w37, s4, w40, w41, w42, w43, w44, w45, w46, w47, q11, w60], rOf [h0, q6, ar, q11, w60, s0, w00, w01, w02, w03, w04, w05, w06, w07, s1, w10, w11, w12, w13, w14, w15, w16, w17, s2, w20, w21, w22, w23, w24, w25, w26, w27, s3, w30, w31, w32, w33, w34, w35, w36, w37, s4, w40, w41, w42, w43, w44, w45, w46, w47, q1, w50, w51, w52, w53, w54, w55, w56, w57], rfl, rfl, hL, newX_of hm0 hL hG_h0 hG_q6 hG_ar hm_h0 hm_q6 hm_ar hv_q1 hv_s0 hv_s1 hv_s2 hv_s3 hv_s4 hv_q11, hO⟩, by show va_P _ _ _ t.heap; rw [ht]; exact hP⟩, hS.F ht⟩) hS.2.2 dX3_init_37 hlk
