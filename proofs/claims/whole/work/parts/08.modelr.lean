/-! Each method meets its partial function: printed by program (wip/whole/gen.py) -/
set_option maxHeartbeats 4000000 in
set_option maxRecDepth 100000 in
theorem c_X4_in (l : Launch) (g : Gm) (L : List Nat) {A : Nat → Prop} (hL : kL L A) (G : Nat → va_E) (p0 : Int32) (p1 : Int32) (p2 : Int32) (v : Int32) (hF : F_X4_in p0 p1 p2 = some v) : Met l yX4_in wsX4_in ({ frames := 0, cells := 0, slots := 0, locals := 0 } : Room) (va_Pc [.int p0, .int p1, .int p2] (kB g L A G)) (va_Qi (fun x9 (G9 : Nat → va_E) => x9 = v ∧ G9 = G) (kE g L) A) 0 0 A := by
  refine Met.ofW (cc := cX4_in) (maxL := 3) (ret := (some .boolean)) (by decide) rfl ?_
  intro p e s m args below meth c s₁ B hml hv
  obtain ⟨rfl, hP, hC⟩ := hv
  have hx := B.exec
  have hb := B.bytes
  have hr := B.returns
  have hts := atoms_spec (ws := wsX4_in) B.pre
  have hown : s.vm.findClass RX4 = some m.cls := findClass_of_methodNamed B.named
  have hlk := B.notSynchronized
  have hS : va_S A s.heap s.heap [] := va_S.rf
  have hl := lv_entry ([.int p0, .int p1, .int p2]) (n := 3) (Nat.le_of_ble_eq_true rfl)
  rw [lg_entry_eq]
  generalize (lg_sl ([.int p0, .int p1, .int p2]) ++ List.replicate (3 - (lg_sl ([.int p0, .int p1, .int p2])).length) Slot.unset).toArray = ls at hl ⊢
  have hl : lv_has ls 3 [(0, .int p0), (1, .int p1), (2, .int p2)] := hl
  have hN := hF
  unfold F_X4_in at hN
  refine lv_iload_n hx hb dX4_in_0 rfl (lv_at hl 0 rfl) ?_
  refine lv_iload_n hx hb dX4_in_1 rfl (lv_at hl 1 rfl) ?_
  refine lv_icmp_lt (tgt := 14) hx hb dX4_in_2 (by decide) (fun c1 => ?_) (fun c1 => ?_)
  · rw [if_pos c1] at hN
    refine lv_iconst (v := 0) hx hb dX4_in_14 (by decide) ?_
    exact k_zretR hx hb hr (by decide) (Option.some.inj hN) hP hS hlk dX4_in_15
  · rw [if_neg c1] at hN
    refine lv_iload_n hx hb dX4_in_5 rfl (lv_at hl 0 rfl) ?_
    refine lv_iload_n hx hb dX4_in_6 rfl (lv_at hl 2 rfl) ?_
    refine lv_icmp_gt (tgt := 14) hx hb dX4_in_7 (by decide) (fun c2 => ?_) (fun c2 => ?_)
    · rw [if_pos c2] at hN
      refine lv_iconst (v := 0) hx hb dX4_in_14 (by decide) ?_
      exact k_zretR hx hb hr (by decide) (Option.some.inj hN) hP hS hlk dX4_in_15
    · rw [if_neg c2] at hN
      refine lv_iconst (v := 1) hx hb dX4_in_10 (by decide) ?_
      refine lv_goto (tgt := 15) hx hb dX4_in_11 (by decide) ?_
      exact k_zretR hx hb hr (by decide) (Option.some.inj hN) hP hS hlk dX4_in_15
set_option maxHeartbeats 4000000 in
set_option maxRecDepth 100000 in
theorem c_X4_of (l : Launch) (g : Gm) (L : List Nat) {A : Nat → Prop} (hL : kL L A) (G : Nat → va_E) (h0 : Nat) (r : Nat → Nat) (u : St) (hV : vM g L G h0 r u) (p0 : Int32) (p1 : Int32) (v : Int32) (hF : F_X4_of u p0 p1 = some v) : Met l yX4_of wsX4_of ({ frames := 0, cells := 0, slots := 0, locals := 0 } : Room) (va_Pc [.ref h0, .int p0, .int p1] (kB g L A G)) (va_Qi (fun x9 (G9 : Nat → va_E) => x9 = v ∧ G9 = G) (kE g L) A) 0 0 A := by
  refine Met.ofW (cc := cX4_of) (maxL := 3) (ret := (some .int)) (by decide) rfl ?_
  intro p e s m args below meth c s₁ B hml hv
  obtain ⟨rfl, hP, hC⟩ := hv
  have hx := B.exec
  have hb := B.bytes
  have hr := B.returns
  have hts := atoms_spec (ws := wsX4_of) B.pre
  have hown : s.vm.findClass RX4 = some m.cls := findClass_of_methodNamed B.named
  have hlk := B.notSynchronized
  have hS : va_S A s.heap s.heap [] := va_S.rf
  have hl := lv_entry ([.ref h0, .int p0, .int p1]) (n := 3) (Nat.le_of_ble_eq_true rfl)
  rw [lg_entry_eq]
  generalize (lg_sl ([.ref h0, .int p0, .int p1]) ++ List.replicate (3 - (lg_sl ([.ref h0, .int p0, .int p1])).length) Slot.unset).toArray = ls at hl ⊢
  have hl : lv_has ls 3 [(0, .ref h0), (1, .int p0), (2, .int p1)] := hl
  have hN := hF
  unfold F_X4_of at hN
  refine lv_aload_n hx hb dX4_of_0 rfl (lv_at hl 0 rfl) ?_
  refine k_get (C := RX4) (T := TX4) (N := 8) (ci := 4) (v := .ref (r 0)) hx hb hts (fun _ h => List.mem_cons_of_mem _ (List.mem_append_right _ h)) hown hC hP (vO.m hV) (vO.o hV) rfl 0 (by decide) (hts (.fieldLink RX4 7 "OrderedClausesModel" "s" "[I") (List.mem_of_getElem? (i := 1) rfl)) rfl dX4_of_1 ?_
  refine lv_bipush (v := 11) hx hb dX4_of_4 (by decide) ?_
  refine lv_bipush (v := 6) hx hb dX4_of_6 (by decide) ?_
  refine lv_iload_n hx hb dX4_of_8 rfl (lv_at hl 1 rfl) ?_
  refine lv_imul hx hb dX4_of_9 ?_
  refine lv_iadd hx hb dX4_of_10 ?_
  refine lv_iload_n hx hb dX4_of_11 rfl (lv_at hl 2 rfl) ?_
  refine lv_iadd hx hb dX4_of_12 ?_
  obtain ⟨v1, hv1, hN⟩ := oB_spec hN
  refine k_ildE hx hb hC hP (vO.rm hV 0 (by decide)) (vO.ri hV 0 (by decide)) hv1 dX4_of_13 ?_
  exact k_iretR hx hb hr (Option.some.inj hN) hP hS hlk dX4_of_14
set_option maxHeartbeats 4000000 in
set_option maxRecDepth 100000 in
theorem c_X4_isClause (l : Launch) (g : Gm) (L : List Nat) {A : Nat → Prop} (hL : kL L A) (G : Nat → va_E) (h0 : Nat) (r : Nat → Nat) (u : St) (hV : vM g L G h0 r u) (p0 : Int32) (v : Int32) (hF : F_X4_isClause u p0 = some v) : Met l yX4_isClause wsX4_isClause ({ frames := 1, cells := 0, slots := 0, locals := 22 } : Room) (va_Pc [.ref h0, .int p0] (kB g L A G)) (va_Qi (fun x9 (G9 : Nat → va_E) => x9 = v ∧ G9 = G) (kE g L) A) 0 0 A := by
  refine Met.ofW (cc := cX4_isClause) (maxL := 2) (ret := (some .boolean)) (by decide) rfl ?_
  intro p e s m args below meth c s₁ B hml hv
  obtain ⟨rfl, hP, hC⟩ := hv
  have hx := B.exec
  have hb := B.bytes
  have hr := B.returns
  have hts := atoms_spec (ws := wsX4_isClause) B.pre
  have hown : s.vm.findClass RX4 = some m.cls := findClass_of_methodNamed B.named
  have hlk := B.notSynchronized
  have hS : va_S A s.heap s.heap [] := va_S.rf
  have hl := lv_entry ([.ref h0, .int p0]) (n := 2) (Nat.le_of_ble_eq_true rfl)
  rw [lg_entry_eq]
  generalize (lg_sl ([.ref h0, .int p0]) ++ List.replicate (2 - (lg_sl ([.ref h0, .int p0])).length) Slot.unset).toArray = ls at hl ⊢
  have hl : lv_has ls 2 [(0, .ref h0), (1, .int p0)] := hl
  have hN := hF
  unfold F_X4_isClause at hN
  refine lv_iload_n hx hb dX4_isClause_0 rfl (lv_at hl 1 rfl) ?_
  refine lv_iconst (v := 0) hx hb dX4_isClause_1 (by decide) ?_
  refine lv_aload_n hx hb dX4_isClause_2 rfl (lv_at hl 0 rfl) ?_
  refine k_get (C := RX4) (T := TX4) (N := 8) (ci := 4) (v := .ref (r 0)) hx hb hts (fun _ h => List.mem_cons_of_mem _ (List.mem_append_right _ h)) hown hC hP (vO.m hV) (vO.o hV) rfl 0 (by decide) (hts (.fieldLink RX4 7 "OrderedClausesModel" "s" "[I") (List.mem_of_getElem? (i := 1) rfl)) rfl dX4_isClause_3 ?_
  refine lv_iconst (v := 0) hx hb dX4_isClause_6 (by decide) ?_
  obtain ⟨v1, hv1, hN⟩ := oB_spec hN
  refine k_ildE hx hb hC hP (vO.rm hV 0 (by decide)) (vO.ri hV 0 (by decide)) hv1 dX4_isClause_7 ?_
  refine lv_iconst (v := 1) hx hb dX4_isClause_8 (by decide) ?_
  refine lv_isub hx hb dX4_isClause_9 ?_
  obtain ⟨v2, hv2, hN⟩ := oB_spec hN
  refine k_iR hS (va_runS (As := [.int p0, .int (0 : Int32), .int (v1 - (1 : Int32))]) (rest := []) ⟨hx, hb, hml, hown, hts⟩ (c_X4_in l g L hL G p0 (0 : Int32) (v1 - (1 : Int32)) v2 hv2) (va_cwS 3 hts gX4_isClause_X4_in rfl rfl rfl (by decide +kernel) ⟨Nat.le_of_ble_eq_true rfl, Nat.le_of_ble_eq_true rfl⟩) (k_pre hC hS hP) rfl rfl hl.1 rfl (lv_room (Nat.le_of_ble_eq_true rfl)) dX4_isClause_10 ⟨Nat.zero_le _, Nat.zero_le _⟩) (fun H locs hP hS => ?_)
  obtain ⟨hz, hN⟩ := oZ_spec hN
  exact k_zretR hx hb hr hz (Option.some.inj hN) hP hS hlk dX4_isClause_13
set_option maxHeartbeats 4000000 in
set_option maxRecDepth 100000 in
theorem c_X4_isKept (l : Launch) (g : Gm) (L : List Nat) {A : Nat → Prop} (hL : kL L A) (G : Nat → va_E) (h0 : Nat) (r : Nat → Nat) (u : St) (hV : vM g L G h0 r u) (p0 : Int32) (v : Int32) (hF : F_X4_isKept u p0 = some v) : Met l yX4_isKept wsX4_isKept ({ frames := 1, cells := 0, slots := 0, locals := 22 } : Room) (va_Pc [.ref h0, .int p0] (kB g L A G)) (va_Qi (fun x9 (G9 : Nat → va_E) => x9 = v ∧ G9 = G) (kE g L) A) 0 0 A := by
  refine Met.ofW (cc := cX4_isKept) (maxL := 2) (ret := (some .boolean)) (by decide) rfl ?_
  intro p e s m args below meth c s₁ B hml hv
  obtain ⟨rfl, hP, hC⟩ := hv
  have hx := B.exec
  have hb := B.bytes
  have hr := B.returns
  have hts := atoms_spec (ws := wsX4_isKept) B.pre
  have hown : s.vm.findClass RX4 = some m.cls := findClass_of_methodNamed B.named
  have hlk := B.notSynchronized
  have hS : va_S A s.heap s.heap [] := va_S.rf
  have hl := lv_entry ([.ref h0, .int p0]) (n := 2) (Nat.le_of_ble_eq_true rfl)
  rw [lg_entry_eq]
  generalize (lg_sl ([.ref h0, .int p0]) ++ List.replicate (2 - (lg_sl ([.ref h0, .int p0])).length) Slot.unset).toArray = ls at hl ⊢
  have hl : lv_has ls 2 [(0, .ref h0), (1, .int p0)] := hl
  have hN := hF
  unfold F_X4_isKept at hN
  refine lv_aload_n hx hb dX4_isKept_0 rfl (lv_at hl 0 rfl) ?_
  refine lv_iload_n hx hb dX4_isKept_1 rfl (lv_at hl 1 rfl) ?_
  refine lv_iconst (v := 1) hx hb dX4_isKept_2 (by decide) ?_
  obtain ⟨v1, hv1, hN⟩ := oB_spec hN
  refine k_iR hS (va_runV (As := [.int p0, .int (1 : Int32)]) (rest := []) ⟨hx, hb, hml, hown, hts⟩ (c_X4_of l g L hL G h0 r u hV p0 (1 : Int32) v1 hv1) (cwV 2 hts gX4_isKept_X4_of rfl rfl rfl (by decide +kernel) ⟨Nat.le_of_ble_eq_true rfl, Nat.le_of_ble_eq_true rfl⟩) (k_preV hC hS hP (vO.m hV) (vO.o hV) rfl) rfl rfl hl.1 rfl (lv_room (Nat.le_of_ble_eq_true rfl)) dX4_isKept_3 ⟨Nat.zero_le _, Nat.zero_le _⟩) (fun H locs hP hS => ?_)
  refine lv_iconst (v := 2) hx hb dX4_isKept_6 (by decide) ?_
  refine lv_icmp_eq (tgt := 14) hx hb dX4_isKept_7 (by decide) (fun c3 => ?_) (fun c3 => ?_)
  · rw [if_pos c3] at hN
    refine lv_iconst (v := 0) hx hb dX4_isKept_14 (by decide) ?_
    exact k_zretR hx hb hr (by decide) (Option.some.inj hN) hP hS hlk dX4_isKept_15
  · rw [if_neg c3] at hN
    refine lv_iconst (v := 1) hx hb dX4_isKept_10 (by decide) ?_
    refine lv_goto (tgt := 15) hx hb dX4_isKept_11 (by decide) ?_
    exact k_zretR hx hb hr (by decide) (Option.some.inj hN) hP hS hlk dX4_isKept_15
set_option maxHeartbeats 4000000 in
set_option maxRecDepth 100000 in
theorem c_X4_has (l : Launch) (g : Gm) (L : List Nat) {A : Nat → Prop} (hL : kL L A) (G : Nat → va_E) (p0 : Int32) (p1 : Int32) (v : Int32) (hF : F_X4_has p0 p1 = some v) : Met l yX4_has wsX4_has ({ frames := 0, cells := 0, slots := 0, locals := 0 } : Room) (va_Pc [.int p0, .int p1] (kB g L A G)) (va_Qi (fun x9 (G9 : Nat → va_E) => x9 = v ∧ G9 = G) (kE g L) A) 0 0 A := by
  refine Met.ofW (cc := cX4_has) (maxL := 2) (ret := (some .boolean)) (by decide) rfl ?_
  intro p e s m args below meth c s₁ B hml hv
  obtain ⟨rfl, hP, hC⟩ := hv
  have hx := B.exec
  have hb := B.bytes
  have hr := B.returns
  have hts := atoms_spec (ws := wsX4_has) B.pre
  have hown : s.vm.findClass RX4 = some m.cls := findClass_of_methodNamed B.named
  have hlk := B.notSynchronized
  have hS : va_S A s.heap s.heap [] := va_S.rf
  have hl := lv_entry ([.int p0, .int p1]) (n := 2) (Nat.le_of_ble_eq_true rfl)
  rw [lg_entry_eq]
  generalize (lg_sl ([.int p0, .int p1]) ++ List.replicate (2 - (lg_sl ([.int p0, .int p1])).length) Slot.unset).toArray = ls at hl ⊢
  have hl : lv_has ls 2 [(0, .int p0), (1, .int p1)] := hl
  have hN := hF
  unfold F_X4_has at hN
  refine lv_iload_n hx hb dX4_has_0 rfl (lv_at hl 0 rfl) ?_
  refine lv_iload_n hx hb dX4_has_1 rfl (lv_at hl 1 rfl) ?_
  refine lv_ishr hx hb dX4_has_2 ?_
  refine lv_iconst (v := 1) hx hb dX4_has_3 (by decide) ?_
  refine lv_iand hx hb dX4_has_4 ?_
  refine lv_iconst (v := 1) hx hb dX4_has_5 (by decide) ?_
  refine lv_icmp_ne (tgt := 13) hx hb dX4_has_6 (by decide) (fun c1 => ?_) (fun c1 => ?_)
  · rw [if_neg c1] at hN
    refine lv_iconst (v := 0) hx hb dX4_has_13 (by decide) ?_
    exact k_zretR hx hb hr (by decide) (Option.some.inj hN) hP hS hlk dX4_has_14
  · rw [if_pos c1] at hN
    refine lv_iconst (v := 1) hx hb dX4_has_9 (by decide) ?_
    refine lv_goto (tgt := 14) hx hb dX4_has_10 (by decide) ?_
    exact k_zretR hx hb hr (by decide) (Option.some.inj hN) hP hS hlk dX4_has_14
set_option maxHeartbeats 4000000 in
set_option maxRecDepth 100000 in
theorem c_X4_ones (l : Launch) (g : Gm) (L : List Nat) {A : Nat → Prop} (hL : kL L A) (G : Nat → va_E) (p0 : Int32) (v : Int32) (hF : F_X4_ones p0 = some v) : Met l yX4_ones wsX4_ones ({ frames := 0, cells := 0, slots := 0, locals := 0 } : Room) (va_Pc [.int p0] (kB g L A G)) (va_Qi (fun x9 (G9 : Nat → va_E) => x9 = v ∧ G9 = G) (kE g L) A) 0 0 A := by
  refine Met.ofW (cc := cX4_ones) (maxL := 3) (ret := (some .int)) (by decide) rfl ?_
  intro p e s m args below meth c s₁ B hml hv
  obtain ⟨rfl, hP, hC⟩ := hv
  have hx := B.exec
  have hb := B.bytes
  have hr := B.returns
  have hts := atoms_spec (ws := wsX4_ones) B.pre
  have hown : s.vm.findClass RX4 = some m.cls := findClass_of_methodNamed B.named
  have hlk := B.notSynchronized
  have hS : va_S A s.heap s.heap [] := va_S.rf
  have lp4 : ∀ (n : Nat) (x1 : Int32) (x2 : Int32) (H : Heap) (locs : List Loc) (ls : Array Slot), va_P g.1 vwCl (va_pl L G) H → va_S A s.heap H locs → lv_has ls 3 [(1, .int x1), (2, .int x2)] → FL_X4_ones_4  n x1 x2 = some v → W p l e (headSpec wsX4_ones ({ frames := 0, cells := 0, slots := 0, locals := 0 } : Room)).room s m ([.int p0] : List Value).toArray below meth c H locs 0 0 (MQ below (va_Qi (fun x9 (G9 : Nat → va_E) => x9 = v ∧ G9 = G) (kE g L) A) ([.int p0] : List Value).toArray s 0 0 A) (F0 m 4 ls []) := by
    intro n
    induction n with
    | zero =>
      intro x1 x2 H locs ls hP hS hl hN
      exact absurd hN (by simp [FL_X4_ones_4])
    | succ n ih =>
      intro x1 x2 H locs ls hP hS hl hN
      rw [FL_X4_ones_4] at hN
      refine lv_iload_n hx hb dX4_ones_4 rfl (lv_at hl 1 rfl) ?_
      refine lv_if_eq (tgt := 21) hx hb dX4_ones_5 (by decide) (fun c1 => ?_) (fun c1 => ?_)
      · rw [if_pos c1] at hN
        refine lv_iload_n hx hb dX4_ones_21 rfl (lv_at hl 0 rfl) ?_
        exact k_iretR hx hb hr (Option.some.inj hN) hP hS hlk dX4_ones_22
      · rw [if_neg c1] at hN
        refine lv_iload_n hx hb dX4_ones_8 rfl (lv_at hl 0 rfl) ?_
        refine lv_iload_n hx hb dX4_ones_9 rfl (lv_at hl 1 rfl) ?_
        refine lv_iconst (v := 2) hx hb dX4_ones_10 (by decide) ?_
        obtain ⟨v2, hv2, hN⟩ := oB_spec hN
        refine lv_iremE hx hb dX4_ones_11 hv2 ?_
        refine lv_iadd hx hb dX4_ones_12 ?_
        refine lv_istore_n (lv' := [(1, .int (x1 + v2)), (2, .int x2)]) hx hb dX4_ones_13 rfl hl (by decide) rfl (fun ls hl => ?_)
        refine lv_iload_n hx hb dX4_ones_14 rfl (lv_at hl 1 rfl) ?_
        refine lv_iconst (v := 2) hx hb dX4_ones_15 (by decide) ?_
        obtain ⟨v3, hv3, hN⟩ := oB_spec hN
        refine lv_idivE hx hb dX4_ones_16 hv3 ?_
        refine lv_istore_n (lv' := [(2, .int v3), (1, .int (x1 + v2))]) hx hb dX4_ones_17 rfl hl (by decide) rfl (fun ls hl => ?_)
        refine lv_goto (tgt := 4) hx hb dX4_ones_18 (by decide) ?_
        exact ih (x1 + v2) v3  _ _ _ hP hS (lv_sub hl [1, 0] rfl) hN
  have hl := lv_entry ([.int p0]) (n := 3) (Nat.le_of_ble_eq_true rfl)
  rw [lg_entry_eq]
  generalize (lg_sl ([.int p0]) ++ List.replicate (3 - (lg_sl ([.int p0])).length) Slot.unset).toArray = ls at hl ⊢
  have hl : lv_has ls 3 [(0, .int p0)] := hl
  have hN := hF
  unfold F_X4_ones at hN
  refine lv_iconst (v := 0) hx hb dX4_ones_0 (by decide) ?_
  refine lv_istore_n (lv' := [(1, .int (0 : Int32)), (0, .int p0)]) hx hb dX4_ones_1 rfl hl (by decide) rfl (fun ls hl => ?_)
  refine lv_iload_n hx hb dX4_ones_2 rfl (lv_at hl 1 rfl) ?_
  refine lv_istore_n (lv' := [(2, .int p0), (1, .int (0 : Int32)), (0, .int p0)]) hx hb dX4_ones_3 rfl hl (by decide) rfl (fun ls hl => ?_)
  exact lp4 fuel (0 : Int32) p0  _ _ _ hP hS (lv_sub hl [1, 0] rfl) hN
set_option maxHeartbeats 4000000 in
set_option maxRecDepth 100000 in
theorem c_X4_keyOf (l : Launch) (g : Gm) (L : List Nat) {A : Nat → Prop} (hL : kL L A) (G : Nat → va_E) (h0 : Nat) (r : Nat → Nat) (u : St) (hV : vM g L G h0 r u) (p0 : Int32) (v : Int32) (hF : F_X4_keyOf u p0 = some v) : Met l yX4_keyOf wsX4_keyOf ({ frames := 0, cells := 0, slots := 0, locals := 0 } : Room) (va_Pc [.ref h0, .int p0] (kB g L A G)) (va_Qi (fun x9 (G9 : Nat → va_E) => x9 = v ∧ G9 = G) (kE g L) A) 0 0 A := by
  refine Met.ofW (cc := cX4_keyOf) (maxL := 2) (ret := (some .int)) (by decide) rfl ?_
  intro p e s m args below meth c s₁ B hml hv
  obtain ⟨rfl, hP, hC⟩ := hv
  have hx := B.exec
  have hb := B.bytes
  have hr := B.returns
  have hts := atoms_spec (ws := wsX4_keyOf) B.pre
  have hown : s.vm.findClass RX4 = some m.cls := findClass_of_methodNamed B.named
  have hlk := B.notSynchronized
  have hS : va_S A s.heap s.heap [] := va_S.rf
  have hl := lv_entry ([.ref h0, .int p0]) (n := 2) (Nat.le_of_ble_eq_true rfl)
  rw [lg_entry_eq]
  generalize (lg_sl ([.ref h0, .int p0]) ++ List.replicate (2 - (lg_sl ([.ref h0, .int p0])).length) Slot.unset).toArray = ls at hl ⊢
  have hl : lv_has ls 2 [(0, .ref h0), (1, .int p0)] := hl
  have hN := hF
  unfold F_X4_keyOf at hN
  refine lv_iconst (v := 2) hx hb dX4_keyOf_0 (by decide) ?_
  refine lv_aload_n hx hb dX4_keyOf_1 rfl (lv_at hl 0 rfl) ?_
  refine k_get (C := RX4) (T := TX4) (N := 8) (ci := 4) (v := .ref (r 0)) hx hb hts (fun _ h => List.mem_cons_of_mem _ (List.mem_append_right _ h)) hown hC hP (vO.m hV) (vO.o hV) rfl 0 (by decide) (hts (.fieldLink RX4 7 "OrderedClausesModel" "s" "[I") (List.mem_of_getElem? (i := 1) rfl)) rfl dX4_keyOf_2 ?_
  refine lv_iconst (v := 5) hx hb dX4_keyOf_5 (by decide) ?_
  refine lv_iload_n hx hb dX4_keyOf_6 rfl (lv_at hl 1 rfl) ?_
  refine lv_iconst (v := 2) hx hb dX4_keyOf_7 (by decide) ?_
  obtain ⟨v1, hv1, hN⟩ := oB_spec hN
  refine lv_idivE hx hb dX4_keyOf_8 hv1 ?_
  refine lv_iadd hx hb dX4_keyOf_9 ?_
  obtain ⟨v2, hv2, hN⟩ := oB_spec hN
  refine k_ildE hx hb hC hP (vO.rm hV 0 (by decide)) (vO.ri hV 0 (by decide)) hv2 dX4_keyOf_10 ?_
  refine lv_imul hx hb dX4_keyOf_11 ?_
  refine lv_iload_n hx hb dX4_keyOf_12 rfl (lv_at hl 1 rfl) ?_
  refine lv_iconst (v := 2) hx hb dX4_keyOf_13 (by decide) ?_
  obtain ⟨v3, hv3, hN⟩ := oB_spec hN
  refine lv_iremE hx hb dX4_keyOf_14 hv3 ?_
  refine lv_iadd hx hb dX4_keyOf_15 ?_
  exact k_iretR hx hb hr (Option.some.inj hN) hP hS hlk dX4_keyOf_16
set_option maxHeartbeats 4000000 in
set_option maxRecDepth 100000 in
theorem c_X4_greatest (l : Launch) (g : Gm) (L : List Nat) {A : Nat → Prop} (hL : kL L A) (G : Nat → va_E) (h0 : Nat) (r : Nat → Nat) (u : St) (hV : vM g L G h0 r u) (p0 : Int32) (v : Int32) (hF : F_X4_greatest u p0 = some v) : Met l yX4_greatest wsX4_greatest ({ frames := 1, cells := 0, slots := 0, locals := 21 } : Room) (va_Pc [.ref h0, .int p0] (kB g L A G)) (va_Qi (fun x9 (G9 : Nat → va_E) => x9 = v ∧ G9 = G) (kE g L) A) 0 0 A := by
  refine Met.ofW (cc := cX4_greatest) (maxL := 4) (ret := (some .int)) (by decide) rfl ?_
  intro p e s m args below meth c s₁ B hml hv
  obtain ⟨rfl, hP, hC⟩ := hv
  have hx := B.exec
  have hb := B.bytes
  have hr := B.returns
  have hts := atoms_spec (ws := wsX4_greatest) B.pre
  have hown : s.vm.findClass RX4 = some m.cls := findClass_of_methodNamed B.named
  have hlk := B.notSynchronized
  have hS : va_S A s.heap s.heap [] := va_S.rf
  have lp4 : ∀ (n : Nat) (x1 : Int32) (x2 : Int32) (x3 : Int32) (H : Heap) (locs : List Loc) (ls : Array Slot), va_P g.1 vwCl (va_pl L G) H → va_S A s.heap H locs → lv_has ls 4 [(0, .ref h0), (1, .int x1), (2, .int x2), (3, .int x3)] → FL_X4_greatest_4 u n x1 x2 x3 = some v → W p l e (headSpec wsX4_greatest ({ frames := 1, cells := 0, slots := 0, locals := 21 } : Room)).room s m ([.ref h0, .int p0] : List Value).toArray below meth c H locs 0 0 (MQ below (va_Qi (fun x9 (G9 : Nat → va_E) => x9 = v ∧ G9 = G) (kE g L) A) ([.ref h0, .int p0] : List Value).toArray s 0 0 A) (F0 m 4 ls []) := by
    intro n
    induction n with
    | zero =>
      intro x1 x2 x3 H locs ls hP hS hl hN
      exact absurd hN (by simp [FL_X4_greatest_4])
    | succ n ih =>
      intro x1 x2 x3 H locs ls hP hS hl hN
      rw [FL_X4_greatest_4] at hN
      refine lv_iload_n hx hb dX4_greatest_4 rfl (lv_at hl 3 rfl) ?_
      refine lv_bipush (v := 12) hx hb dX4_greatest_5 (by decide) ?_
      refine lv_icmp_ge (tgt := 47) hx hb dX4_greatest_7 (by decide) (fun c1 => ?_) (fun c1 => ?_)
      · rw [if_pos c1] at hN
        refine lv_iload_n hx hb dX4_greatest_47 rfl (lv_at hl 2 rfl) ?_
        exact k_iretR hx hb hr (Option.some.inj hN) hP hS hlk dX4_greatest_48
      · rw [if_neg c1] at hN
        refine lv_iload_n hx hb dX4_greatest_10 rfl (lv_at hl 1 rfl) ?_
        refine lv_iload_n hx hb dX4_greatest_11 rfl (lv_at hl 3 rfl) ?_
        obtain ⟨v2, hv2, hN⟩ := oB_spec hN
        refine k_iR hS (va_runS (As := [.int x1, .int x3]) (rest := []) ⟨hx, hb, hml, hown, hts⟩ (c_X4_has l g L hL G x1 x3 v2 hv2) (va_cwS 2 hts gX4_greatest_X4_has rfl rfl rfl (by decide +kernel) ⟨Nat.le_of_ble_eq_true rfl, Nat.le_of_ble_eq_true rfl⟩) (k_pre hC hS hP) rfl rfl hl.1 rfl (lv_room (Nat.le_of_ble_eq_true rfl)) dX4_greatest_12 ⟨Nat.zero_le _, Nat.zero_le _⟩) (fun H locs hP hS => ?_)
        refine lv_if_eq (tgt := 39) hx hb dX4_greatest_15 (by decide) (fun c4 => ?_) (fun c4 => ?_)
        · rw [if_pos c4] at hN
          refine lv_iload_n hx hb dX4_greatest_39 rfl (lv_at hl 2 rfl) ?_
          refine lv_istore_n (lv' := [(2, .int x2), (0, .ref h0), (1, .int x1), (3, .int x3)]) hx hb dX4_greatest_40 rfl hl (by decide) rfl (fun ls hl => ?_)
          refine lv_iinc (v := (x3 + 1)) (lv' := [(3, .int (x3 + 1)), (2, .int x2), (0, .ref h0), (1, .int x1)]) hx hb dX4_greatest_41 hl (k := 3) rfl rfl (by decide) rfl (fun ls hl => ?_)
          refine lv_goto (tgt := 4) hx hb dX4_greatest_44 (by decide) ?_
          exact ih x1 x2 (x3 + 1)  _ _ _ hP hS (lv_sub hl [2, 3, 1, 0] rfl) hN
        · rw [if_neg c4] at hN
          refine lv_iload_n hx hb dX4_greatest_18 rfl (lv_at hl 2 rfl) ?_
          refine lv_if_lt (tgt := 35) hx hb dX4_greatest_19 (by decide) (fun c5 => ?_) (fun c5 => ?_)
          · rw [if_pos c5] at hN
            refine lv_iload_n hx hb dX4_greatest_35 rfl (lv_at hl 3 rfl) ?_
            refine lv_goto (tgt := 40) hx hb dX4_greatest_36 (by decide) ?_
            refine lv_istore_n (lv' := [(2, .int x3), (0, .ref h0), (1, .int x1), (3, .int x3)]) hx hb dX4_greatest_40 rfl hl (by decide) rfl (fun ls hl => ?_)
            refine lv_iinc (v := (x3 + 1)) (lv' := [(3, .int (x3 + 1)), (2, .int x3), (0, .ref h0), (1, .int x1)]) hx hb dX4_greatest_41 hl (k := 3) rfl rfl (by decide) rfl (fun ls hl => ?_)
            refine lv_goto (tgt := 4) hx hb dX4_greatest_44 (by decide) ?_
            exact ih x1 x3 (x3 + 1)  _ _ _ hP hS (lv_sub hl [2, 3, 1, 0] rfl) hN
          · rw [if_neg c5] at hN
            refine lv_aload_n hx hb dX4_greatest_22 rfl (lv_at hl 0 rfl) ?_
            refine lv_iload_n hx hb dX4_greatest_23 rfl (lv_at hl 3 rfl) ?_
            obtain ⟨v6, hv6, hN⟩ := oB_spec hN
            refine k_iR hS (va_runV (As := [.int x3]) (rest := []) ⟨hx, hb, hml, hown, hts⟩ (c_X4_keyOf l g L hL G h0 r u hV x3 v6 hv6) (cwV 1 hts gX4_greatest_X4_keyOf rfl rfl rfl (by decide +kernel) ⟨Nat.le_of_ble_eq_true rfl, Nat.le_of_ble_eq_true rfl⟩) (k_preV hC hS hP (vO.m hV) (vO.o hV) rfl) rfl rfl hl.1 rfl (lv_room (Nat.le_of_ble_eq_true rfl)) dX4_greatest_24 ⟨Nat.zero_le _, Nat.zero_le _⟩) (fun H locs hP hS => ?_)
            refine lv_aload_n hx hb dX4_greatest_27 rfl (lv_at hl 0 rfl) ?_
            refine lv_iload_n hx hb dX4_greatest_28 rfl (lv_at hl 2 rfl) ?_
            obtain ⟨v8, hv8, hN⟩ := oB_spec hN
            refine k_iR hS (va_runV (As := [.int x2]) (rest := [.int v6]) ⟨hx, hb, hml, hown, hts⟩ (c_X4_keyOf l g L hL G h0 r u hV x2 v8 hv8) (cwV 1 hts gX4_greatest_X4_keyOf rfl rfl rfl (by decide +kernel) ⟨Nat.le_of_ble_eq_true rfl, Nat.le_of_ble_eq_true rfl⟩) (k_preV hC hS hP (vO.m hV) (vO.o hV) rfl) rfl rfl hl.1 rfl (lv_room (Nat.le_of_ble_eq_true rfl)) dX4_greatest_29 ⟨Nat.zero_le _, Nat.zero_le _⟩) (fun H locs hP hS => ?_)
            refine lv_icmp_le (tgt := 39) hx hb dX4_greatest_32 (by decide) (fun c10 => ?_) (fun c10 => ?_)
            · rw [if_pos c10] at hN
              refine lv_iload_n hx hb dX4_greatest_39 rfl (lv_at hl 2 rfl) ?_
              refine lv_istore_n (lv' := [(2, .int x2), (0, .ref h0), (1, .int x1), (3, .int x3)]) hx hb dX4_greatest_40 rfl hl (by decide) rfl (fun ls hl => ?_)
              refine lv_iinc (v := (x3 + 1)) (lv' := [(3, .int (x3 + 1)), (2, .int x2), (0, .ref h0), (1, .int x1)]) hx hb dX4_greatest_41 hl (k := 3) rfl rfl (by decide) rfl (fun ls hl => ?_)
              refine lv_goto (tgt := 4) hx hb dX4_greatest_44 (by decide) ?_
              exact ih x1 x2 (x3 + 1)  _ _ _ hP hS (lv_sub hl [2, 3, 1, 0] rfl) hN
            · rw [if_neg c10] at hN
              refine lv_iload_n hx hb dX4_greatest_35 rfl (lv_at hl 3 rfl) ?_
              refine lv_goto (tgt := 40) hx hb dX4_greatest_36 (by decide) ?_
              refine lv_istore_n (lv' := [(2, .int x3), (0, .ref h0), (1, .int x1), (3, .int x3)]) hx hb dX4_greatest_40 rfl hl (by decide) rfl (fun ls hl => ?_)
              refine lv_iinc (v := (x3 + 1)) (lv' := [(3, .int (x3 + 1)), (2, .int x3), (0, .ref h0), (1, .int x1)]) hx hb dX4_greatest_41 hl (k := 3) rfl rfl (by decide) rfl (fun ls hl => ?_)
              refine lv_goto (tgt := 4) hx hb dX4_greatest_44 (by decide) ?_
              exact ih x1 x3 (x3 + 1)  _ _ _ hP hS (lv_sub hl [2, 3, 1, 0] rfl) hN
  have hl := lv_entry ([.ref h0, .int p0]) (n := 4) (Nat.le_of_ble_eq_true rfl)
  rw [lg_entry_eq]
  generalize (lg_sl ([.ref h0, .int p0]) ++ List.replicate (4 - (lg_sl ([.ref h0, .int p0])).length) Slot.unset).toArray = ls at hl ⊢
  have hl : lv_has ls 4 [(0, .ref h0), (1, .int p0)] := hl
  have hN := hF
  unfold F_X4_greatest at hN
  refine lv_iconst (v := (-1)) hx hb dX4_greatest_0 (by decide) ?_
  refine lv_istore_n (lv' := [(2, .int ((-1) : Int32)), (0, .ref h0), (1, .int p0)]) hx hb dX4_greatest_1 rfl hl (by decide) rfl (fun ls hl => ?_)
  refine lv_iconst (v := 0) hx hb dX4_greatest_2 (by decide) ?_
  refine lv_istore_n (lv' := [(3, .int (0 : Int32)), (2, .int ((-1) : Int32)), (0, .ref h0), (1, .int p0)]) hx hb dX4_greatest_3 rfl hl (by decide) rfl (fun ls hl => ?_)
  exact lp4 fuel p0 ((-1) : Int32) (0 : Int32)  _ _ _ hP hS (lv_sub hl [2, 3, 1, 0] rfl) hN
set_option maxHeartbeats 4000000 in
set_option maxRecDepth 100000 in
theorem c_X4_isLess (l : Launch) (g : Gm) (L : List Nat) {A : Nat → Prop} (hL : kL L A) (G : Nat → va_E) (h0 : Nat) (r : Nat → Nat) (u : St) (hV : vM g L G h0 r u) (p0 : Int32) (p1 : Int32) (v : Int32) (hF : F_X4_isLess u p0 p1 = some v) : Met l yX4_isLess wsX4_isLess ({ frames := 2, cells := 0, slots := 0, locals := 44 } : Room) (va_Pc [.ref h0, .int p0, .int p1] (kB g L A G)) (va_Qi (fun x9 (G9 : Nat → va_E) => x9 = v ∧ G9 = G) (kE g L) A) 0 0 A := by
  refine Met.ofW (cc := cX4_isLess) (maxL := 4) (ret := (some .boolean)) (by decide) rfl ?_
  intro p e s m args below meth c s₁ B hml hv
  obtain ⟨rfl, hP, hC⟩ := hv
  have hx := B.exec
  have hb := B.bytes
  have hr := B.returns
  have hts := atoms_spec (ws := wsX4_isLess) B.pre
  have hown : s.vm.findClass RX4 = some m.cls := findClass_of_methodNamed B.named
  have hlk := B.notSynchronized
  have hS : va_S A s.heap s.heap [] := va_S.rf
  have hl := lv_entry ([.ref h0, .int p0, .int p1]) (n := 4) (Nat.le_of_ble_eq_true rfl)
  rw [lg_entry_eq]
  generalize (lg_sl ([.ref h0, .int p0, .int p1]) ++ List.replicate (4 - (lg_sl ([.ref h0, .int p0, .int p1])).length) Slot.unset).toArray = ls at hl ⊢
  have hl : lv_has ls 4 [(0, .ref h0), (1, .int p0), (2, .int p1)] := hl
  have hN := hF
  unfold F_X4_isLess at hN
  refine lv_aload_n hx hb dX4_isLess_0 rfl (lv_at hl 0 rfl) ?_
  refine lv_iload_n hx hb dX4_isLess_1 rfl (lv_at hl 1 rfl) ?_
  refine lv_iload_n hx hb dX4_isLess_2 rfl (lv_at hl 2 rfl) ?_
  refine lv_ixor hx hb dX4_isLess_3 ?_
  obtain ⟨v1, hv1, hN⟩ := oB_spec hN
  refine k_iR hS (va_runV (As := [.int (p0 ^^^ p1)]) (rest := []) ⟨hx, hb, hml, hown, hts⟩ (c_X4_greatest l g L hL G h0 r u hV (p0 ^^^ p1) v1 hv1) (cwV 1 hts gX4_isLess_X4_greatest rfl rfl rfl (by decide +kernel) ⟨Nat.le_of_ble_eq_true rfl, Nat.le_of_ble_eq_true rfl⟩) (k_preV hC hS hP (vO.m hV) (vO.o hV) rfl) rfl rfl hl.1 rfl (lv_room (Nat.le_of_ble_eq_true rfl)) dX4_isLess_4 ⟨Nat.zero_le _, Nat.zero_le _⟩) (fun H locs hP hS => ?_)
  refine lv_istore_n (lv' := [(3, .int v1), (0, .ref h0), (1, .int p0), (2, .int p1)]) hx hb dX4_isLess_7 rfl hl (by decide) rfl (fun ls hl => ?_)
  refine lv_iload_n hx hb dX4_isLess_8 rfl (lv_at hl 0 rfl) ?_
  refine lv_if_lt (tgt := 24) hx hb dX4_isLess_9 (by decide) (fun c3 => ?_) (fun c3 => ?_)
  · rw [if_pos c3] at hN
    refine lv_iconst (v := 0) hx hb dX4_isLess_24 (by decide) ?_
    exact k_zretR hx hb hr (by decide) (Option.some.inj hN) hP hS hlk dX4_isLess_25
  · rw [if_neg c3] at hN
    refine lv_iload_n hx hb dX4_isLess_12 rfl (lv_at hl 3 rfl) ?_
    refine lv_iload_n hx hb dX4_isLess_13 rfl (lv_at hl 0 rfl) ?_
    obtain ⟨v4, hv4, hN⟩ := oB_spec hN
    refine k_iR hS (va_runS (As := [.int p1, .int v1]) (rest := []) ⟨hx, hb, hml, hown, hts⟩ (c_X4_has l g L hL G p1 v1 v4 hv4) (va_cwS 2 hts gX4_isLess_X4_has rfl rfl rfl (by decide +kernel) ⟨Nat.le_of_ble_eq_true rfl, Nat.le_of_ble_eq_true rfl⟩) (k_pre hC hS hP) rfl rfl hl.1 rfl (lv_room (Nat.le_of_ble_eq_true rfl)) dX4_isLess_14 ⟨Nat.zero_le _, Nat.zero_le _⟩) (fun H locs hP hS => ?_)
    refine lv_if_eq (tgt := 24) hx hb dX4_isLess_17 (by decide) (fun c6 => ?_) (fun c6 => ?_)
    · rw [if_pos c6] at hN
      refine lv_iconst (v := 0) hx hb dX4_isLess_24 (by decide) ?_
      exact k_zretR hx hb hr (by decide) (Option.some.inj hN) hP hS hlk dX4_isLess_25
    · rw [if_neg c6] at hN
      refine lv_iconst (v := 1) hx hb dX4_isLess_20 (by decide) ?_
      refine lv_goto (tgt := 25) hx hb dX4_isLess_21 (by decide) ?_
      exact k_zretR hx hb hr (by decide) (Option.some.inj hN) hP hS hlk dX4_isLess_25
set_option maxHeartbeats 4000000 in
set_option maxRecDepth 100000 in
theorem c_X4_holdsAlways (l : Launch) (g : Gm) (L : List Nat) {A : Nat → Prop} (hL : kL L A) (G : Nat → va_E) (p0 : Int32) (v : Int32) (hF : F_X4_holdsAlways p0 = some v) : Met l yX4_holdsAlways wsX4_holdsAlways ({ frames := 0, cells := 0, slots := 0, locals := 0 } : Room) (va_Pc [.int p0] (kB g L A G)) (va_Qi (fun x9 (G9 : Nat → va_E) => x9 = v ∧ G9 = G) (kE g L) A) 0 0 A := by
  refine Met.ofW (cc := cX4_holdsAlways) (maxL := 3) (ret := (some .boolean)) (by decide) rfl ?_
  intro p e s m args below meth c s₁ B hml hv
  obtain ⟨rfl, hP, hC⟩ := hv
  have hx := B.exec
  have hb := B.bytes
  have hr := B.returns
  have hts := atoms_spec (ws := wsX4_holdsAlways) B.pre
  have hown : s.vm.findClass RX4 = some m.cls := findClass_of_methodNamed B.named
  have hlk := B.notSynchronized
  have hS : va_S A s.heap s.heap [] := va_S.rf
  have lp4 : ∀ (n : Nat) (x0 : Int32) (x1 : Int32) (x2 : Int32) (H : Heap) (locs : List Loc) (ls : Array Slot), va_P g.1 vwCl (va_pl L G) H → va_S A s.heap H locs → lv_has ls 3 [(0, .int x0), (1, .int x1), (2, .int x2)] → FL_X4_holdsAlways_4  n x0 x1 x2 = some v → W p l e (headSpec wsX4_holdsAlways ({ frames := 0, cells := 0, slots := 0, locals := 0 } : Room)).room s m ([.int p0] : List Value).toArray below meth c H locs 0 0 (MQ below (va_Qi (fun x9 (G9 : Nat → va_E) => x9 = v ∧ G9 = G) (kE g L) A) ([.int p0] : List Value).toArray s 0 0 A) (F0 m 4 ls []) := by
    intro n
    induction n with
    | zero =>
      intro x0 x1 x2 H locs ls hP hS hl hN
      exact absurd hN (by simp [FL_X4_holdsAlways_4])
    | succ n ih =>
      intro x0 x1 x2 H locs ls hP hS hl hN
      rw [FL_X4_holdsAlways_4] at hN
      refine lv_iload_n hx hb dX4_holdsAlways_4 rfl (lv_at hl 2 rfl) ?_
      refine lv_bipush (v := 6) hx hb dX4_holdsAlways_5 (by decide) ?_
      refine lv_icmp_ge (tgt := 37) hx hb dX4_holdsAlways_7 (by decide) (fun c1 => ?_) (fun c1 => ?_)
      · rw [if_pos c1] at hN
        refine lv_iload_n hx hb dX4_holdsAlways_37 rfl (lv_at hl 1 rfl) ?_
        obtain ⟨hz, hN⟩ := oZ_spec hN
        exact k_zretR hx hb hr hz (Option.some.inj hN) hP hS hlk dX4_holdsAlways_38
      · rw [if_neg c1] at hN
        refine lv_iload_n hx hb dX4_holdsAlways_10 rfl (lv_at hl 1 rfl) ?_
        refine lv_if_ne (tgt := 25) hx hb dX4_holdsAlways_11 (by decide) (fun c2 => ?_) (fun c2 => ?_)
        · rw [if_neg c2] at hN
          refine lv_iconst (v := 1) hx hb dX4_holdsAlways_25 (by decide) ?_
          refine lv_goto (tgt := 30) hx hb dX4_holdsAlways_26 (by decide) ?_
          refine lv_istore_n (lv' := [(1, .int (1 : Int32)), (0, .int x0), (2, .int x2)]) hx hb dX4_holdsAlways_30 rfl hl (by decide) rfl (fun ls hl => ?_)
          refine lv_iinc (v := (x2 + 1)) (lv' := [(2, .int (x2 + 1)), (1, .int (1 : Int32)), (0, .int x0)]) hx hb dX4_holdsAlways_31 hl (k := 2) rfl rfl (by decide) rfl (fun ls hl => ?_)
          refine lv_goto (tgt := 4) hx hb dX4_holdsAlways_34 (by decide) ?_
          exact ih x0 (1 : Int32) (x2 + 1)  _ _ _ hP hS (lv_sub hl [2, 1, 0] rfl) hN
        · rw [if_pos c2] at hN
          refine lv_iload_n hx hb dX4_holdsAlways_14 rfl (lv_at hl 0 rfl) ?_
          refine lv_iconst (v := 2) hx hb dX4_holdsAlways_15 (by decide) ?_
          refine lv_iload_n hx hb dX4_holdsAlways_16 rfl (lv_at hl 2 rfl) ?_
          refine lv_imul hx hb dX4_holdsAlways_17 ?_
          refine lv_ishr hx hb dX4_holdsAlways_18 ?_
          refine lv_iconst (v := 3) hx hb dX4_holdsAlways_19 (by decide) ?_
          refine lv_iand hx hb dX4_holdsAlways_20 ?_
          refine lv_iconst (v := 3) hx hb dX4_holdsAlways_21 (by decide) ?_
          refine lv_icmp_ne (tgt := 29) hx hb dX4_holdsAlways_22 (by decide) (fun c3 => ?_) (fun c3 => ?_)
          · rw [if_neg c3] at hN
            refine lv_iconst (v := 0) hx hb dX4_holdsAlways_29 (by decide) ?_
            refine lv_istore_n (lv' := [(1, .int (0 : Int32)), (0, .int x0), (2, .int x2)]) hx hb dX4_holdsAlways_30 rfl hl (by decide) rfl (fun ls hl => ?_)
            refine lv_iinc (v := (x2 + 1)) (lv' := [(2, .int (x2 + 1)), (1, .int (0 : Int32)), (0, .int x0)]) hx hb dX4_holdsAlways_31 hl (k := 2) rfl rfl (by decide) rfl (fun ls hl => ?_)
            refine lv_goto (tgt := 4) hx hb dX4_holdsAlways_34 (by decide) ?_
            exact ih x0 (0 : Int32) (x2 + 1)  _ _ _ hP hS (lv_sub hl [2, 1, 0] rfl) hN
          · rw [if_pos c3] at hN
            refine lv_iconst (v := 1) hx hb dX4_holdsAlways_25 (by decide) ?_
            refine lv_goto (tgt := 30) hx hb dX4_holdsAlways_26 (by decide) ?_
            refine lv_istore_n (lv' := [(1, .int (1 : Int32)), (0, .int x0), (2, .int x2)]) hx hb dX4_holdsAlways_30 rfl hl (by decide) rfl (fun ls hl => ?_)
            refine lv_iinc (v := (x2 + 1)) (lv' := [(2, .int (x2 + 1)), (1, .int (1 : Int32)), (0, .int x0)]) hx hb dX4_holdsAlways_31 hl (k := 2) rfl rfl (by decide) rfl (fun ls hl => ?_)
            refine lv_goto (tgt := 4) hx hb dX4_holdsAlways_34 (by decide) ?_
            exact ih x0 (1 : Int32) (x2 + 1)  _ _ _ hP hS (lv_sub hl [2, 1, 0] rfl) hN
  have hl := lv_entry ([.int p0]) (n := 3) (Nat.le_of_ble_eq_true rfl)
  rw [lg_entry_eq]
  generalize (lg_sl ([.int p0]) ++ List.replicate (3 - (lg_sl ([.int p0])).length) Slot.unset).toArray = ls at hl ⊢
  have hl : lv_has ls 3 [(0, .int p0)] := hl
  have hN := hF
  unfold F_X4_holdsAlways at hN
  refine lv_iconst (v := 0) hx hb dX4_holdsAlways_0 (by decide) ?_
  refine lv_istore_n (lv' := [(1, .int (0 : Int32)), (0, .int p0)]) hx hb dX4_holdsAlways_1 rfl hl (by decide) rfl (fun ls hl => ?_)
  refine lv_iconst (v := 0) hx hb dX4_holdsAlways_2 (by decide) ?_
  refine lv_istore_n (lv' := [(2, .int (0 : Int32)), (1, .int (0 : Int32)), (0, .int p0)]) hx hb dX4_holdsAlways_3 rfl hl (by decide) rfl (fun ls hl => ?_)
  exact lp4 fuel p0 (0 : Int32) (0 : Int32)  _ _ _ hP hS (lv_sub hl [2, 1, 0] rfl) hN
set_option maxHeartbeats 4000000 in
set_option maxRecDepth 100000 in
theorem c_X4_hasWithin (l : Launch) (g : Gm) (L : List Nat) {A : Nat → Prop} (hL : kL L A) (G : Nat → va_E) (h0 : Nat) (r : Nat → Nat) (u : St) (hV : vM g L G h0 r u) (p0 : Int32) (v : Int32) (hF : F_X4_hasWithin u p0 = some v) : Met l yX4_hasWithin wsX4_hasWithin ({ frames := 2, cells := 0, slots := 0, locals := 43 } : Room) (va_Pc [.ref h0, .int p0] (kB g L A G)) (va_Qi (fun x9 (G9 : Nat → va_E) => x9 = v ∧ G9 = G) (kE g L) A) 0 0 A := by
  refine Met.ofW (cc := cX4_hasWithin) (maxL := 4) (ret := (some .boolean)) (by decide) rfl ?_
  intro p e s m args below meth c s₁ B hml hv
  obtain ⟨rfl, hP, hC⟩ := hv
  have hx := B.exec
  have hb := B.bytes
  have hr := B.returns
  have hts := atoms_spec (ws := wsX4_hasWithin) B.pre
  have hown : s.vm.findClass RX4 = some m.cls := findClass_of_methodNamed B.named
  have hlk := B.notSynchronized
  have hS : va_S A s.heap s.heap [] := va_S.rf
  have lp4 : ∀ (n : Nat) (x1 : Int32) (x2 : Int32) (x3 : Int32) (H : Heap) (locs : List Loc) (ls : Array Slot), va_P g.1 vwCl (va_pl L G) H → va_S A s.heap H locs → lv_has ls 4 [(0, .ref h0), (1, .int x1), (2, .int x2), (3, .int x3)] → FL_X4_hasWithin_4 u n x1 x2 x3 = some v → W p l e (headSpec wsX4_hasWithin ({ frames := 2, cells := 0, slots := 0, locals := 43 } : Room)).room s m ([.ref h0, .int p0] : List Value).toArray below meth c H locs 0 0 (MQ below (va_Qi (fun x9 (G9 : Nat → va_E) => x9 = v ∧ G9 = G) (kE g L) A) ([.ref h0, .int p0] : List Value).toArray s 0 0 A) (F0 m 4 ls []) := by
    intro n
    induction n with
    | zero =>
      intro x1 x2 x3 H locs ls hP hS hl hN
      exact absurd hN (by simp [FL_X4_hasWithin_4])
    | succ n ih =>
      intro x1 x2 x3 H locs ls hP hS hl hN
      rw [FL_X4_hasWithin_4] at hN
      refine lv_iload_n hx hb dX4_hasWithin_4 rfl (lv_at hl 3 rfl) ?_
      refine lv_aload_n hx hb dX4_hasWithin_5 rfl (lv_at hl 0 rfl) ?_
      refine k_get (C := RX4) (T := TX4) (N := 8) (ci := 4) (v := .ref (r 0)) hx hb hts (fun _ h => List.mem_cons_of_mem _ (List.mem_append_right _ h)) hown hC hP (vO.m hV) (vO.o hV) rfl 0 (by decide) (hts (.fieldLink RX4 7 "OrderedClausesModel" "s" "[I") (List.mem_of_getElem? (i := 1) rfl)) rfl dX4_hasWithin_6 ?_
      refine lv_iconst (v := 0) hx hb dX4_hasWithin_9 (by decide) ?_
      obtain ⟨v1, hv1, hN⟩ := oB_spec hN
      refine k_ildE hx hb hC hP (vO.rm hV 0 (by decide)) (vO.ri hV 0 (by decide)) hv1 dX4_hasWithin_10 ?_
      refine lv_icmp_ge (tgt := 51) hx hb dX4_hasWithin_11 (by decide) (fun c2 => ?_) (fun c2 => ?_)
      · rw [if_pos c2] at hN
        refine lv_iload_n hx hb dX4_hasWithin_51 rfl (lv_at hl 2 rfl) ?_
        obtain ⟨hz, hN⟩ := oZ_spec hN
        exact k_zretR hx hb hr hz (Option.some.inj hN) hP hS hlk dX4_hasWithin_52
      · rw [if_neg c2] at hN
        refine lv_iload_n hx hb dX4_hasWithin_14 rfl (lv_at hl 2 rfl) ?_
        refine lv_if_ne (tgt := 39) hx hb dX4_hasWithin_15 (by decide) (fun c3 => ?_) (fun c3 => ?_)
        · rw [if_neg c3] at hN
          refine lv_iconst (v := 1) hx hb dX4_hasWithin_39 (by decide) ?_
          refine lv_goto (tgt := 44) hx hb dX4_hasWithin_40 (by decide) ?_
          refine lv_istore_n (lv' := [(2, .int (1 : Int32)), (0, .ref h0), (1, .int x1), (3, .int x3)]) hx hb dX4_hasWithin_44 rfl hl (by decide) rfl (fun ls hl => ?_)
          refine lv_iinc (v := (x3 + 1)) (lv' := [(3, .int (x3 + 1)), (2, .int (1 : Int32)), (0, .ref h0), (1, .int x1)]) hx hb dX4_hasWithin_45 hl (k := 3) rfl rfl (by decide) rfl (fun ls hl => ?_)
          refine lv_goto (tgt := 4) hx hb dX4_hasWithin_48 (by decide) ?_
          exact ih x1 (1 : Int32) (x3 + 1)  _ _ _ hP hS (lv_sub hl [2, 3, 1, 0] rfl) hN
        · rw [if_pos c3] at hN
          refine lv_aload_n hx hb dX4_hasWithin_18 rfl (lv_at hl 0 rfl) ?_
          refine lv_iload_n hx hb dX4_hasWithin_19 rfl (lv_at hl 3 rfl) ?_
          obtain ⟨v4, hv4, hN⟩ := oB_spec hN
          refine k_iR hS (va_runV (As := [.int x3]) (rest := []) ⟨hx, hb, hml, hown, hts⟩ (c_X4_isKept l g L hL G h0 r u hV x3 v4 hv4) (cwV 1 hts gX4_hasWithin_X4_isKept rfl rfl rfl (by decide +kernel) ⟨Nat.le_of_ble_eq_true rfl, Nat.le_of_ble_eq_true rfl⟩) (k_preV hC hS hP (vO.m hV) (vO.o hV) rfl) rfl rfl hl.1 rfl (lv_room (Nat.le_of_ble_eq_true rfl)) dX4_hasWithin_20 ⟨Nat.zero_le _, Nat.zero_le _⟩) (fun H locs hP hS => ?_)
          refine lv_if_eq (tgt := 43) hx hb dX4_hasWithin_23 (by decide) (fun c6 => ?_) (fun c6 => ?_)
          · rw [if_pos c6] at hN
            refine lv_iconst (v := 0) hx hb dX4_hasWithin_43 (by decide) ?_
            refine lv_istore_n (lv' := [(2, .int (0 : Int32)), (0, .ref h0), (1, .int x1), (3, .int x3)]) hx hb dX4_hasWithin_44 rfl hl (by decide) rfl (fun ls hl => ?_)
            refine lv_iinc (v := (x3 + 1)) (lv' := [(3, .int (x3 + 1)), (2, .int (0 : Int32)), (0, .ref h0), (1, .int x1)]) hx hb dX4_hasWithin_45 hl (k := 3) rfl rfl (by decide) rfl (fun ls hl => ?_)
            refine lv_goto (tgt := 4) hx hb dX4_hasWithin_48 (by decide) ?_
            exact ih x1 (0 : Int32) (x3 + 1)  _ _ _ hP hS (lv_sub hl [2, 3, 1, 0] rfl) hN
          · rw [if_neg c6] at hN
            refine lv_aload_n hx hb dX4_hasWithin_26 rfl (lv_at hl 0 rfl) ?_
            refine lv_iload_n hx hb dX4_hasWithin_27 rfl (lv_at hl 3 rfl) ?_
            refine lv_iconst (v := 0) hx hb dX4_hasWithin_28 (by decide) ?_
            obtain ⟨v7, hv7, hN⟩ := oB_spec hN
            refine k_iR hS (va_runV (As := [.int x3, .int (0 : Int32)]) (rest := []) ⟨hx, hb, hml, hown, hts⟩ (c_X4_of l g L hL G h0 r u hV x3 (0 : Int32) v7 hv7) (cwV 2 hts gX4_hasWithin_X4_of rfl rfl rfl (by decide +kernel) ⟨Nat.le_of_ble_eq_true rfl, Nat.le_of_ble_eq_true rfl⟩) (k_preV hC hS hP (vO.m hV) (vO.o hV) rfl) rfl rfl hl.1 rfl (lv_room (Nat.le_of_ble_eq_true rfl)) dX4_hasWithin_29 ⟨Nat.zero_le _, Nat.zero_le _⟩) (fun H locs hP hS => ?_)
            refine lv_iload_n hx hb dX4_hasWithin_32 rfl (lv_at hl 1 rfl) ?_
            refine lv_iconst (v := (-1)) hx hb dX4_hasWithin_33 (by decide) ?_
            refine lv_ixor hx hb dX4_hasWithin_34 ?_
            refine lv_iand hx hb dX4_hasWithin_35 ?_
            refine lv_if_ne (tgt := 43) hx hb dX4_hasWithin_36 (by decide) (fun c9 => ?_) (fun c9 => ?_)
            · rw [if_neg c9] at hN
              refine lv_iconst (v := 0) hx hb dX4_hasWithin_43 (by decide) ?_
              refine lv_istore_n (lv' := [(2, .int (0 : Int32)), (0, .ref h0), (1, .int x1), (3, .int x3)]) hx hb dX4_hasWithin_44 rfl hl (by decide) rfl (fun ls hl => ?_)
              refine lv_iinc (v := (x3 + 1)) (lv' := [(3, .int (x3 + 1)), (2, .int (0 : Int32)), (0, .ref h0), (1, .int x1)]) hx hb dX4_hasWithin_45 hl (k := 3) rfl rfl (by decide) rfl (fun ls hl => ?_)
              refine lv_goto (tgt := 4) hx hb dX4_hasWithin_48 (by decide) ?_
              exact ih x1 (0 : Int32) (x3 + 1)  _ _ _ hP hS (lv_sub hl [2, 3, 1, 0] rfl) hN
            · rw [if_pos c9] at hN
              refine lv_iconst (v := 1) hx hb dX4_hasWithin_39 (by decide) ?_
              refine lv_goto (tgt := 44) hx hb dX4_hasWithin_40 (by decide) ?_
              refine lv_istore_n (lv' := [(2, .int (1 : Int32)), (0, .ref h0), (1, .int x1), (3, .int x3)]) hx hb dX4_hasWithin_44 rfl hl (by decide) rfl (fun ls hl => ?_)
              refine lv_iinc (v := (x3 + 1)) (lv' := [(3, .int (x3 + 1)), (2, .int (1 : Int32)), (0, .ref h0), (1, .int x1)]) hx hb dX4_hasWithin_45 hl (k := 3) rfl rfl (by decide) rfl (fun ls hl => ?_)
              refine lv_goto (tgt := 4) hx hb dX4_hasWithin_48 (by decide) ?_
              exact ih x1 (1 : Int32) (x3 + 1)  _ _ _ hP hS (lv_sub hl [2, 3, 1, 0] rfl) hN
  have hl := lv_entry ([.ref h0, .int p0]) (n := 4) (Nat.le_of_ble_eq_true rfl)
  rw [lg_entry_eq]
  generalize (lg_sl ([.ref h0, .int p0]) ++ List.replicate (4 - (lg_sl ([.ref h0, .int p0])).length) Slot.unset).toArray = ls at hl ⊢
  have hl : lv_has ls 4 [(0, .ref h0), (1, .int p0)] := hl
  have hN := hF
  unfold F_X4_hasWithin at hN
  refine lv_iconst (v := 0) hx hb dX4_hasWithin_0 (by decide) ?_
  refine lv_istore_n (lv' := [(2, .int (0 : Int32)), (0, .ref h0), (1, .int p0)]) hx hb dX4_hasWithin_1 rfl hl (by decide) rfl (fun ls hl => ?_)
  refine lv_iconst (v := 0) hx hb dX4_hasWithin_2 (by decide) ?_
  refine lv_istore_n (lv' := [(3, .int (0 : Int32)), (2, .int (0 : Int32)), (0, .ref h0), (1, .int p0)]) hx hb dX4_hasWithin_3 rfl hl (by decide) rfl (fun ls hl => ?_)
  exact lp4 fuel p0 (0 : Int32) (0 : Int32)  _ _ _ hP hS (lv_sub hl [2, 3, 1, 0] rfl) hN
set_option maxHeartbeats 4000000 in
set_option maxRecDepth 100000 in
theorem c_X4_empties (l : Launch) (g : Gm) (L : List Nat) {A : Nat → Prop} (hL : kL L A) (G : Nat → va_E) (h0 : Nat) (r : Nat → Nat) (u : St) (hV : vM g L G h0 r u) (v : Int32) (hF : F_X4_empties u = some v) : Met l yX4_empties wsX4_empties ({ frames := 1, cells := 0, slots := 0, locals := 22 } : Room) (va_Pc [.ref h0] (kB g L A G)) (va_Qi (fun x9 (G9 : Nat → va_E) => x9 = v ∧ G9 = G) (kE g L) A) 0 0 A := by
  refine Met.ofW (cc := cX4_empties) (maxL := 3) (ret := (some .int)) (by decide) rfl ?_
  intro p e s m args below meth c s₁ B hml hv
  obtain ⟨rfl, hP, hC⟩ := hv
  have hx := B.exec
  have hb := B.bytes
  have hr := B.returns
  have hts := atoms_spec (ws := wsX4_empties) B.pre
  have hown : s.vm.findClass RX4 = some m.cls := findClass_of_methodNamed B.named
  have hlk := B.notSynchronized
  have hS : va_S A s.heap s.heap [] := va_S.rf
  have lp4 : ∀ (n : Nat) (x1 : Int32) (x2 : Int32) (H : Heap) (locs : List Loc) (ls : Array Slot), va_P g.1 vwCl (va_pl L G) H → va_S A s.heap H locs → lv_has ls 3 [(0, .ref h0), (1, .int x1), (2, .int x2)] → FL_X4_empties_4 u n x1 x2 = some v → W p l e (headSpec wsX4_empties ({ frames := 1, cells := 0, slots := 0, locals := 22 } : Room)).room s m ([.ref h0] : List Value).toArray below meth c H locs 0 0 (MQ below (va_Qi (fun x9 (G9 : Nat → va_E) => x9 = v ∧ G9 = G) (kE g L) A) ([.ref h0] : List Value).toArray s 0 0 A) (F0 m 4 ls []) := by
    intro n
    induction n with
    | zero =>
      intro x1 x2 H locs ls hP hS hl hN
      exact absurd hN (by simp [FL_X4_empties_4])
    | succ n ih =>
      intro x1 x2 H locs ls hP hS hl hN
      rw [FL_X4_empties_4] at hN
      refine lv_iload_n hx hb dX4_empties_4 rfl (lv_at hl 2 rfl) ?_
      refine lv_aload_n hx hb dX4_empties_5 rfl (lv_at hl 0 rfl) ?_
      refine k_get (C := RX4) (T := TX4) (N := 8) (ci := 4) (v := .ref (r 0)) hx hb hts (fun _ h => List.mem_cons_of_mem _ (List.mem_append_right _ h)) hown hC hP (vO.m hV) (vO.o hV) rfl 0 (by decide) (hts (.fieldLink RX4 7 "OrderedClausesModel" "s" "[I") (List.mem_of_getElem? (i := 1) rfl)) rfl dX4_empties_6 ?_
      refine lv_iconst (v := 0) hx hb dX4_empties_9 (by decide) ?_
      obtain ⟨v1, hv1, hN⟩ := oB_spec hN
      refine k_ildE hx hb hC hP (vO.rm hV 0 (by decide)) (vO.ri hV 0 (by decide)) hv1 dX4_empties_10 ?_
      refine lv_icmp_ge (tgt := 35) hx hb dX4_empties_11 (by decide) (fun c2 => ?_) (fun c2 => ?_)
      · rw [if_pos c2] at hN
        refine lv_iload_n hx hb dX4_empties_35 rfl (lv_at hl 1 rfl) ?_
        exact k_iretR hx hb hr (Option.some.inj hN) hP hS hlk dX4_empties_36
      · rw [if_neg c2] at hN
        refine lv_aload_n hx hb dX4_empties_14 rfl (lv_at hl 0 rfl) ?_
        refine lv_iload_n hx hb dX4_empties_15 rfl (lv_at hl 2 rfl) ?_
        refine lv_iconst (v := 0) hx hb dX4_empties_16 (by decide) ?_
        obtain ⟨v3, hv3, hN⟩ := oB_spec hN
        refine k_iR hS (va_runV (As := [.int x2, .int (0 : Int32)]) (rest := []) ⟨hx, hb, hml, hown, hts⟩ (c_X4_of l g L hL G h0 r u hV x2 (0 : Int32) v3 hv3) (cwV 2 hts gX4_empties_X4_of rfl rfl rfl (by decide +kernel) ⟨Nat.le_of_ble_eq_true rfl, Nat.le_of_ble_eq_true rfl⟩) (k_preV hC hS hP (vO.m hV) (vO.o hV) rfl) rfl rfl hl.1 rfl (lv_room (Nat.le_of_ble_eq_true rfl)) dX4_empties_17 ⟨Nat.zero_le _, Nat.zero_le _⟩) (fun H locs hP hS => ?_)
        refine lv_if_ne (tgt := 27) hx hb dX4_empties_20 (by decide) (fun c5 => ?_) (fun c5 => ?_)
        · rw [if_neg c5] at hN
          refine lv_iload_n hx hb dX4_empties_27 rfl (lv_at hl 1 rfl) ?_
          refine lv_istore_n (lv' := [(1, .int x1), (0, .ref h0), (2, .int x2)]) hx hb dX4_empties_28 rfl hl (by decide) rfl (fun ls hl => ?_)
          refine lv_iinc (v := (x2 + 1)) (lv' := [(2, .int (x2 + 1)), (1, .int x1), (0, .ref h0)]) hx hb dX4_empties_29 hl (k := 2) rfl rfl (by decide) rfl (fun ls hl => ?_)
          refine lv_goto (tgt := 4) hx hb dX4_empties_32 (by decide) ?_
          exact ih x1 (x2 + 1)  _ _ _ hP hS (lv_sub hl [2, 1, 0] rfl) hN
        · rw [if_pos c5] at hN
          refine lv_iload_n hx hb dX4_empties_23 rfl (lv_at hl 2 rfl) ?_
          refine lv_goto (tgt := 28) hx hb dX4_empties_24 (by decide) ?_
          refine lv_istore_n (lv' := [(1, .int x2), (0, .ref h0), (2, .int x2)]) hx hb dX4_empties_28 rfl hl (by decide) rfl (fun ls hl => ?_)
          refine lv_iinc (v := (x2 + 1)) (lv' := [(2, .int (x2 + 1)), (1, .int x2), (0, .ref h0)]) hx hb dX4_empties_29 hl (k := 2) rfl rfl (by decide) rfl (fun ls hl => ?_)
          refine lv_goto (tgt := 4) hx hb dX4_empties_32 (by decide) ?_
          exact ih x2 (x2 + 1)  _ _ _ hP hS (lv_sub hl [2, 1, 0] rfl) hN
  have hl := lv_entry ([.ref h0]) (n := 3) (Nat.le_of_ble_eq_true rfl)
  rw [lg_entry_eq]
  generalize (lg_sl ([.ref h0]) ++ List.replicate (3 - (lg_sl ([.ref h0])).length) Slot.unset).toArray = ls at hl ⊢
  have hl : lv_has ls 3 [(0, .ref h0)] := hl
  have hN := hF
  unfold F_X4_empties at hN
  refine lv_iconst (v := (-1)) hx hb dX4_empties_0 (by decide) ?_
  refine lv_istore_n (lv' := [(1, .int ((-1) : Int32)), (0, .ref h0)]) hx hb dX4_empties_1 rfl hl (by decide) rfl (fun ls hl => ?_)
  refine lv_iconst (v := 0) hx hb dX4_empties_2 (by decide) ?_
  refine lv_istore_n (lv' := [(2, .int (0 : Int32)), (1, .int ((-1) : Int32)), (0, .ref h0)]) hx hb dX4_empties_3 rfl hl (by decide) rfl (fun ls hl => ?_)
  exact lp4 fuel ((-1) : Int32) (0 : Int32)  _ _ _ hP hS (lv_sub hl [2, 1, 0] rfl) hN
set_option maxHeartbeats 4000000 in
set_option maxRecDepth 100000 in
theorem c_X4_chosen (l : Launch) (g : Gm) (L : List Nat) {A : Nat → Prop} (hL : kL L A) (G : Nat → va_E) (h0 : Nat) (r : Nat → Nat) (u : St) (hV : vM g L G h0 r u) (v : Int32) (hF : F_X4_chosen u = some v) : Met l yX4_chosen wsX4_chosen ({ frames := 2, cells := 0, slots := 0, locals := 44 } : Room) (va_Pc [.ref h0] (kB g L A G)) (va_Qi (fun x9 (G9 : Nat → va_E) => x9 = v ∧ G9 = G) (kE g L) A) 0 0 A := by
  refine Met.ofW (cc := cX4_chosen) (maxL := 5) (ret := (some .int)) (by decide) rfl ?_
  intro p e s m args below meth c s₁ B hml hv
  obtain ⟨rfl, hP, hC⟩ := hv
  have hx := B.exec
  have hb := B.bytes
  have hr := B.returns
  have hts := atoms_spec (ws := wsX4_chosen) B.pre
  have hown : s.vm.findClass RX4 = some m.cls := findClass_of_methodNamed B.named
  have hlk := B.notSynchronized
  have hS : va_S A s.heap s.heap [] := va_S.rf
  have lp35 : ∀ (n : Nat) (x1 : Int32) (x2 : Int32) (x3 : Int32) (H : Heap) (locs : List Loc) (ls : Array Slot), va_P g.1 vwCl (va_pl L G) H → va_S A s.heap H locs → lv_has ls 5 [(0, .ref h0), (1, .int x1), (2, .int x2), (3, .int x3)] → FL_X4_chosen_35 u n x1 x2 x3 = some v → W p l e (headSpec wsX4_chosen ({ frames := 2, cells := 0, slots := 0, locals := 44 } : Room)).room s m ([.ref h0] : List Value).toArray below meth c H locs 0 0 (MQ below (va_Qi (fun x9 (G9 : Nat → va_E) => x9 = v ∧ G9 = G) (kE g L) A) ([.ref h0] : List Value).toArray s 0 0 A) (F0 m 35 ls []) := by
    intro n
    induction n with
    | zero =>
      intro x1 x2 x3 H locs ls hP hS hl hN
      exact absurd hN (by simp [FL_X4_chosen_35])
    | succ n ih =>
      intro x1 x2 x3 H locs ls hP hS hl hN
      rw [FL_X4_chosen_35] at hN
      refine lv_iload_n hx hb dX4_chosen_35 rfl (lv_at hl 3 rfl) ?_
      refine lv_if_lt (tgt := 101) hx hb dX4_chosen_36 (by decide) (fun c6 => ?_) (fun c6 => ?_)
      · rw [if_pos c6] at hN
        refine lv_aload_n hx hb dX4_chosen_101 rfl (lv_at hl 0 rfl) ?_
        obtain ⟨v7, hv7, hN⟩ := oB_spec hN
        refine k_iR hS (va_runV (As := []) (rest := []) ⟨hx, hb, hml, hown, hts⟩ (c_X4_empties l g L hL G h0 r u hV v7 hv7) (cwV 0 hts gX4_chosen_X4_empties rfl rfl rfl (by decide +kernel) ⟨Nat.le_of_ble_eq_true rfl, Nat.le_of_ble_eq_true rfl⟩) (k_preV hC hS hP (vO.m hV) (vO.o hV) rfl) rfl rfl hl.1 rfl (lv_room (Nat.le_of_ble_eq_true rfl)) dX4_chosen_102 ⟨Nat.zero_le _, Nat.zero_le _⟩) (fun H locs hP hS => ?_)
        refine lv_if_ge (tgt := 112) hx hb dX4_chosen_105 (by decide) (fun c9 => ?_) (fun c9 => ?_)
        · rw [if_pos c9] at hN
          refine lv_iconst (v := (-1)) hx hb dX4_chosen_112 (by decide) ?_
          exact k_iretR hx hb hr (Option.some.inj hN) hP hS hlk dX4_chosen_113
        · rw [if_neg c9] at hN
          refine lv_iload_n hx hb dX4_chosen_108 rfl (lv_at hl 2 rfl) ?_
          refine lv_goto (tgt := 113) hx hb dX4_chosen_109 (by decide) ?_
          exact k_iretR hx hb hr (Option.some.inj hN) hP hS hlk dX4_chosen_113
      · rw [if_neg c6] at hN
        refine lv_aload_n hx hb dX4_chosen_39 rfl (lv_at hl 0 rfl) ?_
        refine lv_iload_n hx hb dX4_chosen_40 rfl (lv_at hl 3 rfl) ?_
        refine lv_iconst (v := 1) hx hb dX4_chosen_41 (by decide) ?_
        obtain ⟨v10, hv10, hN⟩ := oB_spec hN
        refine k_iR hS (va_runV (As := [.int x3, .int (1 : Int32)]) (rest := []) ⟨hx, hb, hml, hown, hts⟩ (c_X4_of l g L hL G h0 r u hV x3 (1 : Int32) v10 hv10) (cwV 2 hts gX4_chosen_X4_of rfl rfl rfl (by decide +kernel) ⟨Nat.le_of_ble_eq_true rfl, Nat.le_of_ble_eq_true rfl⟩) (k_preV hC hS hP (vO.m hV) (vO.o hV) rfl) rfl rfl hl.1 rfl (lv_room (Nat.le_of_ble_eq_true rfl)) dX4_chosen_42 ⟨Nat.zero_le _, Nat.zero_le _⟩) (fun H locs hP hS => ?_)
        refine lv_if_ne (tgt := 81) hx hb dX4_chosen_45 (by decide) (fun c12 => ?_) (fun c12 => ?_)
        · rw [if_neg c12] at hN
          refine lv_iconst (v := 0) hx hb dX4_chosen_81 (by decide) ?_
          refine lv_istore (lv' := [(4, .int (0 : Int32)), (0, .ref h0), (1, .int x1), (2, .int x2), (3, .int x3)]) hx hb dX4_chosen_82 hl (by decide) rfl (fun ls hl => ?_)
          refine lv_iload hx hb dX4_chosen_84 (lv_at hl 0 rfl) ?_
          refine lv_if_eq (tgt := 93) hx hb dX4_chosen_86 (by decide) (fun _ => ?_) (fun c9 => absurd c9 (by decide))
          refine lv_iload_n hx hb dX4_chosen_93 rfl (lv_at hl 3 rfl) ?_
          refine lv_istore_n (lv' := [(2, .int x2), (4, .int (0 : Int32)), (0, .ref h0), (1, .int x1), (3, .int x3)]) hx hb dX4_chosen_94 rfl hl (by decide) rfl (fun ls hl => ?_)
          refine lv_iinc (v := (x3 - 1)) (lv' := [(3, .int (x3 - 1)), (2, .int x2), (4, .int (0 : Int32)), (0, .ref h0), (1, .int x1)]) hx hb dX4_chosen_95 hl (k := 4) rfl (by rw [Int32.sub_eq_add_neg]; rfl) (by decide) rfl (fun ls hl => ?_)
          refine lv_goto (tgt := 35) hx hb dX4_chosen_98 (by decide) ?_
          exact ih x1 x2 (x3 - 1)  _ _ _ hP hS (lv_sub hl [3, 4, 1, 0] rfl) hN
        · rw [if_pos c12] at hN
          refine lv_iload_n hx hb dX4_chosen_48 rfl (lv_at hl 2 rfl) ?_
          refine lv_if_lt (tgt := 77) hx hb dX4_chosen_49 (by decide) (fun c13 => ?_) (fun c13 => ?_)
          · rw [if_pos c13] at hN
            refine lv_iconst (v := 1) hx hb dX4_chosen_77 (by decide) ?_
            refine lv_goto (tgt := 82) hx hb dX4_chosen_78 (by decide) ?_
            refine lv_istore (lv' := [(4, .int (1 : Int32)), (0, .ref h0), (1, .int x1), (2, .int x2), (3, .int x3)]) hx hb dX4_chosen_82 hl (by decide) rfl (fun ls hl => ?_)
            refine lv_iload hx hb dX4_chosen_84 (lv_at hl 0 rfl) ?_
            refine lv_if_eq (tgt := 93) hx hb dX4_chosen_86 (by decide) (fun c9 => absurd c9 (by decide)) (fun _ => ?_)
            refine lv_iload_n hx hb dX4_chosen_89 rfl (lv_at hl 4 rfl) ?_
            refine lv_goto (tgt := 94) hx hb dX4_chosen_90 (by decide) ?_
            refine lv_istore_n (lv' := [(2, .int x3), (4, .int (1 : Int32)), (0, .ref h0), (1, .int x1), (3, .int x3)]) hx hb dX4_chosen_94 rfl hl (by decide) rfl (fun ls hl => ?_)
            refine lv_iinc (v := (x3 - 1)) (lv' := [(3, .int (x3 - 1)), (2, .int x3), (4, .int (1 : Int32)), (0, .ref h0), (1, .int x1)]) hx hb dX4_chosen_95 hl (k := 4) rfl (by rw [Int32.sub_eq_add_neg]; rfl) (by decide) rfl (fun ls hl => ?_)
            refine lv_goto (tgt := 35) hx hb dX4_chosen_98 (by decide) ?_
            exact ih x1 x3 (x3 - 1)  _ _ _ hP hS (lv_sub hl [3, 4, 1, 0] rfl) hN
          · rw [if_neg c13] at hN
            refine lv_iload_n hx hb dX4_chosen_52 rfl (lv_at hl 1 rfl) ?_
            refine lv_if_ne (tgt := 77) hx hb dX4_chosen_53 (by decide) (fun c14 => ?_) (fun c14 => ?_)
            · rw [if_neg c14] at hN
              refine lv_iconst (v := 1) hx hb dX4_chosen_77 (by decide) ?_
              refine lv_goto (tgt := 82) hx hb dX4_chosen_78 (by decide) ?_
              refine lv_istore (lv' := [(4, .int (1 : Int32)), (0, .ref h0), (1, .int x1), (2, .int x2), (3, .int x3)]) hx hb dX4_chosen_82 hl (by decide) rfl (fun ls hl => ?_)
              refine lv_iload hx hb dX4_chosen_84 (lv_at hl 0 rfl) ?_
              refine lv_if_eq (tgt := 93) hx hb dX4_chosen_86 (by decide) (fun c9 => absurd c9 (by decide)) (fun _ => ?_)
              refine lv_iload_n hx hb dX4_chosen_89 rfl (lv_at hl 4 rfl) ?_
              refine lv_goto (tgt := 94) hx hb dX4_chosen_90 (by decide) ?_
              refine lv_istore_n (lv' := [(2, .int x3), (4, .int (1 : Int32)), (0, .ref h0), (1, .int x1), (3, .int x3)]) hx hb dX4_chosen_94 rfl hl (by decide) rfl (fun ls hl => ?_)
              refine lv_iinc (v := (x3 - 1)) (lv' := [(3, .int (x3 - 1)), (2, .int x3), (4, .int (1 : Int32)), (0, .ref h0), (1, .int x1)]) hx hb dX4_chosen_95 hl (k := 4) rfl (by rw [Int32.sub_eq_add_neg]; rfl) (by decide) rfl (fun ls hl => ?_)
              refine lv_goto (tgt := 35) hx hb dX4_chosen_98 (by decide) ?_
              exact ih x1 x3 (x3 - 1)  _ _ _ hP hS (lv_sub hl [3, 4, 1, 0] rfl) hN
            · rw [if_pos c14] at hN
              refine lv_aload_n hx hb dX4_chosen_56 rfl (lv_at hl 0 rfl) ?_
              refine lv_iload_n hx hb dX4_chosen_57 rfl (lv_at hl 3 rfl) ?_
              refine lv_iconst (v := 0) hx hb dX4_chosen_58 (by decide) ?_
              obtain ⟨v15, hv15, hN⟩ := oB_spec hN
              refine k_iR hS (va_runV (As := [.int x3, .int (0 : Int32)]) (rest := []) ⟨hx, hb, hml, hown, hts⟩ (c_X4_of l g L hL G h0 r u hV x3 (0 : Int32) v15 hv15) (cwV 2 hts gX4_chosen_X4_of rfl rfl rfl (by decide +kernel) ⟨Nat.le_of_ble_eq_true rfl, Nat.le_of_ble_eq_true rfl⟩) (k_preV hC hS hP (vO.m hV) (vO.o hV) rfl) rfl rfl hl.1 rfl (lv_room (Nat.le_of_ble_eq_true rfl)) dX4_chosen_59 ⟨Nat.zero_le _, Nat.zero_le _⟩) (fun H locs hP hS => ?_)
              obtain ⟨v17, hv17, hN⟩ := oB_spec hN
              refine k_iR hS (va_runS (As := [.int v15]) (rest := []) ⟨hx, hb, hml, hown, hts⟩ (c_X4_ones l g L hL G v15 v17 hv17) (va_cwS 1 hts gX4_chosen_X4_ones rfl rfl rfl (by decide +kernel) ⟨Nat.le_of_ble_eq_true rfl, Nat.le_of_ble_eq_true rfl⟩) (k_pre hC hS hP) rfl rfl hl.1 rfl (lv_room (Nat.le_of_ble_eq_true rfl)) dX4_chosen_62 ⟨Nat.zero_le _, Nat.zero_le _⟩) (fun H locs hP hS => ?_)
              refine lv_aload_n hx hb dX4_chosen_65 rfl (lv_at hl 0 rfl) ?_
              refine lv_iload_n hx hb dX4_chosen_66 rfl (lv_at hl 2 rfl) ?_
              refine lv_iconst (v := 0) hx hb dX4_chosen_67 (by decide) ?_
              obtain ⟨v19, hv19, hN⟩ := oB_spec hN
              refine k_iR hS (va_runV (As := [.int x2, .int (0 : Int32)]) (rest := [.int v17]) ⟨hx, hb, hml, hown, hts⟩ (c_X4_of l g L hL G h0 r u hV x2 (0 : Int32) v19 hv19) (cwV 2 hts gX4_chosen_X4_of rfl rfl rfl (by decide +kernel) ⟨Nat.le_of_ble_eq_true rfl, Nat.le_of_ble_eq_true rfl⟩) (k_preV hC hS hP (vO.m hV) (vO.o hV) rfl) rfl rfl hl.1 rfl (lv_room (Nat.le_of_ble_eq_true rfl)) dX4_chosen_68 ⟨Nat.zero_le _, Nat.zero_le _⟩) (fun H locs hP hS => ?_)
              obtain ⟨v21, hv21, hN⟩ := oB_spec hN
              refine k_iR hS (va_runS (As := [.int v19]) (rest := [.int v17]) ⟨hx, hb, hml, hown, hts⟩ (c_X4_ones l g L hL G v19 v21 hv21) (va_cwS 1 hts gX4_chosen_X4_ones rfl rfl rfl (by decide +kernel) ⟨Nat.le_of_ble_eq_true rfl, Nat.le_of_ble_eq_true rfl⟩) (k_pre hC hS hP) rfl rfl hl.1 rfl (lv_room (Nat.le_of_ble_eq_true rfl)) dX4_chosen_71 ⟨Nat.zero_le _, Nat.zero_le _⟩) (fun H locs hP hS => ?_)
              refine lv_icmp_gt (tgt := 81) hx hb dX4_chosen_74 (by decide) (fun c23 => ?_) (fun c23 => ?_)
              · rw [if_pos c23] at hN
                refine lv_iconst (v := 0) hx hb dX4_chosen_81 (by decide) ?_
                refine lv_istore (lv' := [(4, .int (0 : Int32)), (0, .ref h0), (1, .int x1), (2, .int x2), (3, .int x3)]) hx hb dX4_chosen_82 hl (by decide) rfl (fun ls hl => ?_)
                refine lv_iload hx hb dX4_chosen_84 (lv_at hl 0 rfl) ?_
                refine lv_if_eq (tgt := 93) hx hb dX4_chosen_86 (by decide) (fun _ => ?_) (fun c9 => absurd c9 (by decide))
                refine lv_iload_n hx hb dX4_chosen_93 rfl (lv_at hl 3 rfl) ?_
                refine lv_istore_n (lv' := [(2, .int x2), (4, .int (0 : Int32)), (0, .ref h0), (1, .int x1), (3, .int x3)]) hx hb dX4_chosen_94 rfl hl (by decide) rfl (fun ls hl => ?_)
                refine lv_iinc (v := (x3 - 1)) (lv' := [(3, .int (x3 - 1)), (2, .int x2), (4, .int (0 : Int32)), (0, .ref h0), (1, .int x1)]) hx hb dX4_chosen_95 hl (k := 4) rfl (by rw [Int32.sub_eq_add_neg]; rfl) (by decide) rfl (fun ls hl => ?_)
                refine lv_goto (tgt := 35) hx hb dX4_chosen_98 (by decide) ?_
                exact ih x1 x2 (x3 - 1)  _ _ _ hP hS (lv_sub hl [3, 4, 1, 0] rfl) hN
              · rw [if_neg c23] at hN
                refine lv_iconst (v := 1) hx hb dX4_chosen_77 (by decide) ?_
                refine lv_goto (tgt := 82) hx hb dX4_chosen_78 (by decide) ?_
                refine lv_istore (lv' := [(4, .int (1 : Int32)), (0, .ref h0), (1, .int x1), (2, .int x2), (3, .int x3)]) hx hb dX4_chosen_82 hl (by decide) rfl (fun ls hl => ?_)
                refine lv_iload hx hb dX4_chosen_84 (lv_at hl 0 rfl) ?_
                refine lv_if_eq (tgt := 93) hx hb dX4_chosen_86 (by decide) (fun c9 => absurd c9 (by decide)) (fun _ => ?_)
                refine lv_iload_n hx hb dX4_chosen_89 rfl (lv_at hl 4 rfl) ?_
                refine lv_goto (tgt := 94) hx hb dX4_chosen_90 (by decide) ?_
                refine lv_istore_n (lv' := [(2, .int x3), (4, .int (1 : Int32)), (0, .ref h0), (1, .int x1), (3, .int x3)]) hx hb dX4_chosen_94 rfl hl (by decide) rfl (fun ls hl => ?_)
                refine lv_iinc (v := (x3 - 1)) (lv' := [(3, .int (x3 - 1)), (2, .int x3), (4, .int (1 : Int32)), (0, .ref h0), (1, .int x1)]) hx hb dX4_chosen_95 hl (k := 4) rfl (by rw [Int32.sub_eq_add_neg]; rfl) (by decide) rfl (fun ls hl => ?_)
                refine lv_goto (tgt := 35) hx hb dX4_chosen_98 (by decide) ?_
                exact ih x1 x3 (x3 - 1)  _ _ _ hP hS (lv_sub hl [3, 4, 1, 0] rfl) hN
  have hl := lv_entry ([.ref h0]) (n := 5) (Nat.le_of_ble_eq_true rfl)
  rw [lg_entry_eq]
  generalize (lg_sl ([.ref h0]) ++ List.replicate (5 - (lg_sl ([.ref h0])).length) Slot.unset).toArray = ls at hl ⊢
  have hl : lv_has ls 5 [(0, .ref h0)] := hl
  have hN := hF
  unfold F_X4_chosen at hN
  refine lv_aload_n hx hb dX4_chosen_0 rfl (lv_at hl 0 rfl) ?_
  refine k_get (C := RX4) (T := TX4) (N := 8) (ci := 4) (v := .ref (r 0)) hx hb hts (fun _ h => List.mem_cons_of_mem _ (List.mem_append_right _ h)) hown hC hP (vO.m hV) (vO.o hV) rfl 0 (by decide) (hts (.fieldLink RX4 7 "OrderedClausesModel" "s" "[I") (List.mem_of_getElem? (i := 1) rfl)) rfl dX4_chosen_1 ?_
  refine lv_iconst (v := 1) hx hb dX4_chosen_4 (by decide) ?_
  obtain ⟨v1, hv1, hN⟩ := oB_spec hN
  refine k_ildE hx hb hC hP (vO.rm hV 0 (by decide)) (vO.ri hV 0 (by decide)) hv1 dX4_chosen_5 ?_
  refine lv_iconst (v := 1) hx hb dX4_chosen_6 (by decide) ?_
  refine lv_iadd hx hb dX4_chosen_7 ?_
  refine lv_aload_n hx hb dX4_chosen_8 rfl (lv_at hl 0 rfl) ?_
  refine k_get (C := RX4) (T := TX4) (N := 8) (ci := 4) (v := .ref (r 0)) hx hb hts (fun _ h => List.mem_cons_of_mem _ (List.mem_append_right _ h)) hown hC hP (vO.m hV) (vO.o hV) rfl 0 (by decide) (hts (.fieldLink RX4 7 "OrderedClausesModel" "s" "[I") (List.mem_of_getElem? (i := 1) rfl)) rfl dX4_chosen_9 ?_
  refine lv_iconst (v := 2) hx hb dX4_chosen_12 (by decide) ?_
  obtain ⟨v2, hv2, hN⟩ := oB_spec hN
  refine k_ildE hx hb hC hP (vO.rm hV 0 (by decide)) (vO.ri hV 0 (by decide)) hv2 dX4_chosen_13 ?_
  obtain ⟨v3, hv3, hN⟩ := oB_spec hN
  refine lv_iremE hx hb dX4_chosen_14 hv3 ?_
  refine lv_if_ne (tgt := 22) hx hb dX4_chosen_15 (by decide) (fun c4 => ?_) (fun c4 => ?_)
  · rw [if_neg c4] at hN
    refine lv_iconst (v := 0) hx hb dX4_chosen_22 (by decide) ?_
    refine lv_istore_n (lv' := [(1, .int (0 : Int32)), (0, .ref h0)]) hx hb dX4_chosen_23 rfl hl (by decide) rfl (fun ls hl => ?_)
    refine lv_iconst (v := (-1)) hx hb dX4_chosen_24 (by decide) ?_
    refine lv_istore_n (lv' := [(2, .int ((-1) : Int32)), (1, .int (0 : Int32)), (0, .ref h0)]) hx hb dX4_chosen_25 rfl hl (by decide) rfl (fun ls hl => ?_)
    refine lv_aload_n hx hb dX4_chosen_26 rfl (lv_at hl 2 rfl) ?_
    refine k_get (C := RX4) (T := TX4) (N := 8) (ci := 4) (v := .ref (r 0)) hx hb hts (fun _ h => List.mem_cons_of_mem _ (List.mem_append_right _ h)) hown hC hP (vO.m hV) (vO.o hV) rfl 0 (by decide) (hts (.fieldLink RX4 7 "OrderedClausesModel" "s" "[I") (List.mem_of_getElem? (i := 1) rfl)) rfl dX4_chosen_27 ?_
    refine lv_iconst (v := 0) hx hb dX4_chosen_30 (by decide) ?_
    obtain ⟨v5, hv5, hN⟩ := oB_spec hN
    refine k_ildE hx hb hC hP (vO.rm hV 0 (by decide)) (vO.ri hV 0 (by decide)) hv5 dX4_chosen_31 ?_
    refine lv_iconst (v := 1) hx hb dX4_chosen_32 (by decide) ?_
    refine lv_isub hx hb dX4_chosen_33 ?_
    refine lv_istore_n (lv' := [(3, .int (v5 - (1 : Int32))), (2, .int ((-1) : Int32)), (1, .int (0 : Int32)), (0, .ref h0)]) hx hb dX4_chosen_34 rfl hl (by decide) rfl (fun ls hl => ?_)
    exact lp35 fuel (0 : Int32) ((-1) : Int32) (v5 - (1 : Int32))  _ _ _ hP hS (lv_sub hl [3, 2, 1, 0] rfl) hN
  · rw [if_pos c4] at hN
    refine lv_iconst (v := 1) hx hb dX4_chosen_18 (by decide) ?_
    refine lv_goto (tgt := 23) hx hb dX4_chosen_19 (by decide) ?_
    refine lv_istore_n (lv' := [(1, .int (1 : Int32)), (0, .ref h0)]) hx hb dX4_chosen_23 rfl hl (by decide) rfl (fun ls hl => ?_)
    refine lv_iconst (v := (-1)) hx hb dX4_chosen_24 (by decide) ?_
    refine lv_istore_n (lv' := [(2, .int ((-1) : Int32)), (1, .int (1 : Int32)), (0, .ref h0)]) hx hb dX4_chosen_25 rfl hl (by decide) rfl (fun ls hl => ?_)
    refine lv_aload_n hx hb dX4_chosen_26 rfl (lv_at hl 2 rfl) ?_
    refine k_get (C := RX4) (T := TX4) (N := 8) (ci := 4) (v := .ref (r 0)) hx hb hts (fun _ h => List.mem_cons_of_mem _ (List.mem_append_right _ h)) hown hC hP (vO.m hV) (vO.o hV) rfl 0 (by decide) (hts (.fieldLink RX4 7 "OrderedClausesModel" "s" "[I") (List.mem_of_getElem? (i := 1) rfl)) rfl dX4_chosen_27 ?_
    refine lv_iconst (v := 0) hx hb dX4_chosen_30 (by decide) ?_
    obtain ⟨v24, hv24, hN⟩ := oB_spec hN
    refine k_ildE hx hb hC hP (vO.rm hV 0 (by decide)) (vO.ri hV 0 (by decide)) hv24 dX4_chosen_31 ?_
    refine lv_iconst (v := 1) hx hb dX4_chosen_32 (by decide) ?_
    refine lv_isub hx hb dX4_chosen_33 ?_
    refine lv_istore_n (lv' := [(3, .int (v24 - (1 : Int32))), (2, .int ((-1) : Int32)), (1, .int (1 : Int32)), (0, .ref h0)]) hx hb dX4_chosen_34 rfl hl (by decide) rfl (fun ls hl => ?_)
    exact lp35 fuel (1 : Int32) ((-1) : Int32) (v24 - (1 : Int32))  _ _ _ hP hS (lv_sub hl [3, 2, 1, 0] rfl) hN
set_option maxHeartbeats 4000000 in
set_option maxRecDepth 100000 in
theorem c_X4_arePartners (l : Launch) (g : Gm) (L : List Nat) {A : Nat → Prop} (hL : kL L A) (G : Nat → va_E) (h0 : Nat) (r : Nat → Nat) (u : St) (hV : vM g L G h0 r u) (p0 : Int32) (p1 : Int32) (v : Int32) (hF : F_X4_arePartners u p0 p1 = some v) : Met l yX4_arePartners wsX4_arePartners ({ frames := 2, cells := 0, slots := 0, locals := 44 } : Room) (va_Pc [.ref h0, .int p0, .int p1] (kB g L A G)) (va_Qi (fun x9 (G9 : Nat → va_E) => x9 = v ∧ G9 = G) (kE g L) A) 0 0 A := by
  refine Met.ofW (cc := cX4_arePartners) (maxL := 4) (ret := (some .boolean)) (by decide) rfl ?_
  intro p e s m args below meth c s₁ B hml hv
  obtain ⟨rfl, hP, hC⟩ := hv
  have hx := B.exec
  have hb := B.bytes
  have hr := B.returns
  have hts := atoms_spec (ws := wsX4_arePartners) B.pre
  have hown : s.vm.findClass RX4 = some m.cls := findClass_of_methodNamed B.named
  have hlk := B.notSynchronized
  have hS : va_S A s.heap s.heap [] := va_S.rf
  have hl := lv_entry ([.ref h0, .int p0, .int p1]) (n := 4) (Nat.le_of_ble_eq_true rfl)
  rw [lg_entry_eq]
  generalize (lg_sl ([.ref h0, .int p0, .int p1]) ++ List.replicate (4 - (lg_sl ([.ref h0, .int p0, .int p1])).length) Slot.unset).toArray = ls at hl ⊢
  have hl : lv_has ls 4 [(0, .ref h0), (1, .int p0), (2, .int p1)] := hl
  have hN := hF
  unfold F_X4_arePartners at hN
  refine lv_aload_n hx hb dX4_arePartners_0 rfl (lv_at hl 0 rfl) ?_
  refine lv_aload_n hx hb dX4_arePartners_1 rfl (lv_at hl 0 rfl) ?_
  refine lv_iload_n hx hb dX4_arePartners_2 rfl (lv_at hl 1 rfl) ?_
  refine lv_iconst (v := 0) hx hb dX4_arePartners_3 (by decide) ?_
  obtain ⟨v1, hv1, hN⟩ := oB_spec hN
  refine k_iR hS (va_runV (As := [.int p0, .int (0 : Int32)]) (rest := [.ref h0]) ⟨hx, hb, hml, hown, hts⟩ (c_X4_of l g L hL G h0 r u hV p0 (0 : Int32) v1 hv1) (cwV 2 hts gX4_arePartners_X4_of rfl rfl rfl (by decide +kernel) ⟨Nat.le_of_ble_eq_true rfl, Nat.le_of_ble_eq_true rfl⟩) (k_preV hC hS hP (vO.m hV) (vO.o hV) rfl) rfl rfl hl.1 rfl (lv_room (Nat.le_of_ble_eq_true rfl)) dX4_arePartners_4 ⟨Nat.zero_le _, Nat.zero_le _⟩) (fun H locs hP hS => ?_)
  obtain ⟨v3, hv3, hN⟩ := oB_spec hN
  refine k_iR hS (va_runV (As := [.int v1]) (rest := []) ⟨hx, hb, hml, hown, hts⟩ (c_X4_greatest l g L hL G h0 r u hV v1 v3 hv3) (cwV 1 hts gX4_arePartners_X4_greatest rfl rfl rfl (by decide +kernel) ⟨Nat.le_of_ble_eq_true rfl, Nat.le_of_ble_eq_true rfl⟩) (k_preV hC hS hP (vO.m hV) (vO.o hV) rfl) rfl rfl hl.1 rfl (lv_room (Nat.le_of_ble_eq_true rfl)) dX4_arePartners_7 ⟨Nat.zero_le _, Nat.zero_le _⟩) (fun H locs hP hS => ?_)
  refine lv_istore_n (lv' := [(3, .int v3), (0, .ref h0), (1, .int p0), (2, .int p1)]) hx hb dX4_arePartners_10 rfl hl (by decide) rfl (fun ls hl => ?_)
  refine lv_iload_n hx hb dX4_arePartners_11 rfl (lv_at hl 3 rfl) ?_
  refine lv_iload_n hx hb dX4_arePartners_12 rfl (lv_at hl 2 rfl) ?_
  refine lv_icmp_eq (tgt := 46) hx hb dX4_arePartners_13 (by decide) (fun c5 => ?_) (fun c5 => ?_)
  · rw [if_pos c5] at hN
    refine lv_iconst (v := 0) hx hb dX4_arePartners_46 (by decide) ?_
    exact k_zretR hx hb hr (by decide) (Option.some.inj hN) hP hS hlk dX4_arePartners_47
  · rw [if_neg c5] at hN
    refine lv_aload_n hx hb dX4_arePartners_16 rfl (lv_at hl 1 rfl) ?_
    refine lv_iload_n hx hb dX4_arePartners_17 rfl (lv_at hl 3 rfl) ?_
    refine lv_iconst (v := 1) hx hb dX4_arePartners_18 (by decide) ?_
    obtain ⟨v6, hv6, hN⟩ := oB_spec hN
    refine k_iR hS (va_runV (As := [.int p1, .int (1 : Int32)]) (rest := []) ⟨hx, hb, hml, hown, hts⟩ (c_X4_of l g L hL G h0 r u hV p1 (1 : Int32) v6 hv6) (cwV 2 hts gX4_arePartners_X4_of rfl rfl rfl (by decide +kernel) ⟨Nat.le_of_ble_eq_true rfl, Nat.le_of_ble_eq_true rfl⟩) (k_preV hC hS hP (vO.m hV) (vO.o hV) rfl) rfl rfl hl.1 rfl (lv_room (Nat.le_of_ble_eq_true rfl)) dX4_arePartners_19 ⟨Nat.zero_le _, Nat.zero_le _⟩) (fun H locs hP hS => ?_)
    refine lv_iconst (v := 1) hx hb dX4_arePartners_22 (by decide) ?_
    refine lv_icmp_ne (tgt := 46) hx hb dX4_arePartners_23 (by decide) (fun c8 => ?_) (fun c8 => ?_)
    · rw [if_neg c8] at hN
      refine lv_iconst (v := 0) hx hb dX4_arePartners_46 (by decide) ?_
      exact k_zretR hx hb hr (by decide) (Option.some.inj hN) hP hS hlk dX4_arePartners_47
    · rw [if_pos c8] at hN
      refine lv_aload_n hx hb dX4_arePartners_26 rfl (lv_at hl 1 rfl) ?_
      refine lv_aload_n hx hb dX4_arePartners_27 rfl (lv_at hl 1 rfl) ?_
      refine lv_iload_n hx hb dX4_arePartners_28 rfl (lv_at hl 3 rfl) ?_
      refine lv_iconst (v := 0) hx hb dX4_arePartners_29 (by decide) ?_
      obtain ⟨v9, hv9, hN⟩ := oB_spec hN
      refine k_iR hS (va_runV (As := [.int p1, .int (0 : Int32)]) (rest := [.ref h0]) ⟨hx, hb, hml, hown, hts⟩ (c_X4_of l g L hL G h0 r u hV p1 (0 : Int32) v9 hv9) (cwV 2 hts gX4_arePartners_X4_of rfl rfl rfl (by decide +kernel) ⟨Nat.le_of_ble_eq_true rfl, Nat.le_of_ble_eq_true rfl⟩) (k_preV hC hS hP (vO.m hV) (vO.o hV) rfl) rfl rfl hl.1 rfl (lv_room (Nat.le_of_ble_eq_true rfl)) dX4_arePartners_30 ⟨Nat.zero_le _, Nat.zero_le _⟩) (fun H locs hP hS => ?_)
      obtain ⟨v11, hv11, hN⟩ := oB_spec hN
      refine k_iR hS (va_runV (As := [.int v9]) (rest := []) ⟨hx, hb, hml, hown, hts⟩ (c_X4_greatest l g L hL G h0 r u hV v9 v11 hv11) (cwV 1 hts gX4_arePartners_X4_greatest rfl rfl rfl (by decide +kernel) ⟨Nat.le_of_ble_eq_true rfl, Nat.le_of_ble_eq_true rfl⟩) (k_preV hC hS hP (vO.m hV) (vO.o hV) rfl) rfl rfl hl.1 rfl (lv_room (Nat.le_of_ble_eq_true rfl)) dX4_arePartners_33 ⟨Nat.zero_le _, Nat.zero_le _⟩) (fun H locs hP hS => ?_)
      refine lv_iload_n hx hb dX4_arePartners_36 rfl (lv_at hl 0 rfl) ?_
      refine lv_iconst (v := 1) hx hb dX4_arePartners_37 (by decide) ?_
      refine lv_ixor hx hb dX4_arePartners_38 ?_
      refine lv_icmp_ne (tgt := 46) hx hb dX4_arePartners_39 (by decide) (fun c13 => ?_) (fun c13 => ?_)
      · rw [if_neg c13] at hN
        refine lv_iconst (v := 0) hx hb dX4_arePartners_46 (by decide) ?_
        exact k_zretR hx hb hr (by decide) (Option.some.inj hN) hP hS hlk dX4_arePartners_47
      · rw [if_pos c13] at hN
        refine lv_iconst (v := 1) hx hb dX4_arePartners_42 (by decide) ?_
        refine lv_goto (tgt := 47) hx hb dX4_arePartners_43 (by decide) ?_
        exact k_zretR hx hb hr (by decide) (Option.some.inj hN) hP hS hlk dX4_arePartners_47
set_option maxHeartbeats 4000000 in
set_option maxRecDepth 100000 in
theorem c_X4_lessOnes (l : Launch) (g : Gm) (L : List Nat) {A : Nat → Prop} (hL : kL L A) (G : Nat → va_E) (h0 : Nat) (r : Nat → Nat) (u : St) (hV : vM g L G h0 r u) (p0 : Int32) (v : Int32) (hF : F_X4_lessOnes u p0 = some v) : Met l yX4_lessOnes wsX4_lessOnes ({ frames := 3, cells := 0, slots := 0, locals := 67 } : Room) (va_Pc [.ref h0, .int p0] (kB g L A G)) (va_Qi (fun x9 (G9 : Nat → va_E) => x9 = v ∧ G9 = G) (kE g L) A) 0 0 A := by
  refine Met.ofW (cc := cX4_lessOnes) (maxL := 4) (ret := (some .int)) (by decide) rfl ?_
  intro p e s m args below meth c s₁ B hml hv
  obtain ⟨rfl, hP, hC⟩ := hv
  have hx := B.exec
  have hb := B.bytes
  have hr := B.returns
  have hts := atoms_spec (ws := wsX4_lessOnes) B.pre
  have hown : s.vm.findClass RX4 = some m.cls := findClass_of_methodNamed B.named
  have hlk := B.notSynchronized
  have hS : va_S A s.heap s.heap [] := va_S.rf
  have lp4 : ∀ (n : Nat) (x1 : Int32) (x2 : Int32) (x3 : Int32) (H : Heap) (locs : List Loc) (ls : Array Slot), va_P g.1 vwCl (va_pl L G) H → va_S A s.heap H locs → lv_has ls 4 [(0, .ref h0), (1, .int x1), (2, .int x2), (3, .int x3)] → FL_X4_lessOnes_4 u n x1 x2 x3 = some v → W p l e (headSpec wsX4_lessOnes ({ frames := 3, cells := 0, slots := 0, locals := 67 } : Room)).room s m ([.ref h0, .int p0] : List Value).toArray below meth c H locs 0 0 (MQ below (va_Qi (fun x9 (G9 : Nat → va_E) => x9 = v ∧ G9 = G) (kE g L) A) ([.ref h0, .int p0] : List Value).toArray s 0 0 A) (F0 m 4 ls []) := by
    intro n
    induction n with
    | zero =>
      intro x1 x2 x3 H locs ls hP hS hl hN
      exact absurd hN (by simp [FL_X4_lessOnes_4])
    | succ n ih =>
      intro x1 x2 x3 H locs ls hP hS hl hN
      rw [FL_X4_lessOnes_4] at hN
      refine lv_iload_n hx hb dX4_lessOnes_4 rfl (lv_at hl 3 rfl) ?_
      refine lv_aload_n hx hb dX4_lessOnes_5 rfl (lv_at hl 0 rfl) ?_
      refine k_get (C := RX4) (T := TX4) (N := 8) (ci := 4) (v := .ref (r 0)) hx hb hts (fun _ h => List.mem_cons_of_mem _ (List.mem_append_right _ h)) hown hC hP (vO.m hV) (vO.o hV) rfl 0 (by decide) (hts (.fieldLink RX4 7 "OrderedClausesModel" "s" "[I") (List.mem_of_getElem? (i := 1) rfl)) rfl dX4_lessOnes_6 ?_
      refine lv_iconst (v := 0) hx hb dX4_lessOnes_9 (by decide) ?_
      obtain ⟨v1, hv1, hN⟩ := oB_spec hN
      refine k_ildE hx hb hC hP (vO.rm hV 0 (by decide)) (vO.ri hV 0 (by decide)) hv1 dX4_lessOnes_10 ?_
      refine lv_icmp_ge (tgt := 55) hx hb dX4_lessOnes_11 (by decide) (fun c2 => ?_) (fun c2 => ?_)
      · rw [if_pos c2] at hN
        refine lv_iload_n hx hb dX4_lessOnes_55 rfl (lv_at hl 2 rfl) ?_
        exact k_iretR hx hb hr (Option.some.inj hN) hP hS hlk dX4_lessOnes_56
      · rw [if_neg c2] at hN
        refine lv_iload_n hx hb dX4_lessOnes_14 rfl (lv_at hl 2 rfl) ?_
        refine lv_aload_n hx hb dX4_lessOnes_15 rfl (lv_at hl 0 rfl) ?_
        refine lv_iload_n hx hb dX4_lessOnes_16 rfl (lv_at hl 3 rfl) ?_
        obtain ⟨v3, hv3, hN⟩ := oB_spec hN
        refine k_iR hS (va_runV (As := [.int x3]) (rest := [.int x2]) ⟨hx, hb, hml, hown, hts⟩ (c_X4_isKept l g L hL G h0 r u hV x3 v3 hv3) (cwV 1 hts gX4_lessOnes_X4_isKept rfl rfl rfl (by decide +kernel) ⟨Nat.le_of_ble_eq_true rfl, Nat.le_of_ble_eq_true rfl⟩) (k_preV hC hS hP (vO.m hV) (vO.o hV) rfl) rfl rfl hl.1 rfl (lv_room (Nat.le_of_ble_eq_true rfl)) dX4_lessOnes_17 ⟨Nat.zero_le _, Nat.zero_le _⟩) (fun H locs hP hS => ?_)
        refine lv_if_eq (tgt := 46) hx hb dX4_lessOnes_20 (by decide) (fun c5 => ?_) (fun c5 => ?_)
        · rw [if_pos c5] at hN
          refine lv_iconst (v := 0) hx hb dX4_lessOnes_46 (by decide) ?_
          refine lv_iadd hx hb dX4_lessOnes_47 ?_
          refine lv_istore_n (lv' := [(2, .int (x2 + (0 : Int32))), (0, .ref h0), (1, .int x1), (3, .int x3)]) hx hb dX4_lessOnes_48 rfl hl (by decide) rfl (fun ls hl => ?_)
          refine lv_iinc (v := (x3 + 1)) (lv' := [(3, .int (x3 + 1)), (2, .int (x2 + (0 : Int32))), (0, .ref h0), (1, .int x1)]) hx hb dX4_lessOnes_49 hl (k := 3) rfl rfl (by decide) rfl (fun ls hl => ?_)
          refine lv_goto (tgt := 4) hx hb dX4_lessOnes_52 (by decide) ?_
          exact ih x1 (x2 + (0 : Int32)) (x3 + 1)  _ _ _ hP hS (lv_sub hl [2, 3, 1, 0] rfl) hN
        · rw [if_neg c5] at hN
          refine lv_aload_n hx hb dX4_lessOnes_23 rfl (lv_at hl 0 rfl) ?_
          refine lv_aload_n hx hb dX4_lessOnes_24 rfl (lv_at hl 0 rfl) ?_
          refine lv_iload_n hx hb dX4_lessOnes_25 rfl (lv_at hl 3 rfl) ?_
          refine lv_iconst (v := 0) hx hb dX4_lessOnes_26 (by decide) ?_
          obtain ⟨v6, hv6, hN⟩ := oB_spec hN
          refine k_iR hS (va_runV (As := [.int x3, .int (0 : Int32)]) (rest := [.ref h0, .int x2]) ⟨hx, hb, hml, hown, hts⟩ (c_X4_of l g L hL G h0 r u hV x3 (0 : Int32) v6 hv6) (cwV 2 hts gX4_lessOnes_X4_of rfl rfl rfl (by decide +kernel) ⟨Nat.le_of_ble_eq_true rfl, Nat.le_of_ble_eq_true rfl⟩) (k_preV hC hS hP (vO.m hV) (vO.o hV) rfl) rfl rfl hl.1 rfl (lv_room (Nat.le_of_ble_eq_true rfl)) dX4_lessOnes_27 ⟨Nat.zero_le _, Nat.zero_le _⟩) (fun H locs hP hS => ?_)
          refine lv_aload_n hx hb dX4_lessOnes_30 rfl (lv_at hl 0 rfl) ?_
          refine lv_iload_n hx hb dX4_lessOnes_31 rfl (lv_at hl 1 rfl) ?_
          refine lv_iconst (v := 0) hx hb dX4_lessOnes_32 (by decide) ?_
          obtain ⟨v8, hv8, hN⟩ := oB_spec hN
          refine k_iR hS (va_runV (As := [.int x1, .int (0 : Int32)]) (rest := [.int v6, .ref h0, .int x2]) ⟨hx, hb, hml, hown, hts⟩ (c_X4_of l g L hL G h0 r u hV x1 (0 : Int32) v8 hv8) (cwV 2 hts gX4_lessOnes_X4_of rfl rfl rfl (by decide +kernel) ⟨Nat.le_of_ble_eq_true rfl, Nat.le_of_ble_eq_true rfl⟩) (k_preV hC hS hP (vO.m hV) (vO.o hV) rfl) rfl rfl hl.1 rfl (lv_room (Nat.le_of_ble_eq_true rfl)) dX4_lessOnes_33 ⟨Nat.zero_le _, Nat.zero_le _⟩) (fun H locs hP hS => ?_)
          obtain ⟨v10, hv10, hN⟩ := oB_spec hN
          refine k_iR hS (va_runV (As := [.int v6, .int v8]) (rest := [.int x2]) ⟨hx, hb, hml, hown, hts⟩ (c_X4_isLess l g L hL G h0 r u hV v6 v8 v10 hv10) (cwV 2 hts gX4_lessOnes_X4_isLess rfl rfl rfl (by decide +kernel) ⟨Nat.le_of_ble_eq_true rfl, Nat.le_of_ble_eq_true rfl⟩) (k_preV hC hS hP (vO.m hV) (vO.o hV) rfl) rfl rfl hl.1 rfl (lv_room (Nat.le_of_ble_eq_true rfl)) dX4_lessOnes_36 ⟨Nat.zero_le _, Nat.zero_le _⟩) (fun H locs hP hS => ?_)
          refine lv_if_eq (tgt := 46) hx hb dX4_lessOnes_39 (by decide) (fun c12 => ?_) (fun c12 => ?_)
          · rw [if_pos c12] at hN
            refine lv_iconst (v := 0) hx hb dX4_lessOnes_46 (by decide) ?_
            refine lv_iadd hx hb dX4_lessOnes_47 ?_
            refine lv_istore_n (lv' := [(2, .int (x2 + (0 : Int32))), (0, .ref h0), (1, .int x1), (3, .int x3)]) hx hb dX4_lessOnes_48 rfl hl (by decide) rfl (fun ls hl => ?_)
            refine lv_iinc (v := (x3 + 1)) (lv' := [(3, .int (x3 + 1)), (2, .int (x2 + (0 : Int32))), (0, .ref h0), (1, .int x1)]) hx hb dX4_lessOnes_49 hl (k := 3) rfl rfl (by decide) rfl (fun ls hl => ?_)
            refine lv_goto (tgt := 4) hx hb dX4_lessOnes_52 (by decide) ?_
            exact ih x1 (x2 + (0 : Int32)) (x3 + 1)  _ _ _ hP hS (lv_sub hl [2, 3, 1, 0] rfl) hN
          · rw [if_neg c12] at hN
            refine lv_iconst (v := 1) hx hb dX4_lessOnes_42 (by decide) ?_
            refine lv_goto (tgt := 47) hx hb dX4_lessOnes_43 (by decide) ?_
            refine lv_iadd hx hb dX4_lessOnes_47 ?_
            refine lv_istore_n (lv' := [(2, .int (x2 + (1 : Int32))), (0, .ref h0), (1, .int x1), (3, .int x3)]) hx hb dX4_lessOnes_48 rfl hl (by decide) rfl (fun ls hl => ?_)
            refine lv_iinc (v := (x3 + 1)) (lv' := [(3, .int (x3 + 1)), (2, .int (x2 + (1 : Int32))), (0, .ref h0), (1, .int x1)]) hx hb dX4_lessOnes_49 hl (k := 3) rfl rfl (by decide) rfl (fun ls hl => ?_)
            refine lv_goto (tgt := 4) hx hb dX4_lessOnes_52 (by decide) ?_
            exact ih x1 (x2 + (1 : Int32)) (x3 + 1)  _ _ _ hP hS (lv_sub hl [2, 3, 1, 0] rfl) hN
  have hl := lv_entry ([.ref h0, .int p0]) (n := 4) (Nat.le_of_ble_eq_true rfl)
  rw [lg_entry_eq]
  generalize (lg_sl ([.ref h0, .int p0]) ++ List.replicate (4 - (lg_sl ([.ref h0, .int p0])).length) Slot.unset).toArray = ls at hl ⊢
  have hl : lv_has ls 4 [(0, .ref h0), (1, .int p0)] := hl
  have hN := hF
  unfold F_X4_lessOnes at hN
  refine lv_iconst (v := 0) hx hb dX4_lessOnes_0 (by decide) ?_
  refine lv_istore_n (lv' := [(2, .int (0 : Int32)), (0, .ref h0), (1, .int p0)]) hx hb dX4_lessOnes_1 rfl hl (by decide) rfl (fun ls hl => ?_)
  refine lv_iconst (v := 0) hx hb dX4_lessOnes_2 (by decide) ?_
  refine lv_istore_n (lv' := [(3, .int (0 : Int32)), (2, .int (0 : Int32)), (0, .ref h0), (1, .int p0)]) hx hb dX4_lessOnes_3 rfl hl (by decide) rfl (fun ls hl => ?_)
  exact lp4 fuel p0 (0 : Int32) (0 : Int32)  _ _ _ hP hS (lv_sub hl [2, 3, 1, 0] rfl) hN
set_option maxHeartbeats 4000000 in
set_option maxRecDepth 100000 in
theorem c_X4_parentOf (l : Launch) (g : Gm) (L : List Nat) {A : Nat → Prop} (hL : kL L A) (G : Nat → va_E) (h0 : Nat) (r : Nat → Nat) (u : St) (hV : vM g L G h0 r u) (p0 : Int32) (p1 : Int32) (v : Int32) (hF : F_X4_parentOf u p0 p1 = some v) : Met l yX4_parentOf wsX4_parentOf ({ frames := 1, cells := 0, slots := 0, locals := 22 } : Room) (va_Pc [.ref h0, .int p0, .int p1] (kB g L A G)) (va_Qi (fun x9 (G9 : Nat → va_E) => x9 = v ∧ G9 = G) (kE g L) A) 0 0 A := by
  refine Met.ofW (cc := cX4_parentOf) (maxL := 3) (ret := (some .int)) (by decide) rfl ?_
  intro p e s m args below meth c s₁ B hml hv
  obtain ⟨rfl, hP, hC⟩ := hv
  have hx := B.exec
  have hb := B.bytes
  have hr := B.returns
  have hts := atoms_spec (ws := wsX4_parentOf) B.pre
  have hown : s.vm.findClass RX4 = some m.cls := findClass_of_methodNamed B.named
  have hlk := B.notSynchronized
  have hS : va_S A s.heap s.heap [] := va_S.rf
  have hl := lv_entry ([.ref h0, .int p0, .int p1]) (n := 3) (Nat.le_of_ble_eq_true rfl)
  rw [lg_entry_eq]
  generalize (lg_sl ([.ref h0, .int p0, .int p1]) ++ List.replicate (3 - (lg_sl ([.ref h0, .int p0, .int p1])).length) Slot.unset).toArray = ls at hl ⊢
  have hl : lv_has ls 3 [(0, .ref h0), (1, .int p0), (2, .int p1)] := hl
  have hN := hF
  unfold F_X4_parentOf at hN
  refine lv_aload_n hx hb dX4_parentOf_0 rfl (lv_at hl 0 rfl) ?_
  refine lv_iload_n hx hb dX4_parentOf_1 rfl (lv_at hl 1 rfl) ?_
  refine lv_iconst (v := 2) hx hb dX4_parentOf_2 (by decide) ?_
  obtain ⟨v1, hv1, hN⟩ := oB_spec hN
  refine k_iR hS (va_runV (As := [.int p0, .int (2 : Int32)]) (rest := []) ⟨hx, hb, hml, hown, hts⟩ (c_X4_of l g L hL G h0 r u hV p0 (2 : Int32) v1 hv1) (cwV 2 hts gX4_parentOf_X4_of rfl rfl rfl (by decide +kernel) ⟨Nat.le_of_ble_eq_true rfl, Nat.le_of_ble_eq_true rfl⟩) (k_preV hC hS hP (vO.m hV) (vO.o hV) rfl) rfl rfl hl.1 rfl (lv_room (Nat.le_of_ble_eq_true rfl)) dX4_parentOf_3 ⟨Nat.zero_le _, Nat.zero_le _⟩) (fun H locs hP hS => ?_)
  refine lv_if_ne (tgt := 12) hx hb dX4_parentOf_6 (by decide) (fun c3 => ?_) (fun c3 => ?_)
  · rw [if_neg c3] at hN
    refine lv_iload_n hx hb dX4_parentOf_12 rfl (lv_at hl 2 rfl) ?_
    refine lv_iconst (v := 5) hx hb dX4_parentOf_13 (by decide) ?_
    refine lv_icmp_ne (tgt := 26) hx hb dX4_parentOf_14 (by decide) (fun c4 => ?_) (fun c4 => ?_)
    · rw [if_neg c4] at hN
      refine lv_aload_n hx hb dX4_parentOf_26 rfl (lv_at hl 0 rfl) ?_
      refine lv_iload_n hx hb dX4_parentOf_27 rfl (lv_at hl 1 rfl) ?_
      refine lv_iload_n hx hb dX4_parentOf_28 rfl (lv_at hl 2 rfl) ?_
      refine lv_iconst (v := 1) hx hb dX4_parentOf_29 (by decide) ?_
      refine lv_isub hx hb dX4_parentOf_30 ?_
      obtain ⟨v5, hv5, hN⟩ := oB_spec hN
      refine k_iR hS (va_runV (As := [.int p0, .int (p1 - (1 : Int32))]) (rest := []) ⟨hx, hb, hml, hown, hts⟩ (c_X4_of l g L hL G h0 r u hV p0 (p1 - (1 : Int32)) v5 hv5) (cwV 2 hts gX4_parentOf_X4_of rfl rfl rfl (by decide +kernel) ⟨Nat.le_of_ble_eq_true rfl, Nat.le_of_ble_eq_true rfl⟩) (k_preV hC hS hP (vO.m hV) (vO.o hV) rfl) rfl rfl hl.1 rfl (lv_room (Nat.le_of_ble_eq_true rfl)) dX4_parentOf_31 ⟨Nat.zero_le _, Nat.zero_le _⟩) (fun H locs hP hS => ?_)
      refine lv_iconst (v := 1) hx hb dX4_parentOf_34 (by decide) ?_
      refine lv_isub hx hb dX4_parentOf_35 ?_
      exact k_iretR hx hb hr (Option.some.inj hN) hP hS hlk dX4_parentOf_36
    · rw [if_pos c4] at hN
      refine lv_aload_n hx hb dX4_parentOf_17 rfl (lv_at hl 0 rfl) ?_
      refine lv_iload_n hx hb dX4_parentOf_18 rfl (lv_at hl 1 rfl) ?_
      refine lv_iconst (v := 4) hx hb dX4_parentOf_19 (by decide) ?_
      obtain ⟨v7, hv7, hN⟩ := oB_spec hN
      refine k_iR hS (va_runV (As := [.int p0, .int (4 : Int32)]) (rest := []) ⟨hx, hb, hml, hown, hts⟩ (c_X4_of l g L hL G h0 r u hV p0 (4 : Int32) v7 hv7) (cwV 2 hts gX4_parentOf_X4_of rfl rfl rfl (by decide +kernel) ⟨Nat.le_of_ble_eq_true rfl, Nat.le_of_ble_eq_true rfl⟩) (k_preV hC hS hP (vO.m hV) (vO.o hV) rfl) rfl rfl hl.1 rfl (lv_room (Nat.le_of_ble_eq_true rfl)) dX4_parentOf_20 ⟨Nat.zero_le _, Nat.zero_le _⟩) (fun H locs hP hS => ?_)
      refine lv_goto (tgt := 36) hx hb dX4_parentOf_23 (by decide) ?_
      exact k_iretR hx hb hr (Option.some.inj hN) hP hS hlk dX4_parentOf_36
  · rw [if_pos c3] at hN
    refine lv_ldc (v := (-1000004)) hx hb hown (hts (.constant RX4 106 (-1000004)) (List.mem_of_getElem? (i := 1) rfl)) dX4_parentOf_9 ?_
    exact k_iretR hx hb hr (Option.some.inj hN) hP hS hlk dX4_parentOf_11
set_option maxHeartbeats 4000000 in
set_option maxRecDepth 100000 in
theorem c_X4_clauseOf (l : Launch) (g : Gm) (L : List Nat) {A : Nat → Prop} (hL : kL L A) (G : Nat → va_E) (h0 : Nat) (r : Nat → Nat) (u : St) (hV : vM g L G h0 r u) (p0 : Int32) (p1 : Int32) (v : Int32) (hF : F_X4_clauseOf u p0 p1 = some v) : Met l yX4_clauseOf wsX4_clauseOf ({ frames := 4, cells := 0, slots := 0, locals := 90 } : Room) (va_Pc [.ref h0, .int p0, .int p1] (kB g L A G)) (va_Qi (fun x9 (G9 : Nat → va_E) => x9 = v ∧ G9 = G) (kE g L) A) 0 0 A := by
  refine Met.ofW (cc := cX4_clauseOf) (maxL := 3) (ret := (some .int)) (by decide) rfl ?_
  intro p e s m args below meth c s₁ B hml hv
  obtain ⟨rfl, hP, hC⟩ := hv
  have hx := B.exec
  have hb := B.bytes
  have hr := B.returns
  have hts := atoms_spec (ws := wsX4_clauseOf) B.pre
  have hown : s.vm.findClass RX4 = some m.cls := findClass_of_methodNamed B.named
  have hlk := B.notSynchronized
  have hS : va_S A s.heap s.heap [] := va_S.rf
  have hl := lv_entry ([.ref h0, .int p0, .int p1]) (n := 3) (Nat.le_of_ble_eq_true rfl)
  rw [lg_entry_eq]
  generalize (lg_sl ([.ref h0, .int p0, .int p1]) ++ List.replicate (3 - (lg_sl ([.ref h0, .int p0, .int p1])).length) Slot.unset).toArray = ls at hl ⊢
  have hl : lv_has ls 3 [(0, .ref h0), (1, .int p0), (2, .int p1)] := hl
  have hN := hF
  unfold F_X4_clauseOf at hN
  refine lv_aload_n hx hb dX4_clauseOf_0 rfl (lv_at hl 0 rfl) ?_
  refine lv_iload_n hx hb dX4_clauseOf_1 rfl (lv_at hl 1 rfl) ?_
  obtain ⟨v1, hv1, hN⟩ := oB_spec hN
  refine k_iR hS (va_runV (As := [.int p0]) (rest := []) ⟨hx, hb, hml, hown, hts⟩ (c_X4_isClause l g L hL G h0 r u hV p0 v1 hv1) (cwV 1 hts gX4_clauseOf_X4_isClause rfl rfl rfl (by decide +kernel) ⟨Nat.le_of_ble_eq_true rfl, Nat.le_of_ble_eq_true rfl⟩) (k_preV hC hS hP (vO.m hV) (vO.o hV) rfl) rfl rfl hl.1 rfl (lv_room (Nat.le_of_ble_eq_true rfl)) dX4_clauseOf_2 ⟨Nat.zero_le _, Nat.zero_le _⟩) (fun H locs hP hS => ?_)
  refine lv_if_eq (tgt := 18) hx hb dX4_clauseOf_5 (by decide) (fun c3 => ?_) (fun c3 => ?_)
  · rw [if_pos c3] at hN
    refine lv_ldc (v := (-1000001)) hx hb hown (hts (.constant RX4 22 (-1000001)) (List.mem_of_getElem? (i := 1) rfl)) dX4_clauseOf_18 ?_
    exact k_iretR hx hb hr (Option.some.inj hN) hP hS hlk dX4_clauseOf_20
  · rw [if_neg c3] at hN
    refine lv_iload_n hx hb dX4_clauseOf_8 rfl (lv_at hl 2 rfl) ?_
    refine lv_iconst (v := 0) hx hb dX4_clauseOf_9 (by decide) ?_
    refine lv_bipush (v := 8) hx hb dX4_clauseOf_10 (by decide) ?_
    obtain ⟨v4, hv4, hN⟩ := oB_spec hN
    refine k_iR hS (va_runS (As := [.int p1, .int (0 : Int32), .int (8 : Int32)]) (rest := []) ⟨hx, hb, hml, hown, hts⟩ (c_X4_in l g L hL G p1 (0 : Int32) (8 : Int32) v4 hv4) (va_cwS 3 hts gX4_clauseOf_X4_in rfl rfl rfl (by decide +kernel) ⟨Nat.le_of_ble_eq_true rfl, Nat.le_of_ble_eq_true rfl⟩) (k_pre hC hS hP) rfl rfl hl.1 rfl (lv_room (Nat.le_of_ble_eq_true rfl)) dX4_clauseOf_12 ⟨Nat.zero_le _, Nat.zero_le _⟩) (fun H locs hP hS => ?_)
    refine lv_if_ne (tgt := 21) hx hb dX4_clauseOf_15 (by decide) (fun c6 => ?_) (fun c6 => ?_)
    · rw [if_neg c6] at hN
      refine lv_iload_n hx hb dX4_clauseOf_21 rfl (lv_at hl 2 rfl) ?_
      rcases Decidable.em (p1 = 0) with c7 | c7
      · rw [if_pos c7] at hN
        refine lv_tableIn (off := 46) (tgt := 68) hx hb dX4_clauseOf_22 (by rw [c7]; decide) (by rw [c7]; decide) (by rw [c7]; rfl) (by decide) ?_
        refine lv_aload_n hx hb dX4_clauseOf_68 rfl (lv_at hl 0 rfl) ?_
        refine lv_iload_n hx hb dX4_clauseOf_69 rfl (lv_at hl 1 rfl) ?_
        refine lv_iload_n hx hb dX4_clauseOf_70 rfl (lv_at hl 2 rfl) ?_
        obtain ⟨v8, hv8, hN⟩ := oB_spec hN
        refine k_iR hS (va_runV (As := [.int p0, .int p1]) (rest := []) ⟨hx, hb, hml, hown, hts⟩ (c_X4_of l g L hL G h0 r u hV p0 p1 v8 hv8) (cwV 2 hts gX4_clauseOf_X4_of rfl rfl rfl (by decide +kernel) ⟨Nat.le_of_ble_eq_true rfl, Nat.le_of_ble_eq_true rfl⟩) (k_preV hC hS hP (vO.m hV) (vO.o hV) rfl) rfl rfl hl.1 rfl (lv_room (Nat.le_of_ble_eq_true rfl)) dX4_clauseOf_71 ⟨Nat.zero_le _, Nat.zero_le _⟩) (fun H locs hP hS => ?_)
        exact k_iretR hx hb hr (Option.some.inj hN) hP hS hlk dX4_clauseOf_74
      · rw [if_neg c7] at hN
        rcases Decidable.em (p1 = 1) with c10 | c10
        · rw [if_pos c10] at hN
          refine lv_tableIn (off := 46) (tgt := 68) hx hb dX4_clauseOf_22 (by rw [c10]; decide) (by rw [c10]; decide) (by rw [c10]; rfl) (by decide) ?_
          refine lv_aload_n hx hb dX4_clauseOf_68 rfl (lv_at hl 0 rfl) ?_
          refine lv_iload_n hx hb dX4_clauseOf_69 rfl (lv_at hl 1 rfl) ?_
          refine lv_iload_n hx hb dX4_clauseOf_70 rfl (lv_at hl 2 rfl) ?_
          obtain ⟨v11, hv11, hN⟩ := oB_spec hN
          refine k_iR hS (va_runV (As := [.int p0, .int p1]) (rest := []) ⟨hx, hb, hml, hown, hts⟩ (c_X4_of l g L hL G h0 r u hV p0 p1 v11 hv11) (cwV 2 hts gX4_clauseOf_X4_of rfl rfl rfl (by decide +kernel) ⟨Nat.le_of_ble_eq_true rfl, Nat.le_of_ble_eq_true rfl⟩) (k_preV hC hS hP (vO.m hV) (vO.o hV) rfl) rfl rfl hl.1 rfl (lv_room (Nat.le_of_ble_eq_true rfl)) dX4_clauseOf_71 ⟨Nat.zero_le _, Nat.zero_le _⟩) (fun H locs hP hS => ?_)
          exact k_iretR hx hb hr (Option.some.inj hN) hP hS hlk dX4_clauseOf_74
        · rw [if_neg c10] at hN
          rcases Decidable.em (p1 = 2) with c13 | c13
          · rw [if_pos c13] at hN
            refine lv_tableIn (off := 53) (tgt := 75) hx hb dX4_clauseOf_22 (by rw [c13]; decide) (by rw [c13]; decide) (by rw [c13]; rfl) (by decide) ?_
            refine lv_aload_n hx hb dX4_clauseOf_75 rfl (lv_at hl 0 rfl) ?_
            refine lv_iload_n hx hb dX4_clauseOf_76 rfl (lv_at hl 1 rfl) ?_
            refine lv_iconst (v := 0) hx hb dX4_clauseOf_77 (by decide) ?_
            obtain ⟨v14, hv14, hN⟩ := oB_spec hN
            refine k_iR hS (va_runV (As := [.int p0, .int (0 : Int32)]) (rest := []) ⟨hx, hb, hml, hown, hts⟩ (c_X4_of l g L hL G h0 r u hV p0 (0 : Int32) v14 hv14) (cwV 2 hts gX4_clauseOf_X4_of rfl rfl rfl (by decide +kernel) ⟨Nat.le_of_ble_eq_true rfl, Nat.le_of_ble_eq_true rfl⟩) (k_preV hC hS hP (vO.m hV) (vO.o hV) rfl) rfl rfl hl.1 rfl (lv_room (Nat.le_of_ble_eq_true rfl)) dX4_clauseOf_78 ⟨Nat.zero_le _, Nat.zero_le _⟩) (fun H locs hP hS => ?_)
            refine lv_if_ne (tgt := 89) hx hb dX4_clauseOf_81 (by decide) (fun c16 => ?_) (fun c16 => ?_)
            · rw [if_neg c16] at hN
              refine lv_aload_n hx hb dX4_clauseOf_89 rfl (lv_at hl 0 rfl) ?_
              refine lv_aload_n hx hb dX4_clauseOf_90 rfl (lv_at hl 0 rfl) ?_
              refine lv_iload_n hx hb dX4_clauseOf_91 rfl (lv_at hl 1 rfl) ?_
              refine lv_iconst (v := 0) hx hb dX4_clauseOf_92 (by decide) ?_
              obtain ⟨v17, hv17, hN⟩ := oB_spec hN
              refine k_iR hS (va_runV (As := [.int p0, .int (0 : Int32)]) (rest := [.ref h0]) ⟨hx, hb, hml, hown, hts⟩ (c_X4_of l g L hL G h0 r u hV p0 (0 : Int32) v17 hv17) (cwV 2 hts gX4_clauseOf_X4_of rfl rfl rfl (by decide +kernel) ⟨Nat.le_of_ble_eq_true rfl, Nat.le_of_ble_eq_true rfl⟩) (k_preV hC hS hP (vO.m hV) (vO.o hV) rfl) rfl rfl hl.1 rfl (lv_room (Nat.le_of_ble_eq_true rfl)) dX4_clauseOf_93 ⟨Nat.zero_le _, Nat.zero_le _⟩) (fun H locs hP hS => ?_)
              obtain ⟨v19, hv19, hN⟩ := oB_spec hN
              refine k_iR hS (va_runV (As := [.int v17]) (rest := []) ⟨hx, hb, hml, hown, hts⟩ (c_X4_greatest l g L hL G h0 r u hV v17 v19 hv19) (cwV 1 hts gX4_clauseOf_X4_greatest rfl rfl rfl (by decide +kernel) ⟨Nat.le_of_ble_eq_true rfl, Nat.le_of_ble_eq_true rfl⟩) (k_preV hC hS hP (vO.m hV) (vO.o hV) rfl) rfl rfl hl.1 rfl (lv_room (Nat.le_of_ble_eq_true rfl)) dX4_clauseOf_96 ⟨Nat.zero_le _, Nat.zero_le _⟩) (fun H locs hP hS => ?_)
              exact k_iretR hx hb hr (Option.some.inj hN) hP hS hlk dX4_clauseOf_99
            · rw [if_pos c16] at hN
              refine lv_ldc (v := (-1000004)) hx hb hown (hts (.constant RX4 106 (-1000004)) (List.mem_of_getElem? (i := 2) rfl)) dX4_clauseOf_84 ?_
              refine lv_goto (tgt := 99) hx hb dX4_clauseOf_86 (by decide) ?_
              exact k_iretR hx hb hr (Option.some.inj hN) hP hS hlk dX4_clauseOf_99
          · rw [if_neg c13] at hN
            rcases Decidable.em (p1 = 3) with c21 | c21
            · rw [if_pos c21] at hN
              refine lv_tableIn (off := 78) (tgt := 100) hx hb dX4_clauseOf_22 (by rw [c21]; decide) (by rw [c21]; decide) (by rw [c21]; rfl) (by decide) ?_
              refine lv_aload_n hx hb dX4_clauseOf_100 rfl (lv_at hl 0 rfl) ?_
              refine lv_iload_n hx hb dX4_clauseOf_101 rfl (lv_at hl 1 rfl) ?_
              refine lv_iload_n hx hb dX4_clauseOf_102 rfl (lv_at hl 2 rfl) ?_
              obtain ⟨v22, hv22, hN⟩ := oB_spec hN
              refine k_iR hS (va_runV (As := [.int p0, .int p1]) (rest := []) ⟨hx, hb, hml, hown, hts⟩ (c_X4_parentOf l g L hL G h0 r u hV p0 p1 v22 hv22) (cwV 2 hts gX4_clauseOf_X4_parentOf rfl rfl rfl (by decide +kernel) ⟨Nat.le_of_ble_eq_true rfl, Nat.le_of_ble_eq_true rfl⟩) (k_preV hC hS hP (vO.m hV) (vO.o hV) rfl) rfl rfl hl.1 rfl (lv_room (Nat.le_of_ble_eq_true rfl)) dX4_clauseOf_103 ⟨Nat.zero_le _, Nat.zero_le _⟩) (fun H locs hP hS => ?_)
              exact k_iretR hx hb hr (Option.some.inj hN) hP hS hlk dX4_clauseOf_106
            · rw [if_neg c21] at hN
              rcases Decidable.em (p1 = 4) with c24 | c24
              · rw [if_pos c24] at hN
                refine lv_tableIn (off := 78) (tgt := 100) hx hb dX4_clauseOf_22 (by rw [c24]; decide) (by rw [c24]; decide) (by rw [c24]; rfl) (by decide) ?_
                refine lv_aload_n hx hb dX4_clauseOf_100 rfl (lv_at hl 0 rfl) ?_
                refine lv_iload_n hx hb dX4_clauseOf_101 rfl (lv_at hl 1 rfl) ?_
                refine lv_iload_n hx hb dX4_clauseOf_102 rfl (lv_at hl 2 rfl) ?_
                obtain ⟨v25, hv25, hN⟩ := oB_spec hN
                refine k_iR hS (va_runV (As := [.int p0, .int p1]) (rest := []) ⟨hx, hb, hml, hown, hts⟩ (c_X4_parentOf l g L hL G h0 r u hV p0 p1 v25 hv25) (cwV 2 hts gX4_clauseOf_X4_parentOf rfl rfl rfl (by decide +kernel) ⟨Nat.le_of_ble_eq_true rfl, Nat.le_of_ble_eq_true rfl⟩) (k_preV hC hS hP (vO.m hV) (vO.o hV) rfl) rfl rfl hl.1 rfl (lv_room (Nat.le_of_ble_eq_true rfl)) dX4_clauseOf_103 ⟨Nat.zero_le _, Nat.zero_le _⟩) (fun H locs hP hS => ?_)
                exact k_iretR hx hb hr (Option.some.inj hN) hP hS hlk dX4_clauseOf_106
              · rw [if_neg c24] at hN
                rcases Decidable.em (p1 = 5) with c27 | c27
                · rw [if_pos c27] at hN
                  refine lv_tableIn (off := 78) (tgt := 100) hx hb dX4_clauseOf_22 (by rw [c27]; decide) (by rw [c27]; decide) (by rw [c27]; rfl) (by decide) ?_
                  refine lv_aload_n hx hb dX4_clauseOf_100 rfl (lv_at hl 0 rfl) ?_
                  refine lv_iload_n hx hb dX4_clauseOf_101 rfl (lv_at hl 1 rfl) ?_
                  refine lv_iload_n hx hb dX4_clauseOf_102 rfl (lv_at hl 2 rfl) ?_
                  obtain ⟨v28, hv28, hN⟩ := oB_spec hN
                  refine k_iR hS (va_runV (As := [.int p0, .int p1]) (rest := []) ⟨hx, hb, hml, hown, hts⟩ (c_X4_parentOf l g L hL G h0 r u hV p0 p1 v28 hv28) (cwV 2 hts gX4_clauseOf_X4_parentOf rfl rfl rfl (by decide +kernel) ⟨Nat.le_of_ble_eq_true rfl, Nat.le_of_ble_eq_true rfl⟩) (k_preV hC hS hP (vO.m hV) (vO.o hV) rfl) rfl rfl hl.1 rfl (lv_room (Nat.le_of_ble_eq_true rfl)) dX4_clauseOf_103 ⟨Nat.zero_le _, Nat.zero_le _⟩) (fun H locs hP hS => ?_)
                  exact k_iretR hx hb hr (Option.some.inj hN) hP hS hlk dX4_clauseOf_106
                · rw [if_neg c27] at hN
                  rcases Decidable.em (p1 = 6) with c30 | c30
                  · rw [if_pos c30] at hN
                    refine lv_tableIn (off := 85) (tgt := 107) hx hb dX4_clauseOf_22 (by rw [c30]; decide) (by rw [c30]; decide) (by rw [c30]; rfl) (by decide) ?_
                    refine lv_aload_n hx hb dX4_clauseOf_107 rfl (lv_at hl 0 rfl) ?_
                    refine lv_iload_n hx hb dX4_clauseOf_108 rfl (lv_at hl 1 rfl) ?_
                    refine lv_iconst (v := 0) hx hb dX4_clauseOf_109 (by decide) ?_
                    obtain ⟨v31, hv31, hN⟩ := oB_spec hN
                    refine k_iR hS (va_runV (As := [.int p0, .int (0 : Int32)]) (rest := []) ⟨hx, hb, hml, hown, hts⟩ (c_X4_of l g L hL G h0 r u hV p0 (0 : Int32) v31 hv31) (cwV 2 hts gX4_clauseOf_X4_of rfl rfl rfl (by decide +kernel) ⟨Nat.le_of_ble_eq_true rfl, Nat.le_of_ble_eq_true rfl⟩) (k_preV hC hS hP (vO.m hV) (vO.o hV) rfl) rfl rfl hl.1 rfl (lv_room (Nat.le_of_ble_eq_true rfl)) dX4_clauseOf_110 ⟨Nat.zero_le _, Nat.zero_le _⟩) (fun H locs hP hS => ?_)
                    obtain ⟨v33, hv33, hN⟩ := oB_spec hN
                    refine k_iR hS (va_runS (As := [.int v31]) (rest := []) ⟨hx, hb, hml, hown, hts⟩ (c_X4_ones l g L hL G v31 v33 hv33) (va_cwS 1 hts gX4_clauseOf_X4_ones rfl rfl rfl (by decide +kernel) ⟨Nat.le_of_ble_eq_true rfl, Nat.le_of_ble_eq_true rfl⟩) (k_pre hC hS hP) rfl rfl hl.1 rfl (lv_room (Nat.le_of_ble_eq_true rfl)) dX4_clauseOf_113 ⟨Nat.zero_le _, Nat.zero_le _⟩) (fun H locs hP hS => ?_)
                    exact k_iretR hx hb hr (Option.some.inj hN) hP hS hlk dX4_clauseOf_116
                  · rw [if_neg c30] at hN
                    rcases Decidable.em (p1 = 7) with c35 | c35
                    · rw [if_pos c35] at hN
                      refine lv_tableIn (off := 95) (tgt := 117) hx hb dX4_clauseOf_22 (by rw [c35]; decide) (by rw [c35]; decide) (by rw [c35]; rfl) (by decide) ?_
                      refine lv_aload_n hx hb dX4_clauseOf_117 rfl (lv_at hl 0 rfl) ?_
                      refine lv_iload_n hx hb dX4_clauseOf_118 rfl (lv_at hl 1 rfl) ?_
                      obtain ⟨v36, hv36, hN⟩ := oB_spec hN
                      refine k_iR hS (va_runV (As := [.int p0]) (rest := []) ⟨hx, hb, hml, hown, hts⟩ (c_X4_lessOnes l g L hL G h0 r u hV p0 v36 hv36) (cwV 1 hts gX4_clauseOf_X4_lessOnes rfl rfl rfl (by decide +kernel) ⟨Nat.le_of_ble_eq_true rfl, Nat.le_of_ble_eq_true rfl⟩) (k_preV hC hS hP (vO.m hV) (vO.o hV) rfl) rfl rfl hl.1 rfl (lv_room (Nat.le_of_ble_eq_true rfl)) dX4_clauseOf_119 ⟨Nat.zero_le _, Nat.zero_le _⟩) (fun H locs hP hS => ?_)
                      exact k_iretR hx hb hr (Option.some.inj hN) hP hS hlk dX4_clauseOf_122
                    · rw [if_neg c35] at hN
                      refine lv_tableOut (tgt := 123) hx hb dX4_clauseOf_22 (ts_out (n := 8) (by decide) (fun j hj => by rcases (show j = 0 ∨ j = 1 ∨ j = 2 ∨ j = 3 ∨ j = 4 ∨ j = 5 ∨ j = 6 ∨ j = 7 by omega) with rfl | rfl | rfl | rfl | rfl | rfl | rfl | rfl <;> first | exact c7 | exact c10 | exact c13 | exact c21 | exact c24 | exact c27 | exact c30 | exact c35)) (by decide) ?_
                      refine lv_aload_n hx hb dX4_clauseOf_123 rfl (lv_at hl 0 rfl) ?_
                      refine lv_iload_n hx hb dX4_clauseOf_124 rfl (lv_at hl 1 rfl) ?_
                      refine lv_iconst (v := 5) hx hb dX4_clauseOf_125 (by decide) ?_
                      obtain ⟨v38, hv38, hN⟩ := oB_spec hN
                      refine k_iR hS (va_runV (As := [.int p0, .int (5 : Int32)]) (rest := []) ⟨hx, hb, hml, hown, hts⟩ (c_X4_of l g L hL G h0 r u hV p0 (5 : Int32) v38 hv38) (cwV 2 hts gX4_clauseOf_X4_of rfl rfl rfl (by decide +kernel) ⟨Nat.le_of_ble_eq_true rfl, Nat.le_of_ble_eq_true rfl⟩) (k_preV hC hS hP (vO.m hV) (vO.o hV) rfl) rfl rfl hl.1 rfl (lv_room (Nat.le_of_ble_eq_true rfl)) dX4_clauseOf_126 ⟨Nat.zero_le _, Nat.zero_le _⟩) (fun H locs hP hS => ?_)
                      exact k_iretR hx hb hr (Option.some.inj hN) hP hS hlk dX4_clauseOf_129
    · rw [if_pos c6] at hN
      refine lv_ldc (v := (-1000001)) hx hb hown (hts (.constant RX4 22 (-1000001)) (List.mem_of_getElem? (i := 1) rfl)) dX4_clauseOf_18 ?_
      exact k_iretR hx hb hr (Option.some.inj hN) hP hS hlk dX4_clauseOf_20
set_option maxHeartbeats 4000000 in
set_option maxRecDepth 100000 in
theorem c_X4_isIn (l : Launch) (g : Gm) (L : List Nat) {A : Nat → Prop} (hL : kL L A) (G : Nat → va_E) (p0 : Int64) (p1 : Int32) (v : Int32) (hF : F_X4_isIn p0 p1 = some v) : Met l yX4_isIn wsX4_isIn ({ frames := 0, cells := 0, slots := 0, locals := 0 } : Room) (va_Pc [.long p0, .int p1] (kB g L A G)) (va_Qi (fun x9 (G9 : Nat → va_E) => x9 = v ∧ G9 = G) (kE g L) A) 0 0 A := by
  refine Met.ofW (cc := cX4_isIn) (maxL := 3) (ret := (some .boolean)) (by decide) rfl ?_
  intro p e s m args below meth c s₁ B hml hv
  obtain ⟨rfl, hP, hC⟩ := hv
  have hx := B.exec
  have hb := B.bytes
  have hr := B.returns
  have hts := atoms_spec (ws := wsX4_isIn) B.pre
  have hown : s.vm.findClass RX4 = some m.cls := findClass_of_methodNamed B.named
  have hlk := B.notSynchronized
  have hS : va_S A s.heap s.heap [] := va_S.rf
  have hl := lv_entry ([.long p0, .int p1]) (n := 3) (Nat.le_of_ble_eq_true rfl)
  rw [lg_entry_eq]
  generalize (lg_sl ([.long p0, .int p1]) ++ List.replicate (3 - (lg_sl ([.long p0, .int p1])).length) Slot.unset).toArray = ls at hl ⊢
  have hl : lv_has ls 3 [(0, .long p0), (2, .int p1)] := hl
  have hN := hF
  unfold F_X4_isIn at hN
  refine lv_lload_n hx hb dX4_isIn_0 rfl (lv_at hl 0 rfl) ?_
  refine lv_iload_n hx hb dX4_isIn_1 rfl (lv_at hl 1 rfl) ?_
  refine lv_lshr hx hb dX4_isIn_2 rfl ?_
  refine lv_lconst (v := 1) hx hb dX4_isIn_3 (by decide) ?_
  refine lv_land hx hb dX4_isIn_4 ?_
  refine lv_lconst (v := 1) hx hb dX4_isIn_5 (by decide) ?_
  refine W.lcmp hx hb dX4_isIn_6 ?_
  refine lv_if_ne (tgt := 14) hx hb dX4_isIn_7 (by decide) (fun c1 => ?_) (fun c1 => ?_)
  · rw [if_neg c1] at hN
    refine lv_iconst (v := 0) hx hb dX4_isIn_14 (by decide) ?_
    exact k_zretR hx hb hr (by decide) (Option.some.inj hN) hP hS hlk dX4_isIn_15
  · rw [if_pos c1] at hN
    refine lv_iconst (v := 1) hx hb dX4_isIn_10 (by decide) ?_
    refine lv_goto (tgt := 15) hx hb dX4_isIn_11 (by decide) ?_
    exact k_zretR hx hb hr (by decide) (Option.some.inj hN) hP hS hlk dX4_isIn_15
set_option maxHeartbeats 4000000 in
set_option maxRecDepth 100000 in
theorem c_X4_treeOf (l : Launch) (g : Gm) (L : List Nat) {A : Nat → Prop} (hL : kL L A) (G : Nat → va_E) (h0 : Nat) (r : Nat → Nat) (u : St) (hV : vM g L G h0 r u) (p0 : Int32) (v : Int64) (hF : F_X4_treeOf u p0 = some v) : Met l yX4_treeOf wsX4_treeOf ({ frames := 1, cells := 0, slots := 0, locals := 22 } : Room) (va_Pc [.ref h0, .int p0] (kB g L A G)) (va_Ql (fun x9 (G9 : Nat → va_E) => x9 = v ∧ G9 = G) (kE g L) A) 0 0 A := by
  refine Met.ofW (cc := cX4_treeOf) (maxL := 5) (ret := (some .long)) (by decide) rfl ?_
  intro p e s m args below meth c s₁ B hml hv
  obtain ⟨rfl, hP, hC⟩ := hv
  have hx := B.exec
  have hb := B.bytes
  have hr := B.returns
  have hts := atoms_spec (ws := wsX4_treeOf) B.pre
  have hown : s.vm.findClass RX4 = some m.cls := findClass_of_methodNamed B.named
  have hlk := B.notSynchronized
  have hS : va_S A s.heap s.heap [] := va_S.rf
  have lp7 : ∀ (n : Nat) (x2 : Int64) (x4 : Int32) (H : Heap) (locs : List Loc) (ls : Array Slot), va_P g.1 vwCl (va_pl L G) H → va_S A s.heap H locs → lv_has ls 5 [(0, .ref h0), (2, .long x2), (4, .int x4)] → FL_X4_treeOf_7 u n x2 x4 = some v → W p l e (headSpec wsX4_treeOf ({ frames := 1, cells := 0, slots := 0, locals := 22 } : Room)).room s m ([.ref h0, .int p0] : List Value).toArray below meth c H locs 0 0 (MQ below (va_Ql (fun x9 (G9 : Nat → va_E) => x9 = v ∧ G9 = G) (kE g L) A) ([.ref h0, .int p0] : List Value).toArray s 0 0 A) (F0 m 7 ls []) := by
    intro n
    induction n with
    | zero =>
      intro x2 x4 H locs ls hP hS hl hN
      exact absurd hN (by simp [FL_X4_treeOf_7])
    | succ n ih =>
      intro x2 x4 H locs ls hP hS hl hN
      rw [FL_X4_treeOf_7] at hN
      refine lv_iload hx hb dX4_treeOf_7 (lv_at hl 2 rfl) ?_
      refine lv_if_lt (tgt := 63) hx hb dX4_treeOf_9 (by decide) (fun c1 => ?_) (fun c1 => ?_)
      · rw [if_pos c1] at hN
        refine lv_lload_n hx hb dX4_treeOf_63 rfl (lv_at hl 1 rfl) ?_
        exact k_lretR hx hb hr (Option.some.inj hN) hP hS hlk dX4_treeOf_64
      · rw [if_neg c1] at hN
        refine lv_lload_n hx hb dX4_treeOf_12 rfl (lv_at hl 1 rfl) ?_
        refine lv_iload hx hb dX4_treeOf_13 (lv_at hl 2 rfl) ?_
        obtain ⟨v2, hv2, hN⟩ := oB_spec hN
        refine k_iR hS (va_runS (As := [.long x2, .int x4]) (rest := []) ⟨hx, hb, hml, hown, hts⟩ (c_X4_isIn l g L hL G x2 x4 v2 hv2) (va_cwS 2 hts gX4_treeOf_X4_isIn rfl rfl rfl (by decide +kernel) ⟨Nat.le_of_ble_eq_true rfl, Nat.le_of_ble_eq_true rfl⟩) (k_pre hC hS hP) rfl rfl hl.1 rfl (lv_room (Nat.le_of_ble_eq_true rfl)) dX4_treeOf_15 ⟨Nat.zero_le _, Nat.zero_le _⟩) (fun H locs hP hS => ?_)
        refine lv_if_eq (tgt := 57) hx hb dX4_treeOf_18 (by decide) (fun c4 => ?_) (fun c4 => ?_)
        · rw [if_pos c4] at hN
          refine lv_iinc (v := (x4 - 1)) (lv' := [(4, .int (x4 - 1)), (0, .ref h0), (2, .long x2)]) hx hb dX4_treeOf_57 hl (k := 2) rfl (by rw [Int32.sub_eq_add_neg]; rfl) (by decide) rfl (fun ls hl => ?_)
          refine lv_goto (tgt := 7) hx hb dX4_treeOf_60 (by decide) ?_
          exact ih x2 (x4 - 1)  _ _ _ hP hS (lv_sub hl [1, 2, 0] rfl) hN
        · rw [if_neg c4] at hN
          refine lv_aload_n hx hb dX4_treeOf_21 rfl (lv_at hl 0 rfl) ?_
          refine lv_iload hx hb dX4_treeOf_22 (lv_at hl 2 rfl) ?_
          refine lv_iconst (v := 2) hx hb dX4_treeOf_24 (by decide) ?_
          obtain ⟨v5, hv5, hN⟩ := oB_spec hN
          refine k_iR hS (va_runV (As := [.int x4, .int (2 : Int32)]) (rest := []) ⟨hx, hb, hml, hown, hts⟩ (c_X4_of l g L hL G h0 r u hV x4 (2 : Int32) v5 hv5) (cwV 2 hts gX4_treeOf_X4_of rfl rfl rfl (by decide +kernel) ⟨Nat.le_of_ble_eq_true rfl, Nat.le_of_ble_eq_true rfl⟩) (k_preV hC hS hP (vO.m hV) (vO.o hV) rfl) rfl rfl hl.1 rfl (lv_room (Nat.le_of_ble_eq_true rfl)) dX4_treeOf_25 ⟨Nat.zero_le _, Nat.zero_le _⟩) (fun H locs hP hS => ?_)
          refine lv_if_le (tgt := 57) hx hb dX4_treeOf_28 (by decide) (fun c7 => ?_) (fun c7 => ?_)
          · rw [if_pos c7] at hN
            refine lv_iinc (v := (x4 - 1)) (lv' := [(4, .int (x4 - 1)), (0, .ref h0), (2, .long x2)]) hx hb dX4_treeOf_57 hl (k := 2) rfl (by rw [Int32.sub_eq_add_neg]; rfl) (by decide) rfl (fun ls hl => ?_)
            refine lv_goto (tgt := 7) hx hb dX4_treeOf_60 (by decide) ?_
            exact ih x2 (x4 - 1)  _ _ _ hP hS (lv_sub hl [1, 2, 0] rfl) hN
          · rw [if_neg c7] at hN
            refine lv_lload_n hx hb dX4_treeOf_31 rfl (lv_at hl 1 rfl) ?_
            refine lv_lconst (v := 1) hx hb dX4_treeOf_32 (by decide) ?_
            refine lv_aload_n hx hb dX4_treeOf_33 rfl (lv_at hl 0 rfl) ?_
            refine lv_iload hx hb dX4_treeOf_34 (lv_at hl 2 rfl) ?_
            refine lv_iconst (v := 2) hx hb dX4_treeOf_36 (by decide) ?_
            obtain ⟨v8, hv8, hN⟩ := oB_spec hN
            refine k_iR hS (va_runV (As := [.int x4, .int (2 : Int32)]) (rest := [.long (1 : Int64), .long x2]) ⟨hx, hb, hml, hown, hts⟩ (c_X4_of l g L hL G h0 r u hV x4 (2 : Int32) v8 hv8) (cwV 2 hts gX4_treeOf_X4_of rfl rfl rfl (by decide +kernel) ⟨Nat.le_of_ble_eq_true rfl, Nat.le_of_ble_eq_true rfl⟩) (k_preV hC hS hP (vO.m hV) (vO.o hV) rfl) rfl rfl hl.1 rfl (lv_room (Nat.le_of_ble_eq_true rfl)) dX4_treeOf_37 ⟨Nat.zero_le _, Nat.zero_le _⟩) (fun H locs hP hS => ?_)
            refine lv_iconst (v := 1) hx hb dX4_treeOf_40 (by decide) ?_
            refine lv_isub hx hb dX4_treeOf_41 ?_
            refine lv_lshl hx hb dX4_treeOf_42 rfl ?_
            refine lv_lconst (v := 1) hx hb dX4_treeOf_43 (by decide) ?_
            refine lv_aload_n hx hb dX4_treeOf_44 rfl (lv_at hl 0 rfl) ?_
            refine lv_iload hx hb dX4_treeOf_45 (lv_at hl 2 rfl) ?_
            refine lv_iconst (v := 3) hx hb dX4_treeOf_47 (by decide) ?_
            obtain ⟨v10, hv10, hN⟩ := oB_spec hN
            refine k_iR hS (va_runV (As := [.int x4, .int (3 : Int32)]) (rest := [.long (1 : Int64), .long ((1 : Int64) <<< (Int32.toInt64 (v8 - (1 : Int32)) &&& 63)), .long x2]) ⟨hx, hb, hml, hown, hts⟩ (c_X4_of l g L hL G h0 r u hV x4 (3 : Int32) v10 hv10) (cwV 2 hts gX4_treeOf_X4_of rfl rfl rfl (by decide +kernel) ⟨Nat.le_of_ble_eq_true rfl, Nat.le_of_ble_eq_true rfl⟩) (k_preV hC hS hP (vO.m hV) (vO.o hV) rfl) rfl rfl hl.1 rfl (lv_room (Nat.le_of_ble_eq_true rfl)) dX4_treeOf_48 ⟨Nat.zero_le _, Nat.zero_le _⟩) (fun H locs hP hS => ?_)
            refine lv_iconst (v := 1) hx hb dX4_treeOf_51 (by decide) ?_
            refine lv_isub hx hb dX4_treeOf_52 ?_
            refine lv_lshl hx hb dX4_treeOf_53 rfl ?_
            refine lv_lor hx hb dX4_treeOf_54 ?_
            refine lv_lor hx hb dX4_treeOf_55 ?_
            refine lv_lstore_n (lv' := [(2, .long (x2 ||| (((1 : Int64) <<< (Int32.toInt64 (v8 - (1 : Int32)) &&& 63)) ||| ((1 : Int64) <<< (Int32.toInt64 (v10 - (1 : Int32)) &&& 63))))), (0, .ref h0), (4, .int x4)]) hx hb dX4_treeOf_56 rfl hl (by decide) rfl (fun ls hl => ?_)
            refine lv_iinc (v := (x4 - 1)) (lv' := [(4, .int (x4 - 1)), (2, .long (x2 ||| (((1 : Int64) <<< (Int32.toInt64 (v8 - (1 : Int32)) &&& 63)) ||| ((1 : Int64) <<< (Int32.toInt64 (v10 - (1 : Int32)) &&& 63))))), (0, .ref h0)]) hx hb dX4_treeOf_57 hl (k := 2) rfl (by rw [Int32.sub_eq_add_neg]; rfl) (by decide) rfl (fun ls hl => ?_)
            refine lv_goto (tgt := 7) hx hb dX4_treeOf_60 (by decide) ?_
            exact ih (x2 ||| (((1 : Int64) <<< (Int32.toInt64 (v8 - (1 : Int32)) &&& 63)) ||| ((1 : Int64) <<< (Int32.toInt64 (v10 - (1 : Int32)) &&& 63)))) (x4 - 1)  _ _ _ hP hS (lv_sub hl [2, 1, 0] rfl) hN
  have hl := lv_entry ([.ref h0, .int p0]) (n := 5) (Nat.le_of_ble_eq_true rfl)
  rw [lg_entry_eq]
  generalize (lg_sl ([.ref h0, .int p0]) ++ List.replicate (5 - (lg_sl ([.ref h0, .int p0])).length) Slot.unset).toArray = ls at hl ⊢
  have hl : lv_has ls 5 [(0, .ref h0), (1, .int p0)] := hl
  have hN := hF
  unfold F_X4_treeOf at hN
  refine lv_lconst (v := 1) hx hb dX4_treeOf_0 (by decide) ?_
  refine lv_iload_n hx hb dX4_treeOf_1 rfl (lv_at hl 1 rfl) ?_
  refine lv_lshl hx hb dX4_treeOf_2 rfl ?_
  refine lv_lstore_n (lv' := [(2, .long ((1 : Int64) <<< (Int32.toInt64 p0 &&& 63))), (0, .ref h0), (1, .int p0)]) hx hb dX4_treeOf_3 rfl hl (by decide) rfl (fun ls hl => ?_)
  refine lv_iload_n hx hb dX4_treeOf_4 rfl (lv_at hl 2 rfl) ?_
  refine lv_istore (lv' := [(4, .int p0), (2, .long ((1 : Int64) <<< (Int32.toInt64 p0 &&& 63))), (0, .ref h0), (1, .int p0)]) hx hb dX4_treeOf_5 hl (by decide) rfl (fun ls hl => ?_)
  exact lp7 fuel ((1 : Int64) <<< (Int32.toInt64 p0 &&& 63)) p0  _ _ _ hP hS (lv_sub hl [2, 1, 0] rfl) hN
set_option maxHeartbeats 4000000 in
set_option maxRecDepth 100000 in
theorem c_X4_tree (l : Launch) (g : Gm) (L : List Nat) {A : Nat → Prop} (hL : kL L A) (G : Nat → va_E) (h0 : Nat) (r : Nat → Nat) (u : St) (hV : vM g L G h0 r u) (p0 : Int32) (v : Int64) (hF : F_X4_tree u p0 = some v) : Met l yX4_tree wsX4_tree ({ frames := 2, cells := 0, slots := 0, locals := 46 } : Room) (va_Pc [.ref h0, .int p0] (kB g L A G)) (va_Ql (fun x9 (G9 : Nat → va_E) => x9 = v ∧ G9 = G) (kE g L) A) 0 0 A := by
  refine Met.ofW (cc := cX4_tree) (maxL := 2) (ret := (some .long)) (by decide) rfl ?_
  intro p e s m args below meth c s₁ B hml hv
  obtain ⟨rfl, hP, hC⟩ := hv
  have hx := B.exec
  have hb := B.bytes
  have hr := B.returns
  have hts := atoms_spec (ws := wsX4_tree) B.pre
  have hown : s.vm.findClass RX4 = some m.cls := findClass_of_methodNamed B.named
  have hlk := B.notSynchronized
  have hS : va_S A s.heap s.heap [] := va_S.rf
  have hl := lv_entry ([.ref h0, .int p0]) (n := 2) (Nat.le_of_ble_eq_true rfl)
  rw [lg_entry_eq]
  generalize (lg_sl ([.ref h0, .int p0]) ++ List.replicate (2 - (lg_sl ([.ref h0, .int p0])).length) Slot.unset).toArray = ls at hl ⊢
  have hl : lv_has ls 2 [(0, .ref h0), (1, .int p0)] := hl
  have hN := hF
  unfold F_X4_tree at hN
  refine lv_aload_n hx hb dX4_tree_0 rfl (lv_at hl 0 rfl) ?_
  refine lv_iload_n hx hb dX4_tree_1 rfl (lv_at hl 1 rfl) ?_
  obtain ⟨v1, hv1, hN⟩ := oB_spec hN
  refine k_iR hS (va_runV (As := [.int p0]) (rest := []) ⟨hx, hb, hml, hown, hts⟩ (c_X4_isClause l g L hL G h0 r u hV p0 v1 hv1) (cwV 1 hts gX4_tree_X4_isClause rfl rfl rfl (by decide +kernel) ⟨Nat.le_of_ble_eq_true rfl, Nat.le_of_ble_eq_true rfl⟩) (k_preV hC hS hP (vO.m hV) (vO.o hV) rfl) rfl rfl hl.1 rfl (lv_room (Nat.le_of_ble_eq_true rfl)) dX4_tree_2 ⟨Nat.zero_le _, Nat.zero_le _⟩) (fun H locs hP hS => ?_)
  refine lv_if_eq (tgt := 16) hx hb dX4_tree_5 (by decide) (fun c3 => ?_) (fun c3 => ?_)
  · rw [if_pos c3] at hN
    refine lv_ldc2 (v := (-1000001)) hx hb hown (hts (.constantLong RX4 124 (-1000001)) (List.mem_of_getElem? (i := 1) rfl)) dX4_tree_16 ?_
    exact k_lretR hx hb hr (Option.some.inj hN) hP hS hlk dX4_tree_19
  · rw [if_neg c3] at hN
    refine lv_aload_n hx hb dX4_tree_8 rfl (lv_at hl 0 rfl) ?_
    refine lv_iload_n hx hb dX4_tree_9 rfl (lv_at hl 1 rfl) ?_
    obtain ⟨v4, hv4, hN⟩ := oB_spec hN
    refine k_lR hS (va_runV (As := [.int p0]) (rest := []) ⟨hx, hb, hml, hown, hts⟩ (c_X4_treeOf l g L hL G h0 r u hV p0 v4 hv4) (cwV 1 hts gX4_tree_X4_treeOf rfl rfl rfl (by decide +kernel) ⟨Nat.le_of_ble_eq_true rfl, Nat.le_of_ble_eq_true rfl⟩) (k_preV hC hS hP (vO.m hV) (vO.o hV) rfl) rfl rfl hl.1 rfl (lv_room (Nat.le_of_ble_eq_true rfl)) dX4_tree_10 ⟨Nat.zero_le _, Nat.zero_le _⟩) (fun H locs hP hS => ?_)
    refine lv_goto (tgt := 19) hx hb dX4_tree_13 (by decide) ?_
    exact k_lretR hx hb hr (Option.some.inj hN) hP hS hlk dX4_tree_19
set_option maxHeartbeats 4000000 in
set_option maxRecDepth 100000 in
theorem c_X4_widest (l : Launch) (g : Gm) (L : List Nat) {A : Nat → Prop} (hL : kL L A) (G : Nat → va_E) (h0 : Nat) (r : Nat → Nat) (u : St) (hV : vM g L G h0 r u) (p0 : Int32) (v : Int32) (hF : F_X4_widest u p0 = some v) : Met l yX4_widest wsX4_widest ({ frames := 2, cells := 0, slots := 0, locals := 46 } : Room) (va_Pc [.ref h0, .int p0] (kB g L A G)) (va_Qi (fun x9 (G9 : Nat → va_E) => x9 = v ∧ G9 = G) (kE g L) A) 0 0 A := by
  refine Met.ofW (cc := cX4_widest) (maxL := 7) (ret := (some .int)) (by decide) rfl ?_
  intro p e s m args below meth c s₁ B hml hv
  obtain ⟨rfl, hP, hC⟩ := hv
  have hx := B.exec
  have hb := B.bytes
  have hr := B.returns
  have hts := atoms_spec (ws := wsX4_widest) B.pre
  have hown : s.vm.findClass RX4 = some m.cls := findClass_of_methodNamed B.named
  have hlk := B.notSynchronized
  have hS : va_S A s.heap s.heap [] := va_S.rf
  have lp23 : ∀ (n : Nat) (x1 : Int32) (x2 : Int64) (x4 : Int32) (x5 : Int32) (H : Heap) (locs : List Loc) (ls : Array Slot), va_P g.1 vwCl (va_pl L G) H → va_S A s.heap H locs → lv_has ls 7 [(0, .ref h0), (1, .int x1), (2, .long x2), (4, .int x4), (5, .int x5)] → FL_X4_widest_23 u n x1 x2 x4 x5 = some v → W p l e (headSpec wsX4_widest ({ frames := 2, cells := 0, slots := 0, locals := 46 } : Room)).room s m ([.ref h0, .int p0] : List Value).toArray below meth c H locs 0 0 (MQ below (va_Qi (fun x9 (G9 : Nat → va_E) => x9 = v ∧ G9 = G) (kE g L) A) ([.ref h0, .int p0] : List Value).toArray s 0 0 A) (F0 m 23 ls []) := by
    intro n
    induction n with
    | zero =>
      intro x1 x2 x4 x5 H locs ls hP hS hl hN
      exact absurd hN (by simp [FL_X4_widest_23])
    | succ n ih =>
      intro x1 x2 x4 x5 H locs ls hP hS hl hN
      rw [FL_X4_widest_23] at hN
      refine lv_iload hx hb dX4_widest_23 (lv_at hl 4 rfl) ?_
      refine lv_iload_n hx hb dX4_widest_25 rfl (lv_at hl 1 rfl) ?_
      refine lv_icmp_gt (tgt := 76) hx hb dX4_widest_26 (by decide) (fun c6 => ?_) (fun c6 => ?_)
      · rw [if_pos c6] at hN
        refine lv_iload hx hb dX4_widest_76 (lv_at hl 3 rfl) ?_
        exact k_iretR hx hb hr (Option.some.inj hN) hP hS hlk dX4_widest_78
      · rw [if_neg c6] at hN
        refine lv_lload_n hx hb dX4_widest_29 rfl (lv_at hl 2 rfl) ?_
        refine lv_iload hx hb dX4_widest_30 (lv_at hl 4 rfl) ?_
        obtain ⟨v7, hv7, hN⟩ := oB_spec hN
        refine k_iR hS (va_runS (As := [.long x2, .int x5]) (rest := []) ⟨hx, hb, hml, hown, hts⟩ (c_X4_isIn l g L hL G x2 x5 v7 hv7) (va_cwS 2 hts gX4_widest_X4_isIn rfl rfl rfl (by decide +kernel) ⟨Nat.le_of_ble_eq_true rfl, Nat.le_of_ble_eq_true rfl⟩) (k_pre hC hS hP) rfl rfl hl.1 rfl (lv_room (Nat.le_of_ble_eq_true rfl)) dX4_widest_32 ⟨Nat.zero_le _, Nat.zero_le _⟩) (fun H locs hP hS => ?_)
        refine lv_if_eq (tgt := 51) hx hb dX4_widest_35 (by decide) (fun c9 => ?_) (fun c9 => ?_)
        · rw [if_pos c9] at hN
          refine lv_iconst (v := 0) hx hb dX4_widest_51 (by decide) ?_
          refine lv_istore (lv' := [(6, .int (0 : Int32)), (0, .ref h0), (1, .int x1), (2, .long x2), (4, .int x4), (5, .int x5)]) hx hb dX4_widest_52 hl (by decide) rfl (fun ls hl => ?_)
          refine lv_iload hx hb dX4_widest_54 (lv_at hl 0 rfl) ?_
          refine lv_iload hx hb dX4_widest_56 (lv_at hl 4 rfl) ?_
          refine lv_icmp_le (tgt := 66) hx hb dX4_widest_58 (by decide) (fun c10 => ?_) (fun c10 => ?_)
          · rw [if_pos c10] at hN
            refine lv_iload hx hb dX4_widest_66 (lv_at hl 4 rfl) ?_
            refine lv_istore (lv' := [(4, .int x4), (6, .int (0 : Int32)), (0, .ref h0), (1, .int x1), (2, .long x2), (5, .int x5)]) hx hb dX4_widest_68 hl (by decide) rfl (fun ls hl => ?_)
            refine lv_iinc (v := (x5 + 1)) (lv' := [(5, .int (x5 + 1)), (4, .int x4), (6, .int (0 : Int32)), (0, .ref h0), (1, .int x1), (2, .long x2)]) hx hb dX4_widest_70 hl (k := 5) rfl rfl (by decide) rfl (fun ls hl => ?_)
            refine lv_goto (tgt := 23) hx hb dX4_widest_73 (by decide) ?_
            exact ih x1 x2 x4 (x5 + 1)  _ _ _ hP hS (lv_sub hl [3, 4, 5, 1, 0] rfl) hN
          · rw [if_neg c10] at hN
            refine lv_iload hx hb dX4_widest_61 (lv_at hl 0 rfl) ?_
            refine lv_goto (tgt := 68) hx hb dX4_widest_63 (by decide) ?_
            refine lv_istore (lv' := [(4, .int (0 : Int32)), (6, .int (0 : Int32)), (0, .ref h0), (1, .int x1), (2, .long x2), (5, .int x5)]) hx hb dX4_widest_68 hl (by decide) rfl (fun ls hl => ?_)
            refine lv_iinc (v := (x5 + 1)) (lv' := [(5, .int (x5 + 1)), (4, .int (0 : Int32)), (6, .int (0 : Int32)), (0, .ref h0), (1, .int x1), (2, .long x2)]) hx hb dX4_widest_70 hl (k := 5) rfl rfl (by decide) rfl (fun ls hl => ?_)
            refine lv_goto (tgt := 23) hx hb dX4_widest_73 (by decide) ?_
            exact ih x1 x2 (0 : Int32) (x5 + 1)  _ _ _ hP hS (lv_sub hl [3, 4, 5, 1, 0] rfl) hN
        · rw [if_neg c9] at hN
          refine lv_aload_n hx hb dX4_widest_38 rfl (lv_at hl 0 rfl) ?_
          refine lv_iload hx hb dX4_widest_39 (lv_at hl 4 rfl) ?_
          refine lv_iconst (v := 0) hx hb dX4_widest_41 (by decide) ?_
          obtain ⟨v11, hv11, hN⟩ := oB_spec hN
          refine k_iR hS (va_runV (As := [.int x5, .int (0 : Int32)]) (rest := []) ⟨hx, hb, hml, hown, hts⟩ (c_X4_of l g L hL G h0 r u hV x5 (0 : Int32) v11 hv11) (cwV 2 hts gX4_widest_X4_of rfl rfl rfl (by decide +kernel) ⟨Nat.le_of_ble_eq_true rfl, Nat.le_of_ble_eq_true rfl⟩) (k_preV hC hS hP (vO.m hV) (vO.o hV) rfl) rfl rfl hl.1 rfl (lv_room (Nat.le_of_ble_eq_true rfl)) dX4_widest_42 ⟨Nat.zero_le _, Nat.zero_le _⟩) (fun H locs hP hS => ?_)
          obtain ⟨v13, hv13, hN⟩ := oB_spec hN
          refine k_iR hS (va_runS (As := [.int v11]) (rest := []) ⟨hx, hb, hml, hown, hts⟩ (c_X4_ones l g L hL G v11 v13 hv13) (va_cwS 1 hts gX4_widest_X4_ones rfl rfl rfl (by decide +kernel) ⟨Nat.le_of_ble_eq_true rfl, Nat.le_of_ble_eq_true rfl⟩) (k_pre hC hS hP) rfl rfl hl.1 rfl (lv_room (Nat.le_of_ble_eq_true rfl)) dX4_widest_45 ⟨Nat.zero_le _, Nat.zero_le _⟩) (fun H locs hP hS => ?_)
          refine lv_goto (tgt := 52) hx hb dX4_widest_48 (by decide) ?_
          refine lv_istore (lv' := [(6, .int v13), (0, .ref h0), (1, .int x1), (2, .long x2), (4, .int x4), (5, .int x5)]) hx hb dX4_widest_52 hl (by decide) rfl (fun ls hl => ?_)
          refine lv_iload hx hb dX4_widest_54 (lv_at hl 0 rfl) ?_
          refine lv_iload hx hb dX4_widest_56 (lv_at hl 4 rfl) ?_
          refine lv_icmp_le (tgt := 66) hx hb dX4_widest_58 (by decide) (fun c15 => ?_) (fun c15 => ?_)
          · rw [if_pos c15] at hN
            refine lv_iload hx hb dX4_widest_66 (lv_at hl 4 rfl) ?_
            refine lv_istore (lv' := [(4, .int x4), (6, .int v13), (0, .ref h0), (1, .int x1), (2, .long x2), (5, .int x5)]) hx hb dX4_widest_68 hl (by decide) rfl (fun ls hl => ?_)
            refine lv_iinc (v := (x5 + 1)) (lv' := [(5, .int (x5 + 1)), (4, .int x4), (6, .int v13), (0, .ref h0), (1, .int x1), (2, .long x2)]) hx hb dX4_widest_70 hl (k := 5) rfl rfl (by decide) rfl (fun ls hl => ?_)
            refine lv_goto (tgt := 23) hx hb dX4_widest_73 (by decide) ?_
            exact ih x1 x2 x4 (x5 + 1)  _ _ _ hP hS (lv_sub hl [3, 4, 5, 1, 0] rfl) hN
          · rw [if_neg c15] at hN
            refine lv_iload hx hb dX4_widest_61 (lv_at hl 0 rfl) ?_
            refine lv_goto (tgt := 68) hx hb dX4_widest_63 (by decide) ?_
            refine lv_istore (lv' := [(4, .int v13), (6, .int v13), (0, .ref h0), (1, .int x1), (2, .long x2), (5, .int x5)]) hx hb dX4_widest_68 hl (by decide) rfl (fun ls hl => ?_)
            refine lv_iinc (v := (x5 + 1)) (lv' := [(5, .int (x5 + 1)), (4, .int v13), (6, .int v13), (0, .ref h0), (1, .int x1), (2, .long x2)]) hx hb dX4_widest_70 hl (k := 5) rfl rfl (by decide) rfl (fun ls hl => ?_)
            refine lv_goto (tgt := 23) hx hb dX4_widest_73 (by decide) ?_
            exact ih x1 x2 v13 (x5 + 1)  _ _ _ hP hS (lv_sub hl [3, 4, 5, 1, 0] rfl) hN
  have hl := lv_entry ([.ref h0, .int p0]) (n := 7) (Nat.le_of_ble_eq_true rfl)
  rw [lg_entry_eq]
  generalize (lg_sl ([.ref h0, .int p0]) ++ List.replicate (7 - (lg_sl ([.ref h0, .int p0])).length) Slot.unset).toArray = ls at hl ⊢
  have hl : lv_has ls 7 [(0, .ref h0), (1, .int p0)] := hl
  have hN := hF
  unfold F_X4_widest at hN
  refine lv_aload_n hx hb dX4_widest_0 rfl (lv_at hl 0 rfl) ?_
  refine lv_iload_n hx hb dX4_widest_1 rfl (lv_at hl 1 rfl) ?_
  obtain ⟨v1, hv1, hN⟩ := oB_spec hN
  refine k_iR hS (va_runV (As := [.int p0]) (rest := []) ⟨hx, hb, hml, hown, hts⟩ (c_X4_isClause l g L hL G h0 r u hV p0 v1 hv1) (cwV 1 hts gX4_widest_X4_isClause rfl rfl rfl (by decide +kernel) ⟨Nat.le_of_ble_eq_true rfl, Nat.le_of_ble_eq_true rfl⟩) (k_preV hC hS hP (vO.m hV) (vO.o hV) rfl) rfl rfl hl.1 rfl (lv_room (Nat.le_of_ble_eq_true rfl)) dX4_widest_2 ⟨Nat.zero_le _, Nat.zero_le _⟩) (fun H locs hP hS => ?_)
  refine lv_if_ne (tgt := 11) hx hb dX4_widest_5 (by decide) (fun c3 => ?_) (fun c3 => ?_)
  · rw [if_neg c3] at hN
    refine lv_aload_n hx hb dX4_widest_11 rfl (lv_at hl 0 rfl) ?_
    refine lv_iload_n hx hb dX4_widest_12 rfl (lv_at hl 1 rfl) ?_
    obtain ⟨v4, hv4, hN⟩ := oB_spec hN
    refine k_lR hS (va_runV (As := [.int p0]) (rest := []) ⟨hx, hb, hml, hown, hts⟩ (c_X4_treeOf l g L hL G h0 r u hV p0 v4 hv4) (cwV 1 hts gX4_widest_X4_treeOf rfl rfl rfl (by decide +kernel) ⟨Nat.le_of_ble_eq_true rfl, Nat.le_of_ble_eq_true rfl⟩) (k_preV hC hS hP (vO.m hV) (vO.o hV) rfl) rfl rfl hl.1 rfl (lv_room (Nat.le_of_ble_eq_true rfl)) dX4_widest_13 ⟨Nat.zero_le _, Nat.zero_le _⟩) (fun H locs hP hS => ?_)
    refine lv_lstore_n (lv' := [(2, .long v4), (0, .ref h0), (1, .int p0)]) hx hb dX4_widest_16 rfl hl (by decide) rfl (fun ls hl => ?_)
    refine lv_iconst (v := 0) hx hb dX4_widest_17 (by decide) ?_
    refine lv_istore (lv' := [(4, .int (0 : Int32)), (2, .long v4), (0, .ref h0), (1, .int p0)]) hx hb dX4_widest_18 hl (by decide) rfl (fun ls hl => ?_)
    refine lv_iconst (v := 0) hx hb dX4_widest_20 (by decide) ?_
    refine lv_istore (lv' := [(5, .int (0 : Int32)), (4, .int (0 : Int32)), (2, .long v4), (0, .ref h0), (1, .int p0)]) hx hb dX4_widest_21 hl (by decide) rfl (fun ls hl => ?_)
    exact lp23 fuel p0 v4 (0 : Int32) (0 : Int32)  _ _ _ hP hS (lv_sub hl [3, 4, 2, 1, 0] rfl) hN
  · rw [if_pos c3] at hN
    refine lv_ldc (v := (-1000001)) hx hb hown (hts (.constant RX4 22 (-1000001)) (List.mem_of_getElem? (i := 1) rfl)) dX4_widest_8 ?_
    exact k_iretR hx hb hr (Option.some.inj hN) hP hS hlk dX4_widest_10
set_option maxHeartbeats 4000000 in
set_option maxRecDepth 100000 in
theorem c_X4_refutation (l : Launch) (g : Gm) (L : List Nat) {A : Nat → Prop} (hL : kL L A) (G : Nat → va_E) (h0 : Nat) (r : Nat → Nat) (u : St) (hV : vM g L G h0 r u) (v : Int32) (hF : F_X4_refutation u = some v) : Met l yX4_refutation wsX4_refutation ({ frames := 2, cells := 0, slots := 0, locals := 44 } : Room) (va_Pc [.ref h0] (kB g L A G)) (va_Qi (fun x9 (G9 : Nat → va_E) => x9 = v ∧ G9 = G) (kE g L) A) 0 0 A := by
  refine Met.ofW (cc := cX4_refutation) (maxL := 2) (ret := (some .int)) (by decide) rfl ?_
  intro p e s m args below meth c s₁ B hml hv
  obtain ⟨rfl, hP, hC⟩ := hv
  have hx := B.exec
  have hb := B.bytes
  have hr := B.returns
  have hts := atoms_spec (ws := wsX4_refutation) B.pre
  have hown : s.vm.findClass RX4 = some m.cls := findClass_of_methodNamed B.named
  have hlk := B.notSynchronized
  have hS : va_S A s.heap s.heap [] := va_S.rf
  have hl := lv_entry ([.ref h0]) (n := 2) (Nat.le_of_ble_eq_true rfl)
  rw [lg_entry_eq]
  generalize (lg_sl ([.ref h0]) ++ List.replicate (2 - (lg_sl ([.ref h0])).length) Slot.unset).toArray = ls at hl ⊢
  have hl : lv_has ls 2 [(0, .ref h0)] := hl
  have hN := hF
  unfold F_X4_refutation at hN
  refine lv_aload_n hx hb dX4_refutation_0 rfl (lv_at hl 0 rfl) ?_
  obtain ⟨v1, hv1, hN⟩ := oB_spec hN
  refine k_iR hS (va_runV (As := []) (rest := []) ⟨hx, hb, hml, hown, hts⟩ (c_X4_empties l g L hL G h0 r u hV v1 hv1) (cwV 0 hts gX4_refutation_X4_empties rfl rfl rfl (by decide +kernel) ⟨Nat.le_of_ble_eq_true rfl, Nat.le_of_ble_eq_true rfl⟩) (k_preV hC hS hP (vO.m hV) (vO.o hV) rfl) rfl rfl hl.1 rfl (lv_room (Nat.le_of_ble_eq_true rfl)) dX4_refutation_1 ⟨Nat.zero_le _, Nat.zero_le _⟩) (fun H locs hP hS => ?_)
  refine lv_istore_n (lv' := [(1, .int v1), (0, .ref h0)]) hx hb dX4_refutation_4 rfl hl (by decide) rfl (fun ls hl => ?_)
  refine lv_iload_n hx hb dX4_refutation_5 rfl (lv_at hl 0 rfl) ?_
  refine lv_if_ge (tgt := 14) hx hb dX4_refutation_6 (by decide) (fun c3 => ?_) (fun c3 => ?_)
  · rw [if_pos c3] at hN
    refine lv_iload_n hx hb dX4_refutation_14 rfl (lv_at hl 0 rfl) ?_
    exact k_iretR hx hb hr (Option.some.inj hN) hP hS hlk dX4_refutation_15
  · rw [if_neg c3] at hN
    refine lv_ldc (v := (-1000004)) hx hb hown (hts (.constant RX4 106 (-1000004)) (List.mem_of_getElem? (i := 1) rfl)) dX4_refutation_9 ?_
    refine lv_goto (tgt := 15) hx hb dX4_refutation_11 (by decide) ?_
    exact k_iretR hx hb hr (Option.some.inj hN) hP hS hlk dX4_refutation_15
set_option maxHeartbeats 4000000 in
set_option maxRecDepth 100000 in
theorem c_X4_isFulfilled (l : Launch) (g : Gm) (L : List Nat) {A : Nat → Prop} (hL : kL L A) (G : Nat → va_E) (p0 : Int32) (p1 : Int32) (v : Int32) (hF : F_X4_isFulfilled p0 p1 = some v) : Met l yX4_isFulfilled wsX4_isFulfilled ({ frames := 1, cells := 0, slots := 0, locals := 21 } : Room) (va_Pc [.int p0, .int p1] (kB g L A G)) (va_Qi (fun x9 (G9 : Nat → va_E) => x9 = v ∧ G9 = G) (kE g L) A) 0 0 A := by
  refine Met.ofW (cc := cX4_isFulfilled) (maxL := 4) (ret := (some .boolean)) (by decide) rfl ?_
  intro p e s m args below meth c s₁ B hml hv
  obtain ⟨rfl, hP, hC⟩ := hv
  have hx := B.exec
  have hb := B.bytes
  have hr := B.returns
  have hts := atoms_spec (ws := wsX4_isFulfilled) B.pre
  have hown : s.vm.findClass RX4 = some m.cls := findClass_of_methodNamed B.named
  have hlk := B.notSynchronized
  have hS : va_S A s.heap s.heap [] := va_S.rf
  have lp4 : ∀ (n : Nat) (x0 : Int32) (x1 : Int32) (x2 : Int32) (x3 : Int32) (H : Heap) (locs : List Loc) (ls : Array Slot), va_P g.1 vwCl (va_pl L G) H → va_S A s.heap H locs → lv_has ls 4 [(0, .int x0), (1, .int x1), (2, .int x2), (3, .int x3)] → FL_X4_isFulfilled_4  n x0 x1 x2 x3 = some v → W p l e (headSpec wsX4_isFulfilled ({ frames := 1, cells := 0, slots := 0, locals := 21 } : Room)).room s m ([.int p0, .int p1] : List Value).toArray below meth c H locs 0 0 (MQ below (va_Qi (fun x9 (G9 : Nat → va_E) => x9 = v ∧ G9 = G) (kE g L) A) ([.int p0, .int p1] : List Value).toArray s 0 0 A) (F0 m 4 ls []) := by
    intro n
    induction n with
    | zero =>
      intro x0 x1 x2 x3 H locs ls hP hS hl hN
      exact absurd hN (by simp [FL_X4_isFulfilled_4])
    | succ n ih =>
      intro x0 x1 x2 x3 H locs ls hP hS hl hN
      rw [FL_X4_isFulfilled_4] at hN
      refine lv_iload_n hx hb dX4_isFulfilled_4 rfl (lv_at hl 3 rfl) ?_
      refine lv_bipush (v := 12) hx hb dX4_isFulfilled_5 (by decide) ?_
      refine lv_icmp_ge (tgt := 55) hx hb dX4_isFulfilled_7 (by decide) (fun c1 => ?_) (fun c1 => ?_)
      · rw [if_pos c1] at hN
        refine lv_iload_n hx hb dX4_isFulfilled_55 rfl (lv_at hl 2 rfl) ?_
        obtain ⟨hz, hN⟩ := oZ_spec hN
        exact k_zretR hx hb hr hz (Option.some.inj hN) hP hS hlk dX4_isFulfilled_56
      · rw [if_neg c1] at hN
        refine lv_iload_n hx hb dX4_isFulfilled_10 rfl (lv_at hl 2 rfl) ?_
        refine lv_if_ne (tgt := 43) hx hb dX4_isFulfilled_11 (by decide) (fun c2 => ?_) (fun c2 => ?_)
        · rw [if_neg c2] at hN
          refine lv_iconst (v := 1) hx hb dX4_isFulfilled_43 (by decide) ?_
          refine lv_goto (tgt := 48) hx hb dX4_isFulfilled_44 (by decide) ?_
          refine lv_istore_n (lv' := [(2, .int (1 : Int32)), (0, .int x0), (1, .int x1), (3, .int x3)]) hx hb dX4_isFulfilled_48 rfl hl (by decide) rfl (fun ls hl => ?_)
          refine lv_iinc (v := (x3 + 1)) (lv' := [(3, .int (x3 + 1)), (2, .int (1 : Int32)), (0, .int x0), (1, .int x1)]) hx hb dX4_isFulfilled_49 hl (k := 3) rfl rfl (by decide) rfl (fun ls hl => ?_)
          refine lv_goto (tgt := 4) hx hb dX4_isFulfilled_52 (by decide) ?_
          exact ih x0 x1 (1 : Int32) (x3 + 1)  _ _ _ hP hS (lv_sub hl [2, 3, 1, 0] rfl) hN
        · rw [if_pos c2] at hN
          refine lv_iload_n hx hb dX4_isFulfilled_14 rfl (lv_at hl 0 rfl) ?_
          refine lv_iload_n hx hb dX4_isFulfilled_15 rfl (lv_at hl 3 rfl) ?_
          obtain ⟨v3, hv3, hN⟩ := oB_spec hN
          refine k_iR hS (va_runS (As := [.int x0, .int x3]) (rest := []) ⟨hx, hb, hml, hown, hts⟩ (c_X4_has l g L hL G x0 x3 v3 hv3) (va_cwS 2 hts gX4_isFulfilled_X4_has rfl rfl rfl (by decide +kernel) ⟨Nat.le_of_ble_eq_true rfl, Nat.le_of_ble_eq_true rfl⟩) (k_pre hC hS hP) rfl rfl hl.1 rfl (lv_room (Nat.le_of_ble_eq_true rfl)) dX4_isFulfilled_16 ⟨Nat.zero_le _, Nat.zero_le _⟩) (fun H locs hP hS => ?_)
          refine lv_if_eq (tgt := 47) hx hb dX4_isFulfilled_19 (by decide) (fun c5 => ?_) (fun c5 => ?_)
          · rw [if_pos c5] at hN
            refine lv_iconst (v := 0) hx hb dX4_isFulfilled_47 (by decide) ?_
            refine lv_istore_n (lv' := [(2, .int (0 : Int32)), (0, .int x0), (1, .int x1), (3, .int x3)]) hx hb dX4_isFulfilled_48 rfl hl (by decide) rfl (fun ls hl => ?_)
            refine lv_iinc (v := (x3 + 1)) (lv' := [(3, .int (x3 + 1)), (2, .int (0 : Int32)), (0, .int x0), (1, .int x1)]) hx hb dX4_isFulfilled_49 hl (k := 3) rfl rfl (by decide) rfl (fun ls hl => ?_)
            refine lv_goto (tgt := 4) hx hb dX4_isFulfilled_52 (by decide) ?_
            exact ih x0 x1 (0 : Int32) (x3 + 1)  _ _ _ hP hS (lv_sub hl [2, 3, 1, 0] rfl) hN
          · rw [if_neg c5] at hN
            refine lv_iload_n hx hb dX4_isFulfilled_22 rfl (lv_at hl 1 rfl) ?_
            refine lv_iload_n hx hb dX4_isFulfilled_23 rfl (lv_at hl 3 rfl) ?_
            refine lv_iconst (v := 2) hx hb dX4_isFulfilled_24 (by decide) ?_
            obtain ⟨v6, hv6, hN⟩ := oB_spec hN
            refine lv_idivE hx hb dX4_isFulfilled_25 hv6 ?_
            obtain ⟨v7, hv7, hN⟩ := oB_spec hN
            refine k_iR hS (va_runS (As := [.int x1, .int v6]) (rest := []) ⟨hx, hb, hml, hown, hts⟩ (c_X4_has l g L hL G x1 v6 v7 hv7) (va_cwS 2 hts gX4_isFulfilled_X4_has rfl rfl rfl (by decide +kernel) ⟨Nat.le_of_ble_eq_true rfl, Nat.le_of_ble_eq_true rfl⟩) (k_pre hC hS hP) rfl rfl hl.1 rfl (lv_room (Nat.le_of_ble_eq_true rfl)) dX4_isFulfilled_26 ⟨Nat.zero_le _, Nat.zero_le _⟩) (fun H locs hP hS => ?_)
            refine lv_iload_n hx hb dX4_isFulfilled_29 rfl (lv_at hl 3 rfl) ?_
            refine lv_iconst (v := 2) hx hb dX4_isFulfilled_30 (by decide) ?_
            obtain ⟨v9, hv9, hN⟩ := oB_spec hN
            refine lv_iremE hx hb dX4_isFulfilled_31 hv9 ?_
            refine lv_if_ne (tgt := 39) hx hb dX4_isFulfilled_32 (by decide) (fun c10 => ?_) (fun c10 => ?_)
            · rw [if_neg c10] at hN
              refine lv_iconst (v := 0) hx hb dX4_isFulfilled_39 (by decide) ?_
              refine lv_icmp_ne (tgt := 47) hx hb dX4_isFulfilled_40 (by decide) (fun c11 => ?_) (fun c11 => ?_)
              · rw [if_neg c11] at hN
                refine lv_iconst (v := 0) hx hb dX4_isFulfilled_47 (by decide) ?_
                refine lv_istore_n (lv' := [(2, .int (0 : Int32)), (0, .int x0), (1, .int x1), (3, .int x3)]) hx hb dX4_isFulfilled_48 rfl hl (by decide) rfl (fun ls hl => ?_)
                refine lv_iinc (v := (x3 + 1)) (lv' := [(3, .int (x3 + 1)), (2, .int (0 : Int32)), (0, .int x0), (1, .int x1)]) hx hb dX4_isFulfilled_49 hl (k := 3) rfl rfl (by decide) rfl (fun ls hl => ?_)
                refine lv_goto (tgt := 4) hx hb dX4_isFulfilled_52 (by decide) ?_
                exact ih x0 x1 (0 : Int32) (x3 + 1)  _ _ _ hP hS (lv_sub hl [2, 3, 1, 0] rfl) hN
              · rw [if_pos c11] at hN
                refine lv_iconst (v := 1) hx hb dX4_isFulfilled_43 (by decide) ?_
                refine lv_goto (tgt := 48) hx hb dX4_isFulfilled_44 (by decide) ?_
                refine lv_istore_n (lv' := [(2, .int (1 : Int32)), (0, .int x0), (1, .int x1), (3, .int x3)]) hx hb dX4_isFulfilled_48 rfl hl (by decide) rfl (fun ls hl => ?_)
                refine lv_iinc (v := (x3 + 1)) (lv' := [(3, .int (x3 + 1)), (2, .int (1 : Int32)), (0, .int x0), (1, .int x1)]) hx hb dX4_isFulfilled_49 hl (k := 3) rfl rfl (by decide) rfl (fun ls hl => ?_)
                refine lv_goto (tgt := 4) hx hb dX4_isFulfilled_52 (by decide) ?_
                exact ih x0 x1 (1 : Int32) (x3 + 1)  _ _ _ hP hS (lv_sub hl [2, 3, 1, 0] rfl) hN
            · rw [if_pos c10] at hN
              refine lv_iconst (v := 1) hx hb dX4_isFulfilled_35 (by decide) ?_
              refine lv_goto (tgt := 40) hx hb dX4_isFulfilled_36 (by decide) ?_
              refine lv_icmp_ne (tgt := 47) hx hb dX4_isFulfilled_40 (by decide) (fun c12 => ?_) (fun c12 => ?_)
              · rw [if_neg c12] at hN
                refine lv_iconst (v := 0) hx hb dX4_isFulfilled_47 (by decide) ?_
                refine lv_istore_n (lv' := [(2, .int (0 : Int32)), (0, .int x0), (1, .int x1), (3, .int x3)]) hx hb dX4_isFulfilled_48 rfl hl (by decide) rfl (fun ls hl => ?_)
                refine lv_iinc (v := (x3 + 1)) (lv' := [(3, .int (x3 + 1)), (2, .int (0 : Int32)), (0, .int x0), (1, .int x1)]) hx hb dX4_isFulfilled_49 hl (k := 3) rfl rfl (by decide) rfl (fun ls hl => ?_)
                refine lv_goto (tgt := 4) hx hb dX4_isFulfilled_52 (by decide) ?_
                exact ih x0 x1 (0 : Int32) (x3 + 1)  _ _ _ hP hS (lv_sub hl [2, 3, 1, 0] rfl) hN
              · rw [if_pos c12] at hN
                refine lv_iconst (v := 1) hx hb dX4_isFulfilled_43 (by decide) ?_
                refine lv_goto (tgt := 48) hx hb dX4_isFulfilled_44 (by decide) ?_
                refine lv_istore_n (lv' := [(2, .int (1 : Int32)), (0, .int x0), (1, .int x1), (3, .int x3)]) hx hb dX4_isFulfilled_48 rfl hl (by decide) rfl (fun ls hl => ?_)
                refine lv_iinc (v := (x3 + 1)) (lv' := [(3, .int (x3 + 1)), (2, .int (1 : Int32)), (0, .int x0), (1, .int x1)]) hx hb dX4_isFulfilled_49 hl (k := 3) rfl rfl (by decide) rfl (fun ls hl => ?_)
                refine lv_goto (tgt := 4) hx hb dX4_isFulfilled_52 (by decide) ?_
                exact ih x0 x1 (1 : Int32) (x3 + 1)  _ _ _ hP hS (lv_sub hl [2, 3, 1, 0] rfl) hN
  have hl := lv_entry ([.int p0, .int p1]) (n := 4) (Nat.le_of_ble_eq_true rfl)
  rw [lg_entry_eq]
  generalize (lg_sl ([.int p0, .int p1]) ++ List.replicate (4 - (lg_sl ([.int p0, .int p1])).length) Slot.unset).toArray = ls at hl ⊢
  have hl : lv_has ls 4 [(0, .int p0), (1, .int p1)] := hl
  have hN := hF
  unfold F_X4_isFulfilled at hN
  refine lv_iconst (v := 0) hx hb dX4_isFulfilled_0 (by decide) ?_
  refine lv_istore_n (lv' := [(2, .int (0 : Int32)), (0, .int p0), (1, .int p1)]) hx hb dX4_isFulfilled_1 rfl hl (by decide) rfl (fun ls hl => ?_)
  refine lv_iconst (v := 0) hx hb dX4_isFulfilled_2 (by decide) ?_
  refine lv_istore_n (lv' := [(3, .int (0 : Int32)), (2, .int (0 : Int32)), (0, .int p0), (1, .int p1)]) hx hb dX4_isFulfilled_3 rfl hl (by decide) rfl (fun ls hl => ?_)
  exact lp4 fuel p0 p1 (0 : Int32) (0 : Int32)  _ _ _ hP hS (lv_sub hl [2, 3, 1, 0] rfl) hN
set_option maxHeartbeats 4000000 in
set_option maxRecDepth 100000 in
theorem c_X4_fulfils (l : Launch) (g : Gm) (L : List Nat) {A : Nat → Prop} (hL : kL L A) (G : Nat → va_E) (h0 : Nat) (r : Nat → Nat) (u : St) (hV : vM g L G h0 r u) (p0 : Int32) (p1 : Int64) (v : Int32) (hF : F_X4_fulfils u p0 p1 = some v) : Met l yX4_fulfils wsX4_fulfils ({ frames := 2, cells := 0, slots := 0, locals := 44 } : Room) (va_Pc [.ref h0, .int p0, .long p1] (kB g L A G)) (va_Qi (fun x9 (G9 : Nat → va_E) => x9 = v ∧ G9 = G) (kE g L) A) 0 0 A := by
  refine Met.ofW (cc := cX4_fulfils) (maxL := 6) (ret := (some .boolean)) (by decide) rfl ?_
  intro p e s m args below meth c s₁ B hml hv
  obtain ⟨rfl, hP, hC⟩ := hv
  have hx := B.exec
  have hb := B.bytes
  have hr := B.returns
  have hts := atoms_spec (ws := wsX4_fulfils) B.pre
  have hown : s.vm.findClass RX4 = some m.cls := findClass_of_methodNamed B.named
  have hlk := B.notSynchronized
  have hS : va_S A s.heap s.heap [] := va_S.rf
  have lp6 : ∀ (n : Nat) (x1 : Int32) (x2 : Int64) (x4 : Int32) (x5 : Int32) (H : Heap) (locs : List Loc) (ls : Array Slot), va_P g.1 vwCl (va_pl L G) H → va_S A s.heap H locs → lv_has ls 6 [(0, .ref h0), (1, .int x1), (2, .long x2), (4, .int x4), (5, .int x5)] → FL_X4_fulfils_6 u n x1 x2 x4 x5 = some v → W p l e (headSpec wsX4_fulfils ({ frames := 2, cells := 0, slots := 0, locals := 44 } : Room)).room s m ([.ref h0, .int p0, .long p1] : List Value).toArray below meth c H locs 0 0 (MQ below (va_Qi (fun x9 (G9 : Nat → va_E) => x9 = v ∧ G9 = G) (kE g L) A) ([.ref h0, .int p0, .long p1] : List Value).toArray s 0 0 A) (F0 m 6 ls []) := by
    intro n
    induction n with
    | zero =>
      intro x1 x2 x4 x5 H locs ls hP hS hl hN
      exact absurd hN (by simp [FL_X4_fulfils_6])
    | succ n ih =>
      intro x1 x2 x4 x5 H locs ls hP hS hl hN
      rw [FL_X4_fulfils_6] at hN
      refine lv_iload hx hb dX4_fulfils_6 (lv_at hl 4 rfl) ?_
      refine lv_aload_n hx hb dX4_fulfils_8 rfl (lv_at hl 0 rfl) ?_
      refine k_get (C := RX4) (T := TX4) (N := 8) (ci := 4) (v := .ref (r 0)) hx hb hts (fun _ h => List.mem_cons_of_mem _ (List.mem_append_right _ h)) hown hC hP (vO.m hV) (vO.o hV) rfl 0 (by decide) (hts (.fieldLink RX4 7 "OrderedClausesModel" "s" "[I") (List.mem_of_getElem? (i := 1) rfl)) rfl dX4_fulfils_9 ?_
      refine lv_iconst (v := 0) hx hb dX4_fulfils_12 (by decide) ?_
      obtain ⟨v1, hv1, hN⟩ := oB_spec hN
      refine k_ildE hx hb hC hP (vO.rm hV 0 (by decide)) (vO.ri hV 0 (by decide)) hv1 dX4_fulfils_13 ?_
      refine lv_icmp_ge (tgt := 58) hx hb dX4_fulfils_14 (by decide) (fun c2 => ?_) (fun c2 => ?_)
      · rw [if_pos c2] at hN
        refine lv_iload hx hb dX4_fulfils_58 (lv_at hl 3 rfl) ?_
        obtain ⟨hz, hN⟩ := oZ_spec hN
        exact k_zretR hx hb hr hz (Option.some.inj hN) hP hS hlk dX4_fulfils_60
      · rw [if_neg c2] at hN
        refine lv_iload hx hb dX4_fulfils_17 (lv_at hl 3 rfl) ?_
        refine lv_if_eq (tgt := 49) hx hb dX4_fulfils_19 (by decide) (fun c3 => ?_) (fun c3 => ?_)
        · rw [if_pos c3] at hN
          refine lv_iconst (v := 0) hx hb dX4_fulfils_49 (by decide) ?_
          refine lv_istore (lv' := [(4, .int (0 : Int32)), (0, .ref h0), (1, .int x1), (2, .long x2), (5, .int x5)]) hx hb dX4_fulfils_50 hl (by decide) rfl (fun ls hl => ?_)
          refine lv_iinc (v := (x5 + 1)) (lv' := [(5, .int (x5 + 1)), (4, .int (0 : Int32)), (0, .ref h0), (1, .int x1), (2, .long x2)]) hx hb dX4_fulfils_52 hl (k := 4) rfl rfl (by decide) rfl (fun ls hl => ?_)
          refine lv_goto (tgt := 6) hx hb dX4_fulfils_55 (by decide) ?_
          exact ih x1 x2 (0 : Int32) (x5 + 1)  _ _ _ hP hS (lv_sub hl [2, 3, 4, 1, 0] rfl) hN
        · rw [if_neg c3] at hN
          refine lv_lload_n hx hb dX4_fulfils_22 rfl (lv_at hl 2 rfl) ?_
          refine lv_iload hx hb dX4_fulfils_23 (lv_at hl 4 rfl) ?_
          obtain ⟨v4, hv4, hN⟩ := oB_spec hN
          refine k_iR hS (va_runS (As := [.long x2, .int x5]) (rest := []) ⟨hx, hb, hml, hown, hts⟩ (c_X4_isIn l g L hL G x2 x5 v4 hv4) (va_cwS 2 hts gX4_fulfils_X4_isIn rfl rfl rfl (by decide +kernel) ⟨Nat.le_of_ble_eq_true rfl, Nat.le_of_ble_eq_true rfl⟩) (k_pre hC hS hP) rfl rfl hl.1 rfl (lv_room (Nat.le_of_ble_eq_true rfl)) dX4_fulfils_25 ⟨Nat.zero_le _, Nat.zero_le _⟩) (fun H locs hP hS => ?_)
          refine lv_if_eq (tgt := 45) hx hb dX4_fulfils_28 (by decide) (fun c6 => ?_) (fun c6 => ?_)
          · rw [if_pos c6] at hN
            refine lv_iconst (v := 1) hx hb dX4_fulfils_45 (by decide) ?_
            refine lv_goto (tgt := 50) hx hb dX4_fulfils_46 (by decide) ?_
            refine lv_istore (lv' := [(4, .int (1 : Int32)), (0, .ref h0), (1, .int x1), (2, .long x2), (5, .int x5)]) hx hb dX4_fulfils_50 hl (by decide) rfl (fun ls hl => ?_)
            refine lv_iinc (v := (x5 + 1)) (lv' := [(5, .int (x5 + 1)), (4, .int (1 : Int32)), (0, .ref h0), (1, .int x1), (2, .long x2)]) hx hb dX4_fulfils_52 hl (k := 4) rfl rfl (by decide) rfl (fun ls hl => ?_)
            refine lv_goto (tgt := 6) hx hb dX4_fulfils_55 (by decide) ?_
            exact ih x1 x2 (1 : Int32) (x5 + 1)  _ _ _ hP hS (lv_sub hl [2, 3, 4, 1, 0] rfl) hN
          · rw [if_neg c6] at hN
            refine lv_aload_n hx hb dX4_fulfils_31 rfl (lv_at hl 0 rfl) ?_
            refine lv_iload hx hb dX4_fulfils_32 (lv_at hl 4 rfl) ?_
            refine lv_iconst (v := 0) hx hb dX4_fulfils_34 (by decide) ?_
            obtain ⟨v7, hv7, hN⟩ := oB_spec hN
            refine k_iR hS (va_runV (As := [.int x5, .int (0 : Int32)]) (rest := []) ⟨hx, hb, hml, hown, hts⟩ (c_X4_of l g L hL G h0 r u hV x5 (0 : Int32) v7 hv7) (cwV 2 hts gX4_fulfils_X4_of rfl rfl rfl (by decide +kernel) ⟨Nat.le_of_ble_eq_true rfl, Nat.le_of_ble_eq_true rfl⟩) (k_preV hC hS hP (vO.m hV) (vO.o hV) rfl) rfl rfl hl.1 rfl (lv_room (Nat.le_of_ble_eq_true rfl)) dX4_fulfils_35 ⟨Nat.zero_le _, Nat.zero_le _⟩) (fun H locs hP hS => ?_)
            refine lv_iload_n hx hb dX4_fulfils_38 rfl (lv_at hl 1 rfl) ?_
            obtain ⟨v9, hv9, hN⟩ := oB_spec hN
            refine k_iR hS (va_runS (As := [.int v7, .int x1]) (rest := []) ⟨hx, hb, hml, hown, hts⟩ (c_X4_isFulfilled l g L hL G v7 x1 v9 hv9) (va_cwS 2 hts gX4_fulfils_X4_isFulfilled rfl rfl rfl (by decide +kernel) ⟨Nat.le_of_ble_eq_true rfl, Nat.le_of_ble_eq_true rfl⟩) (k_pre hC hS hP) rfl rfl hl.1 rfl (lv_room (Nat.le_of_ble_eq_true rfl)) dX4_fulfils_39 ⟨Nat.zero_le _, Nat.zero_le _⟩) (fun H locs hP hS => ?_)
            refine lv_if_eq (tgt := 49) hx hb dX4_fulfils_42 (by decide) (fun c11 => ?_) (fun c11 => ?_)
            · rw [if_pos c11] at hN
              refine lv_iconst (v := 0) hx hb dX4_fulfils_49 (by decide) ?_
              refine lv_istore (lv' := [(4, .int (0 : Int32)), (0, .ref h0), (1, .int x1), (2, .long x2), (5, .int x5)]) hx hb dX4_fulfils_50 hl (by decide) rfl (fun ls hl => ?_)
              refine lv_iinc (v := (x5 + 1)) (lv' := [(5, .int (x5 + 1)), (4, .int (0 : Int32)), (0, .ref h0), (1, .int x1), (2, .long x2)]) hx hb dX4_fulfils_52 hl (k := 4) rfl rfl (by decide) rfl (fun ls hl => ?_)
              refine lv_goto (tgt := 6) hx hb dX4_fulfils_55 (by decide) ?_
              exact ih x1 x2 (0 : Int32) (x5 + 1)  _ _ _ hP hS (lv_sub hl [2, 3, 4, 1, 0] rfl) hN
            · rw [if_neg c11] at hN
              refine lv_iconst (v := 1) hx hb dX4_fulfils_45 (by decide) ?_
              refine lv_goto (tgt := 50) hx hb dX4_fulfils_46 (by decide) ?_
              refine lv_istore (lv' := [(4, .int (1 : Int32)), (0, .ref h0), (1, .int x1), (2, .long x2), (5, .int x5)]) hx hb dX4_fulfils_50 hl (by decide) rfl (fun ls hl => ?_)
              refine lv_iinc (v := (x5 + 1)) (lv' := [(5, .int (x5 + 1)), (4, .int (1 : Int32)), (0, .ref h0), (1, .int x1), (2, .long x2)]) hx hb dX4_fulfils_52 hl (k := 4) rfl rfl (by decide) rfl (fun ls hl => ?_)
              refine lv_goto (tgt := 6) hx hb dX4_fulfils_55 (by decide) ?_
              exact ih x1 x2 (1 : Int32) (x5 + 1)  _ _ _ hP hS (lv_sub hl [2, 3, 4, 1, 0] rfl) hN
  have hl := lv_entry ([.ref h0, .int p0, .long p1]) (n := 6) (Nat.le_of_ble_eq_true rfl)
  rw [lg_entry_eq]
  generalize (lg_sl ([.ref h0, .int p0, .long p1]) ++ List.replicate (6 - (lg_sl ([.ref h0, .int p0, .long p1])).length) Slot.unset).toArray = ls at hl ⊢
  have hl : lv_has ls 6 [(0, .ref h0), (1, .int p0), (2, .long p1)] := hl
  have hN := hF
  unfold F_X4_fulfils at hN
  refine lv_iconst (v := 1) hx hb dX4_fulfils_0 (by decide) ?_
  refine lv_istore (lv' := [(4, .int (1 : Int32)), (0, .ref h0), (1, .int p0), (2, .long p1)]) hx hb dX4_fulfils_1 hl (by decide) rfl (fun ls hl => ?_)
  refine lv_iconst (v := 0) hx hb dX4_fulfils_3 (by decide) ?_
  refine lv_istore (lv' := [(5, .int (0 : Int32)), (4, .int (1 : Int32)), (0, .ref h0), (1, .int p0), (2, .long p1)]) hx hb dX4_fulfils_4 hl (by decide) rfl (fun ls hl => ?_)
  exact lp6 fuel p0 p1 (1 : Int32) (0 : Int32)  _ _ _ hP hS (lv_sub hl [2, 3, 4, 1, 0] rfl) hN
set_option maxHeartbeats 4000000 in
set_option maxRecDepth 100000 in
theorem c_X4_toldOnes (l : Launch) (g : Gm) (L : List Nat) {A : Nat → Prop} (hL : kL L A) (G : Nat → va_E) (h0 : Nat) (r : Nat → Nat) (u : St) (hV : vM g L G h0 r u) (v : Int64) (hF : F_X4_toldOnes u = some v) : Met l yX4_toldOnes wsX4_toldOnes ({ frames := 1, cells := 0, slots := 0, locals := 22 } : Room) (va_Pc [.ref h0] (kB g L A G)) (va_Ql (fun x9 (G9 : Nat → va_E) => x9 = v ∧ G9 = G) (kE g L) A) 0 0 A := by
  refine Met.ofW (cc := cX4_toldOnes) (maxL := 4) (ret := (some .long)) (by decide) rfl ?_
  intro p e s m args below meth c s₁ B hml hv
  obtain ⟨rfl, hP, hC⟩ := hv
  have hx := B.exec
  have hb := B.bytes
  have hr := B.returns
  have hts := atoms_spec (ws := wsX4_toldOnes) B.pre
  have hown : s.vm.findClass RX4 = some m.cls := findClass_of_methodNamed B.named
  have hlk := B.notSynchronized
  have hS : va_S A s.heap s.heap [] := va_S.rf
  have lp4 : ∀ (n : Nat) (x1 : Int64) (x3 : Int32) (H : Heap) (locs : List Loc) (ls : Array Slot), va_P g.1 vwCl (va_pl L G) H → va_S A s.heap H locs → lv_has ls 4 [(0, .ref h0), (1, .long x1), (3, .int x3)] → FL_X4_toldOnes_4 u n x1 x3 = some v → W p l e (headSpec wsX4_toldOnes ({ frames := 1, cells := 0, slots := 0, locals := 22 } : Room)).room s m ([.ref h0] : List Value).toArray below meth c H locs 0 0 (MQ below (va_Ql (fun x9 (G9 : Nat → va_E) => x9 = v ∧ G9 = G) (kE g L) A) ([.ref h0] : List Value).toArray s 0 0 A) (F0 m 4 ls []) := by
    intro n
    induction n with
    | zero =>
      intro x1 x3 H locs ls hP hS hl hN
      exact absurd hN (by simp [FL_X4_toldOnes_4])
    | succ n ih =>
      intro x1 x3 H locs ls hP hS hl hN
      rw [FL_X4_toldOnes_4] at hN
      refine lv_iload_n hx hb dX4_toldOnes_4 rfl (lv_at hl 2 rfl) ?_
      refine lv_aload_n hx hb dX4_toldOnes_5 rfl (lv_at hl 0 rfl) ?_
      refine k_get (C := RX4) (T := TX4) (N := 8) (ci := 4) (v := .ref (r 0)) hx hb hts (fun _ h => List.mem_cons_of_mem _ (List.mem_append_right _ h)) hown hC hP (vO.m hV) (vO.o hV) rfl 0 (by decide) (hts (.fieldLink RX4 7 "OrderedClausesModel" "s" "[I") (List.mem_of_getElem? (i := 1) rfl)) rfl dX4_toldOnes_6 ?_
      refine lv_iconst (v := 0) hx hb dX4_toldOnes_9 (by decide) ?_
      obtain ⟨v1, hv1, hN⟩ := oB_spec hN
      refine k_ildE hx hb hC hP (vO.rm hV 0 (by decide)) (vO.ri hV 0 (by decide)) hv1 dX4_toldOnes_10 ?_
      refine lv_icmp_ge (tgt := 39) hx hb dX4_toldOnes_11 (by decide) (fun c2 => ?_) (fun c2 => ?_)
      · rw [if_pos c2] at hN
        refine lv_lload_n hx hb dX4_toldOnes_39 rfl (lv_at hl 1 rfl) ?_
        exact k_lretR hx hb hr (Option.some.inj hN) hP hS hlk dX4_toldOnes_40
      · rw [if_neg c2] at hN
        refine lv_lload_n hx hb dX4_toldOnes_14 rfl (lv_at hl 1 rfl) ?_
        refine lv_aload_n hx hb dX4_toldOnes_15 rfl (lv_at hl 0 rfl) ?_
        refine lv_iload_n hx hb dX4_toldOnes_16 rfl (lv_at hl 2 rfl) ?_
        refine lv_iconst (v := 2) hx hb dX4_toldOnes_17 (by decide) ?_
        obtain ⟨v3, hv3, hN⟩ := oB_spec hN
        refine k_iR hS (va_runV (As := [.int x3, .int (2 : Int32)]) (rest := [.long x1]) ⟨hx, hb, hml, hown, hts⟩ (c_X4_of l g L hL G h0 r u hV x3 (2 : Int32) v3 hv3) (cwV 2 hts gX4_toldOnes_X4_of rfl rfl rfl (by decide +kernel) ⟨Nat.le_of_ble_eq_true rfl, Nat.le_of_ble_eq_true rfl⟩) (k_preV hC hS hP (vO.m hV) (vO.o hV) rfl) rfl rfl hl.1 rfl (lv_room (Nat.le_of_ble_eq_true rfl)) dX4_toldOnes_18 ⟨Nat.zero_le _, Nat.zero_le _⟩) (fun H locs hP hS => ?_)
        refine lv_if_ne (tgt := 30) hx hb dX4_toldOnes_21 (by decide) (fun c5 => ?_) (fun c5 => ?_)
        · rw [if_neg c5] at hN
          refine lv_lconst (v := 0) hx hb dX4_toldOnes_30 (by decide) ?_
          refine lv_lor hx hb dX4_toldOnes_31 ?_
          refine lv_lstore_n (lv' := [(1, .long (x1 ||| (0 : Int64))), (0, .ref h0), (3, .int x3)]) hx hb dX4_toldOnes_32 rfl hl (by decide) rfl (fun ls hl => ?_)
          refine lv_iinc (v := (x3 + 1)) (lv' := [(3, .int (x3 + 1)), (1, .long (x1 ||| (0 : Int64))), (0, .ref h0)]) hx hb dX4_toldOnes_33 hl (k := 2) rfl rfl (by decide) rfl (fun ls hl => ?_)
          refine lv_goto (tgt := 4) hx hb dX4_toldOnes_36 (by decide) ?_
          exact ih (x1 ||| (0 : Int64)) (x3 + 1)  _ _ _ hP hS (lv_sub hl [2, 1, 0] rfl) hN
        · rw [if_pos c5] at hN
          refine lv_lconst (v := 1) hx hb dX4_toldOnes_24 (by decide) ?_
          refine lv_iload_n hx hb dX4_toldOnes_25 rfl (lv_at hl 2 rfl) ?_
          refine lv_lshl hx hb dX4_toldOnes_26 rfl ?_
          refine lv_goto (tgt := 31) hx hb dX4_toldOnes_27 (by decide) ?_
          refine lv_lor hx hb dX4_toldOnes_31 ?_
          refine lv_lstore_n (lv' := [(1, .long (x1 ||| ((1 : Int64) <<< (Int32.toInt64 x3 &&& 63)))), (0, .ref h0), (3, .int x3)]) hx hb dX4_toldOnes_32 rfl hl (by decide) rfl (fun ls hl => ?_)
          refine lv_iinc (v := (x3 + 1)) (lv' := [(3, .int (x3 + 1)), (1, .long (x1 ||| ((1 : Int64) <<< (Int32.toInt64 x3 &&& 63)))), (0, .ref h0)]) hx hb dX4_toldOnes_33 hl (k := 2) rfl rfl (by decide) rfl (fun ls hl => ?_)
          refine lv_goto (tgt := 4) hx hb dX4_toldOnes_36 (by decide) ?_
          exact ih (x1 ||| ((1 : Int64) <<< (Int32.toInt64 x3 &&& 63))) (x3 + 1)  _ _ _ hP hS (lv_sub hl [2, 1, 0] rfl) hN
  have hl := lv_entry ([.ref h0]) (n := 4) (Nat.le_of_ble_eq_true rfl)
  rw [lg_entry_eq]
  generalize (lg_sl ([.ref h0]) ++ List.replicate (4 - (lg_sl ([.ref h0])).length) Slot.unset).toArray = ls at hl ⊢
  have hl : lv_has ls 4 [(0, .ref h0)] := hl
  have hN := hF
  unfold F_X4_toldOnes at hN
  refine lv_lconst (v := 0) hx hb dX4_toldOnes_0 (by decide) ?_
  refine lv_lstore_n (lv' := [(1, .long (0 : Int64)), (0, .ref h0)]) hx hb dX4_toldOnes_1 rfl hl (by decide) rfl (fun ls hl => ?_)
  refine lv_iconst (v := 0) hx hb dX4_toldOnes_2 (by decide) ?_
  refine lv_istore_n (lv' := [(3, .int (0 : Int32)), (1, .long (0 : Int64)), (0, .ref h0)]) hx hb dX4_toldOnes_3 rfl hl (by decide) rfl (fun ls hl => ?_)
  exact lp4 fuel (0 : Int64) (0 : Int32)  _ _ _ hP hS (lv_sub hl [2, 1, 0] rfl) hN
set_option maxHeartbeats 4000000 in
set_option maxRecDepth 100000 in
theorem c_X4_modelsOf (l : Launch) (g : Gm) (L : List Nat) {A : Nat → Prop} (hL : kL L A) (G : Nat → va_E) (h0 : Nat) (r : Nat → Nat) (u : St) (hV : vM g L G h0 r u) (p0 : Int64) (v : Int32) (hF : F_X4_modelsOf u p0 = some v) : Met l yX4_modelsOf wsX4_modelsOf ({ frames := 3, cells := 0, slots := 0, locals := 69 } : Room) (va_Pc [.ref h0, .long p0] (kB g L A G)) (va_Qi (fun x9 (G9 : Nat → va_E) => x9 = v ∧ G9 = G) (kE g L) A) 0 0 A := by
  refine Met.ofW (cc := cX4_modelsOf) (maxL := 5) (ret := (some .int)) (by decide) rfl ?_
  intro p e s m args below meth c s₁ B hml hv
  obtain ⟨rfl, hP, hC⟩ := hv
  have hx := B.exec
  have hb := B.bytes
  have hr := B.returns
  have hts := atoms_spec (ws := wsX4_modelsOf) B.pre
  have hown : s.vm.findClass RX4 = some m.cls := findClass_of_methodNamed B.named
  have hlk := B.notSynchronized
  have hS : va_S A s.heap s.heap [] := va_S.rf
  have lp5 : ∀ (n : Nat) (x1 : Int64) (x3 : Int32) (x4 : Int32) (H : Heap) (locs : List Loc) (ls : Array Slot), va_P g.1 vwCl (va_pl L G) H → va_S A s.heap H locs → lv_has ls 5 [(0, .ref h0), (1, .long x1), (3, .int x3), (4, .int x4)] → FL_X4_modelsOf_5 u n x1 x3 x4 = some v → W p l e (headSpec wsX4_modelsOf ({ frames := 3, cells := 0, slots := 0, locals := 69 } : Room)).room s m ([.ref h0, .long p0] : List Value).toArray below meth c H locs 0 0 (MQ below (va_Qi (fun x9 (G9 : Nat → va_E) => x9 = v ∧ G9 = G) (kE g L) A) ([.ref h0, .long p0] : List Value).toArray s 0 0 A) (F0 m 5 ls []) := by
    intro n
    induction n with
    | zero =>
      intro x1 x3 x4 H locs ls hP hS hl hN
      exact absurd hN (by simp [FL_X4_modelsOf_5])
    | succ n ih =>
      intro x1 x3 x4 H locs ls hP hS hl hN
      rw [FL_X4_modelsOf_5] at hN
      refine lv_iload hx hb dX4_modelsOf_5 (lv_at hl 3 rfl) ?_
      refine lv_bipush (v := 64) hx hb dX4_modelsOf_7 (by decide) ?_
      refine lv_icmp_ge (tgt := 36) hx hb dX4_modelsOf_9 (by decide) (fun c1 => ?_) (fun c1 => ?_)
      · rw [if_pos c1] at hN
        refine lv_iload_n hx hb dX4_modelsOf_36 rfl (lv_at hl 2 rfl) ?_
        exact k_iretR hx hb hr (Option.some.inj hN) hP hS hlk dX4_modelsOf_37
      · rw [if_neg c1] at hN
        refine lv_iload_n hx hb dX4_modelsOf_12 rfl (lv_at hl 2 rfl) ?_
        refine lv_aload_n hx hb dX4_modelsOf_13 rfl (lv_at hl 0 rfl) ?_
        refine lv_iload hx hb dX4_modelsOf_14 (lv_at hl 3 rfl) ?_
        refine lv_lload_n hx hb dX4_modelsOf_16 rfl (lv_at hl 1 rfl) ?_
        obtain ⟨v2, hv2, hN⟩ := oB_spec hN
        refine k_iR hS (va_runV (As := [.int x4, .long x1]) (rest := [.int x3]) ⟨hx, hb, hml, hown, hts⟩ (c_X4_fulfils l g L hL G h0 r u hV x4 x1 v2 hv2) (cwV 2 hts gX4_modelsOf_X4_fulfils rfl rfl rfl (by decide +kernel) ⟨Nat.le_of_ble_eq_true rfl, Nat.le_of_ble_eq_true rfl⟩) (k_preV hC hS hP (vO.m hV) (vO.o hV) rfl) rfl rfl hl.1 rfl (lv_room (Nat.le_of_ble_eq_true rfl)) dX4_modelsOf_17 ⟨Nat.zero_le _, Nat.zero_le _⟩) (fun H locs hP hS => ?_)
        refine lv_if_eq (tgt := 27) hx hb dX4_modelsOf_20 (by decide) (fun c4 => ?_) (fun c4 => ?_)
        · rw [if_pos c4] at hN
          refine lv_iconst (v := 0) hx hb dX4_modelsOf_27 (by decide) ?_
          refine lv_iadd hx hb dX4_modelsOf_28 ?_
          refine lv_istore_n (lv' := [(3, .int (x3 + (0 : Int32))), (0, .ref h0), (1, .long x1), (4, .int x4)]) hx hb dX4_modelsOf_29 rfl hl (by decide) rfl (fun ls hl => ?_)
          refine lv_iinc (v := (x4 + 1)) (lv' := [(4, .int (x4 + 1)), (3, .int (x3 + (0 : Int32))), (0, .ref h0), (1, .long x1)]) hx hb dX4_modelsOf_30 hl (k := 3) rfl rfl (by decide) rfl (fun ls hl => ?_)
          refine lv_goto (tgt := 5) hx hb dX4_modelsOf_33 (by decide) ?_
          exact ih x1 (x3 + (0 : Int32)) (x4 + 1)  _ _ _ hP hS (lv_sub hl [2, 3, 1, 0] rfl) hN
        · rw [if_neg c4] at hN
          refine lv_iconst (v := 1) hx hb dX4_modelsOf_23 (by decide) ?_
          refine lv_goto (tgt := 28) hx hb dX4_modelsOf_24 (by decide) ?_
          refine lv_iadd hx hb dX4_modelsOf_28 ?_
          refine lv_istore_n (lv' := [(3, .int (x3 + (1 : Int32))), (0, .ref h0), (1, .long x1), (4, .int x4)]) hx hb dX4_modelsOf_29 rfl hl (by decide) rfl (fun ls hl => ?_)
          refine lv_iinc (v := (x4 + 1)) (lv' := [(4, .int (x4 + 1)), (3, .int (x3 + (1 : Int32))), (0, .ref h0), (1, .long x1)]) hx hb dX4_modelsOf_30 hl (k := 3) rfl rfl (by decide) rfl (fun ls hl => ?_)
          refine lv_goto (tgt := 5) hx hb dX4_modelsOf_33 (by decide) ?_
          exact ih x1 (x3 + (1 : Int32)) (x4 + 1)  _ _ _ hP hS (lv_sub hl [2, 3, 1, 0] rfl) hN
  have hl := lv_entry ([.ref h0, .long p0]) (n := 5) (Nat.le_of_ble_eq_true rfl)
  rw [lg_entry_eq]
  generalize (lg_sl ([.ref h0, .long p0]) ++ List.replicate (5 - (lg_sl ([.ref h0, .long p0])).length) Slot.unset).toArray = ls at hl ⊢
  have hl : lv_has ls 5 [(0, .ref h0), (1, .long p0)] := hl
  have hN := hF
  unfold F_X4_modelsOf at hN
  refine lv_iconst (v := 0) hx hb dX4_modelsOf_0 (by decide) ?_
  refine lv_istore_n (lv' := [(3, .int (0 : Int32)), (0, .ref h0), (1, .long p0)]) hx hb dX4_modelsOf_1 rfl hl (by decide) rfl (fun ls hl => ?_)
  refine lv_iconst (v := 0) hx hb dX4_modelsOf_2 (by decide) ?_
  refine lv_istore (lv' := [(4, .int (0 : Int32)), (3, .int (0 : Int32)), (0, .ref h0), (1, .long p0)]) hx hb dX4_modelsOf_3 hl (by decide) rfl (fun ls hl => ?_)
  exact lp5 fuel p0 (0 : Int32) (0 : Int32)  _ _ _ hP hS (lv_sub hl [2, 3, 1, 0] rfl) hN
set_option maxHeartbeats 4000000 in
set_option maxRecDepth 100000 in
theorem c_X4_models (l : Launch) (g : Gm) (L : List Nat) {A : Nat → Prop} (hL : kL L A) (G : Nat → va_E) (h0 : Nat) (r : Nat → Nat) (u : St) (hV : vM g L G h0 r u) (v : Int32) (hF : F_X4_models u = some v) : Met l yX4_models wsX4_models ({ frames := 4, cells := 0, slots := 0, locals := 93 } : Room) (va_Pc [.ref h0] (kB g L A G)) (va_Qi (fun x9 (G9 : Nat → va_E) => x9 = v ∧ G9 = G) (kE g L) A) 0 0 A := by
  refine Met.ofW (cc := cX4_models) (maxL := 1) (ret := (some .int)) (by decide) rfl ?_
  intro p e s m args below meth c s₁ B hml hv
  obtain ⟨rfl, hP, hC⟩ := hv
  have hx := B.exec
  have hb := B.bytes
  have hr := B.returns
  have hts := atoms_spec (ws := wsX4_models) B.pre
  have hown : s.vm.findClass RX4 = some m.cls := findClass_of_methodNamed B.named
  have hlk := B.notSynchronized
  have hS : va_S A s.heap s.heap [] := va_S.rf
  have hl := lv_entry ([.ref h0]) (n := 1) (Nat.le_of_ble_eq_true rfl)
  rw [lg_entry_eq]
  generalize (lg_sl ([.ref h0]) ++ List.replicate (1 - (lg_sl ([.ref h0])).length) Slot.unset).toArray = ls at hl ⊢
  have hl : lv_has ls 1 [(0, .ref h0)] := hl
  have hN := hF
  unfold F_X4_models at hN
  refine lv_aload_n hx hb dX4_models_0 rfl (lv_at hl 0 rfl) ?_
  refine lv_aload_n hx hb dX4_models_1 rfl (lv_at hl 0 rfl) ?_
  obtain ⟨v1, hv1, hN⟩ := oB_spec hN
  refine k_lR hS (va_runV (As := []) (rest := [.ref h0]) ⟨hx, hb, hml, hown, hts⟩ (c_X4_toldOnes l g L hL G h0 r u hV v1 hv1) (cwV 0 hts gX4_models_X4_toldOnes rfl rfl rfl (by decide +kernel) ⟨Nat.le_of_ble_eq_true rfl, Nat.le_of_ble_eq_true rfl⟩) (k_preV hC hS hP (vO.m hV) (vO.o hV) rfl) rfl rfl hl.1 rfl (lv_room (Nat.le_of_ble_eq_true rfl)) dX4_models_2 ⟨Nat.zero_le _, Nat.zero_le _⟩) (fun H locs hP hS => ?_)
  obtain ⟨v3, hv3, hN⟩ := oB_spec hN
  refine k_iR hS (va_runV (As := [.long v1]) (rest := []) ⟨hx, hb, hml, hown, hts⟩ (c_X4_modelsOf l g L hL G h0 r u hV v1 v3 hv3) (cwV 1 hts gX4_models_X4_modelsOf rfl rfl rfl (by decide +kernel) ⟨Nat.le_of_ble_eq_true rfl, Nat.le_of_ble_eq_true rfl⟩) (k_preV hC hS hP (vO.m hV) (vO.o hV) rfl) rfl rfl hl.1 rfl (lv_room (Nat.le_of_ble_eq_true rfl)) dX4_models_5 ⟨Nat.zero_le _, Nat.zero_le _⟩) (fun H locs hP hS => ?_)
  exact k_iretR hx hb hr (Option.some.inj hN) hP hS hlk dX4_models_8
set_option maxHeartbeats 4000000 in
set_option maxRecDepth 100000 in
theorem c_X4_model (l : Launch) (g : Gm) (L : List Nat) {A : Nat → Prop} (hL : kL L A) (G : Nat → va_E) (h0 : Nat) (r : Nat → Nat) (u : St) (hV : vM g L G h0 r u) (p0 : Int32) (v : Int32) (hF : F_X4_model u p0 = some v) : Met l yX4_model wsX4_model ({ frames := 3, cells := 0, slots := 0, locals := 69 } : Room) (va_Pc [.ref h0, .int p0] (kB g L A G)) (va_Qi (fun x9 (G9 : Nat → va_E) => x9 = v ∧ G9 = G) (kE g L) A) 0 0 A := by
  refine Met.ofW (cc := cX4_model) (maxL := 7) (ret := (some .int)) (by decide) rfl ?_
  intro p e s m args below meth c s₁ B hml hv
  obtain ⟨rfl, hP, hC⟩ := hv
  have hx := B.exec
  have hb := B.bytes
  have hr := B.returns
  have hts := atoms_spec (ws := wsX4_model) B.pre
  have hown : s.vm.findClass RX4 = some m.cls := findClass_of_methodNamed B.named
  have hlk := B.notSynchronized
  have hS : va_S A s.heap s.heap [] := va_S.rf
  have lp18 : ∀ (n : Nat) (x1 : Int32) (x2 : Int64) (x4 : Int32) (x5 : Int32) (H : Heap) (locs : List Loc) (ls : Array Slot), va_P g.1 vwCl (va_pl L G) H → va_S A s.heap H locs → lv_has ls 7 [(0, .ref h0), (1, .int x1), (2, .long x2), (4, .int x4), (5, .int x5)] → FL_X4_model_18 u n x1 x2 x4 x5 = some v → W p l e (headSpec wsX4_model ({ frames := 3, cells := 0, slots := 0, locals := 69 } : Room)).room s m ([.ref h0, .int p0] : List Value).toArray below meth c H locs 0 0 (MQ below (va_Qi (fun x9 (G9 : Nat → va_E) => x9 = v ∧ G9 = G) (kE g L) A) ([.ref h0, .int p0] : List Value).toArray s 0 0 A) (F0 m 18 ls []) := by
    intro n
    induction n with
    | zero =>
      intro x1 x2 x4 x5 H locs ls hP hS hl hN
      exact absurd hN (by simp [FL_X4_model_18])
    | succ n ih =>
      intro x1 x2 x4 x5 H locs ls hP hS hl hN
      rw [FL_X4_model_18] at hN
      refine lv_iload hx hb dX4_model_18 (lv_at hl 4 rfl) ?_
      refine lv_bipush (v := 64) hx hb dX4_model_20 (by decide) ?_
      refine lv_icmp_ge (tgt := 69) hx hb dX4_model_22 (by decide) (fun c4 => ?_) (fun c4 => ?_)
      · rw [if_pos c4] at hN
        refine lv_ldc (v := (-1000004)) hx hb hown (hts (.constant RX4 106 (-1000004)) (List.mem_of_getElem? (i := 2) rfl)) dX4_model_69 ?_
        exact k_iretR hx hb hr (Option.some.inj hN) hP hS hlk dX4_model_71
      · rw [if_neg c4] at hN
        refine lv_aload_n hx hb dX4_model_25 rfl (lv_at hl 0 rfl) ?_
        refine lv_iload hx hb dX4_model_26 (lv_at hl 4 rfl) ?_
        refine lv_lload_n hx hb dX4_model_28 rfl (lv_at hl 2 rfl) ?_
        obtain ⟨v5, hv5, hN⟩ := oB_spec hN
        refine k_iR hS (va_runV (As := [.int x5, .long x2]) (rest := []) ⟨hx, hb, hml, hown, hts⟩ (c_X4_fulfils l g L hL G h0 r u hV x5 x2 v5 hv5) (cwV 2 hts gX4_model_X4_fulfils rfl rfl rfl (by decide +kernel) ⟨Nat.le_of_ble_eq_true rfl, Nat.le_of_ble_eq_true rfl⟩) (k_preV hC hS hP (vO.m hV) (vO.o hV) rfl) rfl rfl hl.1 rfl (lv_room (Nat.le_of_ble_eq_true rfl)) dX4_model_29 ⟨Nat.zero_le _, Nat.zero_le _⟩) (fun H locs hP hS => ?_)
        refine lv_istore (lv' := [(6, .int v5), (0, .ref h0), (1, .int x1), (2, .long x2), (4, .int x4), (5, .int x5)]) hx hb dX4_model_32 hl (by decide) rfl (fun ls hl => ?_)
        refine lv_iload hx hb dX4_model_34 (lv_at hl 0 rfl) ?_
        refine lv_if_eq (tgt := 48) hx hb dX4_model_36 (by decide) (fun c7 => ?_) (fun c7 => ?_)
        · rw [if_pos c7] at hN
          refine lv_iload hx hb dX4_model_48 (lv_at hl 4 rfl) ?_
          refine lv_iload hx hb dX4_model_50 (lv_at hl 0 rfl) ?_
          refine lv_if_eq (tgt := 59) hx hb dX4_model_52 (by decide) (fun c8 => ?_) (fun c8 => ?_)
          · rw [if_pos c8] at hN
            refine lv_iconst (v := 0) hx hb dX4_model_59 (by decide) ?_
            refine lv_iadd hx hb dX4_model_60 ?_
            refine lv_istore (lv' := [(4, .int (x4 + (0 : Int32))), (6, .int v5), (0, .ref h0), (1, .int x1), (2, .long x2), (5, .int x5)]) hx hb dX4_model_61 hl (by decide) rfl (fun ls hl => ?_)
            refine lv_iinc (v := (x5 + 1)) (lv' := [(5, .int (x5 + 1)), (4, .int (x4 + (0 : Int32))), (6, .int v5), (0, .ref h0), (1, .int x1), (2, .long x2)]) hx hb dX4_model_63 hl (k := 5) rfl rfl (by decide) rfl (fun ls hl => ?_)
            refine lv_goto (tgt := 18) hx hb dX4_model_66 (by decide) ?_
            exact ih x1 x2 (x4 + (0 : Int32)) (x5 + 1)  _ _ _ hP hS (lv_sub hl [3, 4, 5, 1, 0] rfl) hN
          · rw [if_neg c8] at hN
            refine lv_iconst (v := 1) hx hb dX4_model_55 (by decide) ?_
            refine lv_goto (tgt := 60) hx hb dX4_model_56 (by decide) ?_
            refine lv_iadd hx hb dX4_model_60 ?_
            refine lv_istore (lv' := [(4, .int (x4 + (1 : Int32))), (6, .int v5), (0, .ref h0), (1, .int x1), (2, .long x2), (5, .int x5)]) hx hb dX4_model_61 hl (by decide) rfl (fun ls hl => ?_)
            refine lv_iinc (v := (x5 + 1)) (lv' := [(5, .int (x5 + 1)), (4, .int (x4 + (1 : Int32))), (6, .int v5), (0, .ref h0), (1, .int x1), (2, .long x2)]) hx hb dX4_model_63 hl (k := 5) rfl rfl (by decide) rfl (fun ls hl => ?_)
            refine lv_goto (tgt := 18) hx hb dX4_model_66 (by decide) ?_
            exact ih x1 x2 (x4 + (1 : Int32)) (x5 + 1)  _ _ _ hP hS (lv_sub hl [3, 4, 5, 1, 0] rfl) hN
        · rw [if_neg c7] at hN
          refine lv_iload hx hb dX4_model_39 (lv_at hl 4 rfl) ?_
          refine lv_iload_n hx hb dX4_model_41 rfl (lv_at hl 2 rfl) ?_
          refine lv_icmp_ne (tgt := 48) hx hb dX4_model_42 (by decide) (fun c9 => ?_) (fun c9 => ?_)
          · rw [if_neg c9] at hN
            refine lv_iload hx hb dX4_model_48 (lv_at hl 4 rfl) ?_
            refine lv_iload hx hb dX4_model_50 (lv_at hl 0 rfl) ?_
            refine lv_if_eq (tgt := 59) hx hb dX4_model_52 (by decide) (fun c10 => ?_) (fun c10 => ?_)
            · rw [if_pos c10] at hN
              refine lv_iconst (v := 0) hx hb dX4_model_59 (by decide) ?_
              refine lv_iadd hx hb dX4_model_60 ?_
              refine lv_istore (lv' := [(4, .int (x4 + (0 : Int32))), (6, .int v5), (0, .ref h0), (1, .int x1), (2, .long x2), (5, .int x5)]) hx hb dX4_model_61 hl (by decide) rfl (fun ls hl => ?_)
              refine lv_iinc (v := (x5 + 1)) (lv' := [(5, .int (x5 + 1)), (4, .int (x4 + (0 : Int32))), (6, .int v5), (0, .ref h0), (1, .int x1), (2, .long x2)]) hx hb dX4_model_63 hl (k := 5) rfl rfl (by decide) rfl (fun ls hl => ?_)
              refine lv_goto (tgt := 18) hx hb dX4_model_66 (by decide) ?_
              exact ih x1 x2 (x4 + (0 : Int32)) (x5 + 1)  _ _ _ hP hS (lv_sub hl [3, 4, 5, 1, 0] rfl) hN
            · rw [if_neg c10] at hN
              refine lv_iconst (v := 1) hx hb dX4_model_55 (by decide) ?_
              refine lv_goto (tgt := 60) hx hb dX4_model_56 (by decide) ?_
              refine lv_iadd hx hb dX4_model_60 ?_
              refine lv_istore (lv' := [(4, .int (x4 + (1 : Int32))), (6, .int v5), (0, .ref h0), (1, .int x1), (2, .long x2), (5, .int x5)]) hx hb dX4_model_61 hl (by decide) rfl (fun ls hl => ?_)
              refine lv_iinc (v := (x5 + 1)) (lv' := [(5, .int (x5 + 1)), (4, .int (x4 + (1 : Int32))), (6, .int v5), (0, .ref h0), (1, .int x1), (2, .long x2)]) hx hb dX4_model_63 hl (k := 5) rfl rfl (by decide) rfl (fun ls hl => ?_)
              refine lv_goto (tgt := 18) hx hb dX4_model_66 (by decide) ?_
              exact ih x1 x2 (x4 + (1 : Int32)) (x5 + 1)  _ _ _ hP hS (lv_sub hl [3, 4, 5, 1, 0] rfl) hN
          · rw [if_pos c9] at hN
            refine lv_iload hx hb dX4_model_45 (lv_at hl 5 rfl) ?_
            exact k_iretR hx hb hr (Option.some.inj hN) hP hS hlk dX4_model_47
  have hl := lv_entry ([.ref h0, .int p0]) (n := 7) (Nat.le_of_ble_eq_true rfl)
  rw [lg_entry_eq]
  generalize (lg_sl ([.ref h0, .int p0]) ++ List.replicate (7 - (lg_sl ([.ref h0, .int p0])).length) Slot.unset).toArray = ls at hl ⊢
  have hl : lv_has ls 7 [(0, .ref h0), (1, .int p0)] := hl
  have hN := hF
  unfold F_X4_model at hN
  refine lv_iload_n hx hb dX4_model_0 rfl (lv_at hl 1 rfl) ?_
  refine lv_if_ge (tgt := 7) hx hb dX4_model_1 (by decide) (fun c1 => ?_) (fun c1 => ?_)
  · rw [if_pos c1] at hN
    refine lv_aload_n hx hb dX4_model_7 rfl (lv_at hl 0 rfl) ?_
    obtain ⟨v2, hv2, hN⟩ := oB_spec hN
    refine k_lR hS (va_runV (As := []) (rest := []) ⟨hx, hb, hml, hown, hts⟩ (c_X4_toldOnes l g L hL G h0 r u hV v2 hv2) (cwV 0 hts gX4_model_X4_toldOnes rfl rfl rfl (by decide +kernel) ⟨Nat.le_of_ble_eq_true rfl, Nat.le_of_ble_eq_true rfl⟩) (k_preV hC hS hP (vO.m hV) (vO.o hV) rfl) rfl rfl hl.1 rfl (lv_room (Nat.le_of_ble_eq_true rfl)) dX4_model_8 ⟨Nat.zero_le _, Nat.zero_le _⟩) (fun H locs hP hS => ?_)
    refine lv_lstore_n (lv' := [(2, .long v2), (0, .ref h0), (1, .int p0)]) hx hb dX4_model_11 rfl hl (by decide) rfl (fun ls hl => ?_)
    refine lv_iconst (v := 0) hx hb dX4_model_12 (by decide) ?_
    refine lv_istore (lv' := [(4, .int (0 : Int32)), (2, .long v2), (0, .ref h0), (1, .int p0)]) hx hb dX4_model_13 hl (by decide) rfl (fun ls hl => ?_)
    refine lv_iconst (v := 0) hx hb dX4_model_15 (by decide) ?_
    refine lv_istore (lv' := [(5, .int (0 : Int32)), (4, .int (0 : Int32)), (2, .long v2), (0, .ref h0), (1, .int p0)]) hx hb dX4_model_16 hl (by decide) rfl (fun ls hl => ?_)
    exact lp18 fuel p0 v2 (0 : Int32) (0 : Int32)  _ _ _ hP hS (lv_sub hl [3, 4, 2, 1, 0] rfl) hN
  · rw [if_neg c1] at hN
    refine lv_ldc (v := (-1000001)) hx hb hown (hts (.constant RX4 22 (-1000001)) (List.mem_of_getElem? (i := 1) rfl)) dX4_model_4 ?_
    exact k_iretR hx hb hr (Option.some.inj hN) hP hS hlk dX4_model_6
set_option maxHeartbeats 4000000 in
set_option maxRecDepth 100000 in
theorem c_X4_broken (l : Launch) (g : Gm) (L : List Nat) {A : Nat → Prop} (hL : kL L A) (G : Nat → va_E) (h0 : Nat) (r : Nat → Nat) (u : St) (hV : vM g L G h0 r u) (p0 : Int32) (v : Int64) (hF : F_X4_broken u p0 = some v) : Met l yX4_broken wsX4_broken ({ frames := 2, cells := 0, slots := 0, locals := 44 } : Room) (va_Pc [.ref h0, .int p0] (kB g L A G)) (va_Ql (fun x9 (G9 : Nat → va_E) => x9 = v ∧ G9 = G) (kE g L) A) 0 0 A := by
  refine Met.ofW (cc := cX4_broken) (maxL := 5) (ret := (some .long)) (by decide) rfl ?_
  intro p e s m args below meth c s₁ B hml hv
  obtain ⟨rfl, hP, hC⟩ := hv
  have hx := B.exec
  have hb := B.bytes
  have hr := B.returns
  have hts := atoms_spec (ws := wsX4_broken) B.pre
  have hown : s.vm.findClass RX4 = some m.cls := findClass_of_methodNamed B.named
  have hlk := B.notSynchronized
  have hS : va_S A s.heap s.heap [] := va_S.rf
  have lp19 : ∀ (n : Nat) (x1 : Int32) (x2 : Int64) (x4 : Int32) (H : Heap) (locs : List Loc) (ls : Array Slot), va_P g.1 vwCl (va_pl L G) H → va_S A s.heap H locs → lv_has ls 5 [(0, .ref h0), (1, .int x1), (2, .long x2), (4, .int x4)] → FL_X4_broken_19 u n x1 x2 x4 = some v → W p l e (headSpec wsX4_broken ({ frames := 2, cells := 0, slots := 0, locals := 44 } : Room)).room s m ([.ref h0, .int p0] : List Value).toArray below meth c H locs 0 0 (MQ below (va_Ql (fun x9 (G9 : Nat → va_E) => x9 = v ∧ G9 = G) (kE g L) A) ([.ref h0, .int p0] : List Value).toArray s 0 0 A) (F0 m 19 ls []) := by
    intro n
    induction n with
    | zero =>
      intro x1 x2 x4 H locs ls hP hS hl hN
      exact absurd hN (by simp [FL_X4_broken_19])
    | succ n ih =>
      intro x1 x2 x4 H locs ls hP hS hl hN
      rw [FL_X4_broken_19] at hN
      refine lv_iload hx hb dX4_broken_19 (lv_at hl 3 rfl) ?_
      refine lv_aload_n hx hb dX4_broken_21 rfl (lv_at hl 0 rfl) ?_
      refine k_get (C := RX4) (T := TX4) (N := 8) (ci := 4) (v := .ref (r 0)) hx hb hts (fun _ h => List.mem_cons_of_mem _ (List.mem_append_right _ h)) hown hC hP (vO.m hV) (vO.o hV) rfl 0 (by decide) (hts (.fieldLink RX4 7 "OrderedClausesModel" "s" "[I") (List.mem_of_getElem? (i := 2) rfl)) rfl dX4_broken_22 ?_
      refine lv_iconst (v := 0) hx hb dX4_broken_25 (by decide) ?_
      obtain ⟨v4, hv4, hN⟩ := oB_spec hN
      refine k_ildE hx hb hC hP (vO.rm hV 0 (by decide)) (vO.ri hV 0 (by decide)) hv4 dX4_broken_26 ?_
      refine lv_icmp_ge (tgt := 70) hx hb dX4_broken_27 (by decide) (fun c5 => ?_) (fun c5 => ?_)
      · rw [if_pos c5] at hN
        refine lv_lload_n hx hb dX4_broken_70 rfl (lv_at hl 2 rfl) ?_
        exact k_lretR hx hb hr (Option.some.inj hN) hP hS hlk dX4_broken_71
      · rw [if_neg c5] at hN
        refine lv_lload_n hx hb dX4_broken_30 rfl (lv_at hl 2 rfl) ?_
        refine lv_aload_n hx hb dX4_broken_31 rfl (lv_at hl 0 rfl) ?_
        refine lv_iload hx hb dX4_broken_32 (lv_at hl 3 rfl) ?_
        obtain ⟨v6, hv6, hN⟩ := oB_spec hN
        refine k_iR hS (va_runV (As := [.int x4]) (rest := [.long x2]) ⟨hx, hb, hml, hown, hts⟩ (c_X4_isKept l g L hL G h0 r u hV x4 v6 hv6) (cwV 1 hts gX4_broken_X4_isKept rfl rfl rfl (by decide +kernel) ⟨Nat.le_of_ble_eq_true rfl, Nat.le_of_ble_eq_true rfl⟩) (k_preV hC hS hP (vO.m hV) (vO.o hV) rfl) rfl rfl hl.1 rfl (lv_room (Nat.le_of_ble_eq_true rfl)) dX4_broken_34 ⟨Nat.zero_le _, Nat.zero_le _⟩) (fun H locs hP hS => ?_)
        refine lv_if_eq (tgt := 61) hx hb dX4_broken_37 (by decide) (fun c8 => ?_) (fun c8 => ?_)
        · rw [if_pos c8] at hN
          refine lv_lconst (v := 0) hx hb dX4_broken_61 (by decide) ?_
          refine lv_lor hx hb dX4_broken_62 ?_
          refine lv_lstore_n (lv' := [(2, .long (x2 ||| (0 : Int64))), (0, .ref h0), (1, .int x1), (4, .int x4)]) hx hb dX4_broken_63 rfl hl (by decide) rfl (fun ls hl => ?_)
          refine lv_iinc (v := (x4 + 1)) (lv' := [(4, .int (x4 + 1)), (2, .long (x2 ||| (0 : Int64))), (0, .ref h0), (1, .int x1)]) hx hb dX4_broken_64 hl (k := 3) rfl rfl (by decide) rfl (fun ls hl => ?_)
          refine lv_goto (tgt := 19) hx hb dX4_broken_67 (by decide) ?_
          exact ih x1 (x2 ||| (0 : Int64)) (x4 + 1)  _ _ _ hP hS (lv_sub hl [2, 3, 1, 0] rfl) hN
        · rw [if_neg c8] at hN
          refine lv_aload_n hx hb dX4_broken_40 rfl (lv_at hl 0 rfl) ?_
          refine lv_iload hx hb dX4_broken_41 (lv_at hl 3 rfl) ?_
          refine lv_iconst (v := 0) hx hb dX4_broken_43 (by decide) ?_
          obtain ⟨v9, hv9, hN⟩ := oB_spec hN
          refine k_iR hS (va_runV (As := [.int x4, .int (0 : Int32)]) (rest := [.long x2]) ⟨hx, hb, hml, hown, hts⟩ (c_X4_of l g L hL G h0 r u hV x4 (0 : Int32) v9 hv9) (cwV 2 hts gX4_broken_X4_of rfl rfl rfl (by decide +kernel) ⟨Nat.le_of_ble_eq_true rfl, Nat.le_of_ble_eq_true rfl⟩) (k_preV hC hS hP (vO.m hV) (vO.o hV) rfl) rfl rfl hl.1 rfl (lv_room (Nat.le_of_ble_eq_true rfl)) dX4_broken_44 ⟨Nat.zero_le _, Nat.zero_le _⟩) (fun H locs hP hS => ?_)
          refine lv_iload_n hx hb dX4_broken_47 rfl (lv_at hl 1 rfl) ?_
          obtain ⟨v11, hv11, hN⟩ := oB_spec hN
          refine k_iR hS (va_runS (As := [.int v9, .int x1]) (rest := [.long x2]) ⟨hx, hb, hml, hown, hts⟩ (c_X4_isFulfilled l g L hL G v9 x1 v11 hv11) (va_cwS 2 hts gX4_broken_X4_isFulfilled rfl rfl rfl (by decide +kernel) ⟨Nat.le_of_ble_eq_true rfl, Nat.le_of_ble_eq_true rfl⟩) (k_pre hC hS hP) rfl rfl hl.1 rfl (lv_room (Nat.le_of_ble_eq_true rfl)) dX4_broken_48 ⟨Nat.zero_le _, Nat.zero_le _⟩) (fun H locs hP hS => ?_)
          refine lv_if_ne (tgt := 61) hx hb dX4_broken_51 (by decide) (fun c13 => ?_) (fun c13 => ?_)
          · rw [if_neg c13] at hN
            refine lv_lconst (v := 0) hx hb dX4_broken_61 (by decide) ?_
            refine lv_lor hx hb dX4_broken_62 ?_
            refine lv_lstore_n (lv' := [(2, .long (x2 ||| (0 : Int64))), (0, .ref h0), (1, .int x1), (4, .int x4)]) hx hb dX4_broken_63 rfl hl (by decide) rfl (fun ls hl => ?_)
            refine lv_iinc (v := (x4 + 1)) (lv' := [(4, .int (x4 + 1)), (2, .long (x2 ||| (0 : Int64))), (0, .ref h0), (1, .int x1)]) hx hb dX4_broken_64 hl (k := 3) rfl rfl (by decide) rfl (fun ls hl => ?_)
            refine lv_goto (tgt := 19) hx hb dX4_broken_67 (by decide) ?_
            exact ih x1 (x2 ||| (0 : Int64)) (x4 + 1)  _ _ _ hP hS (lv_sub hl [2, 3, 1, 0] rfl) hN
          · rw [if_pos c13] at hN
            refine lv_lconst (v := 1) hx hb dX4_broken_54 (by decide) ?_
            refine lv_iload hx hb dX4_broken_55 (lv_at hl 3 rfl) ?_
            refine lv_lshl hx hb dX4_broken_57 rfl ?_
            refine lv_goto (tgt := 62) hx hb dX4_broken_58 (by decide) ?_
            refine lv_lor hx hb dX4_broken_62 ?_
            refine lv_lstore_n (lv' := [(2, .long (x2 ||| ((1 : Int64) <<< (Int32.toInt64 x4 &&& 63)))), (0, .ref h0), (1, .int x1), (4, .int x4)]) hx hb dX4_broken_63 rfl hl (by decide) rfl (fun ls hl => ?_)
            refine lv_iinc (v := (x4 + 1)) (lv' := [(4, .int (x4 + 1)), (2, .long (x2 ||| ((1 : Int64) <<< (Int32.toInt64 x4 &&& 63)))), (0, .ref h0), (1, .int x1)]) hx hb dX4_broken_64 hl (k := 3) rfl rfl (by decide) rfl (fun ls hl => ?_)
            refine lv_goto (tgt := 19) hx hb dX4_broken_67 (by decide) ?_
            exact ih x1 (x2 ||| ((1 : Int64) <<< (Int32.toInt64 x4 &&& 63))) (x4 + 1)  _ _ _ hP hS (lv_sub hl [2, 3, 1, 0] rfl) hN
  have hl := lv_entry ([.ref h0, .int p0]) (n := 5) (Nat.le_of_ble_eq_true rfl)
  rw [lg_entry_eq]
  generalize (lg_sl ([.ref h0, .int p0]) ++ List.replicate (5 - (lg_sl ([.ref h0, .int p0])).length) Slot.unset).toArray = ls at hl ⊢
  have hl : lv_has ls 5 [(0, .ref h0), (1, .int p0)] := hl
  have hN := hF
  unfold F_X4_broken at hN
  refine lv_iload_n hx hb dX4_broken_0 rfl (lv_at hl 1 rfl) ?_
  refine lv_iconst (v := 0) hx hb dX4_broken_1 (by decide) ?_
  refine lv_bipush (v := 63) hx hb dX4_broken_2 (by decide) ?_
  obtain ⟨v1, hv1, hN⟩ := oB_spec hN
  refine k_iR hS (va_runS (As := [.int p0, .int (0 : Int32), .int (63 : Int32)]) (rest := []) ⟨hx, hb, hml, hown, hts⟩ (c_X4_in l g L hL G p0 (0 : Int32) (63 : Int32) v1 hv1) (va_cwS 3 hts gX4_broken_X4_in rfl rfl rfl (by decide +kernel) ⟨Nat.le_of_ble_eq_true rfl, Nat.le_of_ble_eq_true rfl⟩) (k_pre hC hS hP) rfl rfl hl.1 rfl (lv_room (Nat.le_of_ble_eq_true rfl)) dX4_broken_4 ⟨Nat.zero_le _, Nat.zero_le _⟩) (fun H locs hP hS => ?_)
  refine lv_if_ne (tgt := 14) hx hb dX4_broken_7 (by decide) (fun c3 => ?_) (fun c3 => ?_)
  · rw [if_neg c3] at hN
    refine lv_lconst (v := 0) hx hb dX4_broken_14 (by decide) ?_
    refine lv_lstore_n (lv' := [(2, .long (0 : Int64)), (0, .ref h0), (1, .int p0)]) hx hb dX4_broken_15 rfl hl (by decide) rfl (fun ls hl => ?_)
    refine lv_iconst (v := 0) hx hb dX4_broken_16 (by decide) ?_
    refine lv_istore (lv' := [(4, .int (0 : Int32)), (2, .long (0 : Int64)), (0, .ref h0), (1, .int p0)]) hx hb dX4_broken_17 hl (by decide) rfl (fun ls hl => ?_)
    exact lp19 fuel p0 (0 : Int64) (0 : Int32)  _ _ _ hP hS (lv_sub hl [2, 3, 1, 0] rfl) hN
  · rw [if_pos c3] at hN
    refine lv_ldc2 (v := (-1000001)) hx hb hown (hts (.constantLong RX4 124 (-1000001)) (List.mem_of_getElem? (i := 1) rfl)) dX4_broken_10 ?_
    exact k_lretR hx hb hr (Option.some.inj hN) hP hS hlk dX4_broken_13
set_option maxHeartbeats 4000000 in
set_option maxRecDepth 100000 in
theorem c_X4_core (l : Launch) (g : Gm) (L : List Nat) {A : Nat → Prop} (hL : kL L A) (G : Nat → va_E) (h0 : Nat) (r : Nat → Nat) (u : St) (hV : vM g L G h0 r u) (v : Int64) (hF : F_X4_core u = some v) : Met l yX4_core wsX4_core ({ frames := 4, cells := 0, slots := 0, locals := 93 } : Room) (va_Pc [.ref h0] (kB g L A G)) (va_Ql (fun x9 (G9 : Nat → va_E) => x9 = v ∧ G9 = G) (kE g L) A) 0 0 A := by
  refine Met.ofW (cc := cX4_core) (maxL := 6) (ret := (some .long)) (by decide) rfl ?_
  intro p e s m args below meth c s₁ B hml hv
  obtain ⟨rfl, hP, hC⟩ := hv
  have hx := B.exec
  have hb := B.bytes
  have hr := B.returns
  have hts := atoms_spec (ws := wsX4_core) B.pre
  have hown : s.vm.findClass RX4 = some m.cls := findClass_of_methodNamed B.named
  have hlk := B.notSynchronized
  have hS : va_S A s.heap s.heap [] := va_S.rf
  have lp19 : ∀ (n : Nat) (x1 : Int64) (x3 : Int32) (H : Heap) (locs : List Loc) (ls : Array Slot), va_P g.1 vwCl (va_pl L G) H → va_S A s.heap H locs → lv_has ls 6 [(0, .ref h0), (1, .long x1), (3, .int x3)] → FL_X4_core_19 u n x1 x3 = some v → W p l e (headSpec wsX4_core ({ frames := 4, cells := 0, slots := 0, locals := 93 } : Room)).room s m ([.ref h0] : List Value).toArray below meth c H locs 0 0 (MQ below (va_Ql (fun x9 (G9 : Nat → va_E) => x9 = v ∧ G9 = G) (kE g L) A) ([.ref h0] : List Value).toArray s 0 0 A) (F0 m 19 ls []) := by
    intro n
    induction n with
    | zero =>
      intro x1 x3 H locs ls hP hS hl hN
      exact absurd hN (by simp [FL_X4_core_19])
    | succ n ih =>
      intro x1 x3 H locs ls hP hS hl hN
      rw [FL_X4_core_19] at hN
      refine lv_iload_n hx hb dX4_core_19 rfl (lv_at hl 2 rfl) ?_
      refine lv_aload_n hx hb dX4_core_20 rfl (lv_at hl 0 rfl) ?_
      refine k_get (C := RX4) (T := TX4) (N := 8) (ci := 4) (v := .ref (r 0)) hx hb hts (fun _ h => List.mem_cons_of_mem _ (List.mem_append_right _ h)) hown hC hP (vO.m hV) (vO.o hV) rfl 0 (by decide) (hts (.fieldLink RX4 7 "OrderedClausesModel" "s" "[I") (List.mem_of_getElem? (i := 2) rfl)) rfl dX4_core_21 ?_
      refine lv_iconst (v := 0) hx hb dX4_core_24 (by decide) ?_
      obtain ⟨v6, hv6, hN⟩ := oB_spec hN
      refine k_ildE hx hb hC hP (vO.rm hV 0 (by decide)) (vO.ri hV 0 (by decide)) hv6 dX4_core_25 ?_
      refine lv_icmp_ge (tgt := 62) hx hb dX4_core_26 (by decide) (fun c7 => ?_) (fun c7 => ?_)
      · rw [if_pos c7] at hN
        refine lv_lload_n hx hb dX4_core_62 rfl (lv_at hl 1 rfl) ?_
        exact k_lretR hx hb hr (Option.some.inj hN) hP hS hlk dX4_core_63
      · rw [if_neg c7] at hN
        refine lv_lload_n hx hb dX4_core_29 rfl (lv_at hl 1 rfl) ?_
        refine lv_lconst (v := 1) hx hb dX4_core_30 (by decide) ?_
        refine lv_iload_n hx hb dX4_core_31 rfl (lv_at hl 2 rfl) ?_
        refine lv_lshl hx hb dX4_core_32 rfl ?_
        refine lv_ldc2 (v := (-1)) hx hb hown (hts (.constantLong RX4 143 (-1)) (List.mem_of_getElem? (i := 3) rfl)) dX4_core_33 ?_
        refine lv_lxor hx hb dX4_core_36 ?_
        refine lv_land hx hb dX4_core_37 ?_
        refine lv_lstore (lv' := [(4, .long (x1 &&& (((1 : Int64) <<< (Int32.toInt64 x3 &&& 63)) ^^^ ((-1) : Int64)))), (0, .ref h0), (1, .long x1), (3, .int x3)]) hx hb dX4_core_38 hl (by decide) rfl (fun ls hl => ?_)
        refine lv_aload_n hx hb dX4_core_40 rfl (lv_at hl 1 rfl) ?_
        refine lv_lload hx hb dX4_core_41 (lv_at hl 0 rfl) ?_
        obtain ⟨v8, hv8, hN⟩ := oB_spec hN
        refine k_iR hS (va_runV (As := [.long (x1 &&& (((1 : Int64) <<< (Int32.toInt64 x3 &&& 63)) ^^^ ((-1) : Int64)))]) (rest := []) ⟨hx, hb, hml, hown, hts⟩ (c_X4_modelsOf l g L hL G h0 r u hV (x1 &&& (((1 : Int64) <<< (Int32.toInt64 x3 &&& 63)) ^^^ ((-1) : Int64))) v8 hv8) (cwV 1 hts gX4_core_X4_modelsOf rfl rfl rfl (by decide +kernel) ⟨Nat.le_of_ble_eq_true rfl, Nat.le_of_ble_eq_true rfl⟩) (k_preV hC hS hP (vO.m hV) (vO.o hV) rfl) rfl rfl hl.1 rfl (lv_room (Nat.le_of_ble_eq_true rfl)) dX4_core_43 ⟨Nat.zero_le _, Nat.zero_le _⟩) (fun H locs hP hS => ?_)
        refine lv_if_ne (tgt := 54) hx hb dX4_core_46 (by decide) (fun c10 => ?_) (fun c10 => ?_)
        · rw [if_neg c10] at hN
          refine lv_lload_n hx hb dX4_core_54 rfl (lv_at hl 2 rfl) ?_
          refine lv_lstore_n (lv' := [(1, .long x1), (4, .long (x1 &&& (((1 : Int64) <<< (Int32.toInt64 x3 &&& 63)) ^^^ ((-1) : Int64)))), (0, .ref h0), (3, .int x3)]) hx hb dX4_core_55 rfl hl (by decide) rfl (fun ls hl => ?_)
          refine lv_iinc (v := (x3 + 1)) (lv' := [(3, .int (x3 + 1)), (1, .long x1), (4, .long (x1 &&& (((1 : Int64) <<< (Int32.toInt64 x3 &&& 63)) ^^^ ((-1) : Int64)))), (0, .ref h0)]) hx hb dX4_core_56 hl (k := 3) rfl rfl (by decide) rfl (fun ls hl => ?_)
          refine lv_goto (tgt := 19) hx hb dX4_core_59 (by decide) ?_
          exact ih x1 (x3 + 1)  _ _ _ hP hS (lv_sub hl [3, 1, 0] rfl) hN
        · rw [if_pos c10] at hN
          refine lv_lload hx hb dX4_core_49 (lv_at hl 0 rfl) ?_
          refine lv_goto (tgt := 55) hx hb dX4_core_51 (by decide) ?_
          refine lv_lstore_n (lv' := [(1, .long (x1 &&& (((1 : Int64) <<< (Int32.toInt64 x3 &&& 63)) ^^^ ((-1) : Int64)))), (4, .long (x1 &&& (((1 : Int64) <<< (Int32.toInt64 x3 &&& 63)) ^^^ ((-1) : Int64)))), (0, .ref h0), (3, .int x3)]) hx hb dX4_core_55 rfl hl (by decide) rfl (fun ls hl => ?_)
          refine lv_iinc (v := (x3 + 1)) (lv' := [(3, .int (x3 + 1)), (1, .long (x1 &&& (((1 : Int64) <<< (Int32.toInt64 x3 &&& 63)) ^^^ ((-1) : Int64)))), (4, .long (x1 &&& (((1 : Int64) <<< (Int32.toInt64 x3 &&& 63)) ^^^ ((-1) : Int64)))), (0, .ref h0)]) hx hb dX4_core_56 hl (k := 3) rfl rfl (by decide) rfl (fun ls hl => ?_)
          refine lv_goto (tgt := 19) hx hb dX4_core_59 (by decide) ?_
          exact ih (x1 &&& (((1 : Int64) <<< (Int32.toInt64 x3 &&& 63)) ^^^ ((-1) : Int64))) (x3 + 1)  _ _ _ hP hS (lv_sub hl [3, 1, 0] rfl) hN
  have hl := lv_entry ([.ref h0]) (n := 6) (Nat.le_of_ble_eq_true rfl)
  rw [lg_entry_eq]
  generalize (lg_sl ([.ref h0]) ++ List.replicate (6 - (lg_sl ([.ref h0])).length) Slot.unset).toArray = ls at hl ⊢
  have hl : lv_has ls 6 [(0, .ref h0)] := hl
  have hN := hF
  unfold F_X4_core at hN
  refine lv_aload_n hx hb dX4_core_0 rfl (lv_at hl 0 rfl) ?_
  obtain ⟨v1, hv1, hN⟩ := oB_spec hN
  refine k_lR hS (va_runV (As := []) (rest := []) ⟨hx, hb, hml, hown, hts⟩ (c_X4_toldOnes l g L hL G h0 r u hV v1 hv1) (cwV 0 hts gX4_core_X4_toldOnes rfl rfl rfl (by decide +kernel) ⟨Nat.le_of_ble_eq_true rfl, Nat.le_of_ble_eq_true rfl⟩) (k_preV hC hS hP (vO.m hV) (vO.o hV) rfl) rfl rfl hl.1 rfl (lv_room (Nat.le_of_ble_eq_true rfl)) dX4_core_1 ⟨Nat.zero_le _, Nat.zero_le _⟩) (fun H locs hP hS => ?_)
  refine lv_lstore_n (lv' := [(1, .long v1), (0, .ref h0)]) hx hb dX4_core_4 rfl hl (by decide) rfl (fun ls hl => ?_)
  refine lv_aload_n hx hb dX4_core_5 rfl (lv_at hl 1 rfl) ?_
  refine lv_lload_n hx hb dX4_core_6 rfl (lv_at hl 0 rfl) ?_
  obtain ⟨v3, hv3, hN⟩ := oB_spec hN
  refine k_iR hS (va_runV (As := [.long v1]) (rest := []) ⟨hx, hb, hml, hown, hts⟩ (c_X4_modelsOf l g L hL G h0 r u hV v1 v3 hv3) (cwV 1 hts gX4_core_X4_modelsOf rfl rfl rfl (by decide +kernel) ⟨Nat.le_of_ble_eq_true rfl, Nat.le_of_ble_eq_true rfl⟩) (k_preV hC hS hP (vO.m hV) (vO.o hV) rfl) rfl rfl hl.1 rfl (lv_room (Nat.le_of_ble_eq_true rfl)) dX4_core_7 ⟨Nat.zero_le _, Nat.zero_le _⟩) (fun H locs hP hS => ?_)
  refine lv_if_le (tgt := 17) hx hb dX4_core_10 (by decide) (fun c5 => ?_) (fun c5 => ?_)
  · rw [if_pos c5] at hN
    refine lv_iconst (v := 0) hx hb dX4_core_17 (by decide) ?_
    refine lv_istore_n (lv' := [(3, .int (0 : Int32)), (1, .long v1), (0, .ref h0)]) hx hb dX4_core_18 rfl hl (by decide) rfl (fun ls hl => ?_)
    exact lp19 fuel v1 (0 : Int32)  _ _ _ hP hS (lv_sub hl [2, 1, 0] rfl) hN
  · rw [if_neg c5] at hN
    refine lv_ldc2 (v := (-1000004)) hx hb hown (hts (.constantLong RX4 141 (-1000004)) (List.mem_of_getElem? (i := 1) rfl)) dX4_core_13 ?_
    exact k_lretR hx hb hr (Option.some.inj hN) hP hS hlk dX4_core_16
set_option maxHeartbeats 4000000 in
set_option maxRecDepth 100000 in
theorem c_X4_follows (l : Launch) (g : Gm) (L : List Nat) {A : Nat → Prop} (hL : kL L A) (G : Nat → va_E) (h0 : Nat) (r : Nat → Nat) (u : St) (hV : vM g L G h0 r u) (p0 : Int32) (v : Int32) (hF : F_X4_follows u p0 = some v) : Met l yX4_follows wsX4_follows ({ frames := 3, cells := 0, slots := 0, locals := 69 } : Room) (va_Pc [.ref h0, .int p0] (kB g L A G)) (va_Qi (fun x9 (G9 : Nat → va_E) => x9 = v ∧ G9 = G) (kE g L) A) 0 0 A := by
  refine Met.ofW (cc := cX4_follows) (maxL := 6) (ret := (some .int)) (by decide) rfl ?_
  intro p e s m args below meth c s₁ B hml hv
  obtain ⟨rfl, hP, hC⟩ := hv
  have hx := B.exec
  have hb := B.bytes
  have hr := B.returns
  have hts := atoms_spec (ws := wsX4_follows) B.pre
  have hown : s.vm.findClass RX4 = some m.cls := findClass_of_methodNamed B.named
  have hlk := B.notSynchronized
  have hS : va_S A s.heap s.heap [] := va_S.rf
  have lp25 : ∀ (n : Nat) (x1 : Int32) (x2 : Int64) (x4 : Int32) (x5 : Int32) (H : Heap) (locs : List Loc) (ls : Array Slot), va_P g.1 vwCl (va_pl L G) H → va_S A s.heap H locs → lv_has ls 6 [(0, .ref h0), (1, .int x1), (2, .long x2), (4, .int x4), (5, .int x5)] → FL_X4_follows_25 u n x1 x2 x4 x5 = some v → W p l e (headSpec wsX4_follows ({ frames := 3, cells := 0, slots := 0, locals := 69 } : Room)).room s m ([.ref h0, .int p0] : List Value).toArray below meth c H locs 0 0 (MQ below (va_Qi (fun x9 (G9 : Nat → va_E) => x9 = v ∧ G9 = G) (kE g L) A) ([.ref h0, .int p0] : List Value).toArray s 0 0 A) (F0 m 25 ls []) := by
    intro n
    induction n with
    | zero =>
      intro x1 x2 x4 x5 H locs ls hP hS hl hN
      exact absurd hN (by simp [FL_X4_follows_25])
    | succ n ih =>
      intro x1 x2 x4 x5 H locs ls hP hS hl hN
      rw [FL_X4_follows_25] at hN
      refine lv_iload hx hb dX4_follows_25 (lv_at hl 4 rfl) ?_
      refine lv_bipush (v := 64) hx hb dX4_follows_27 (by decide) ?_
      refine lv_icmp_ge (tgt := 69) hx hb dX4_follows_29 (by decide) (fun c6 => ?_) (fun c6 => ?_)
      · rw [if_pos c6] at hN
        refine lv_iload hx hb dX4_follows_69 (lv_at hl 3 rfl) ?_
        refine lv_if_eq (tgt := 78) hx hb dX4_follows_71 (by decide) (fun c7 => ?_) (fun c7 => ?_)
        · rw [if_pos c7] at hN
          refine lv_iconst (v := 0) hx hb dX4_follows_78 (by decide) ?_
          exact k_iretR hx hb hr (Option.some.inj hN) hP hS hlk dX4_follows_79
        · rw [if_neg c7] at hN
          refine lv_iconst (v := 1) hx hb dX4_follows_74 (by decide) ?_
          refine lv_goto (tgt := 79) hx hb dX4_follows_75 (by decide) ?_
          exact k_iretR hx hb hr (Option.some.inj hN) hP hS hlk dX4_follows_79
      · rw [if_neg c6] at hN
        refine lv_iload hx hb dX4_follows_32 (lv_at hl 3 rfl) ?_
        refine lv_if_eq (tgt := 60) hx hb dX4_follows_34 (by decide) (fun c8 => ?_) (fun c8 => ?_)
        · rw [if_pos c8] at hN
          refine lv_iconst (v := 0) hx hb dX4_follows_60 (by decide) ?_
          refine lv_istore (lv' := [(4, .int (0 : Int32)), (0, .ref h0), (1, .int x1), (2, .long x2), (5, .int x5)]) hx hb dX4_follows_61 hl (by decide) rfl (fun ls hl => ?_)
          refine lv_iinc (v := (x5 + 1)) (lv' := [(5, .int (x5 + 1)), (4, .int (0 : Int32)), (0, .ref h0), (1, .int x1), (2, .long x2)]) hx hb dX4_follows_63 hl (k := 4) rfl rfl (by decide) rfl (fun ls hl => ?_)
          refine lv_goto (tgt := 25) hx hb dX4_follows_66 (by decide) ?_
          exact ih x1 x2 (0 : Int32) (x5 + 1)  _ _ _ hP hS (lv_sub hl [2, 3, 4, 1, 0] rfl) hN
        · rw [if_neg c8] at hN
          refine lv_aload_n hx hb dX4_follows_37 rfl (lv_at hl 0 rfl) ?_
          refine lv_iload hx hb dX4_follows_38 (lv_at hl 4 rfl) ?_
          refine lv_lload_n hx hb dX4_follows_40 rfl (lv_at hl 2 rfl) ?_
          obtain ⟨v9, hv9, hN⟩ := oB_spec hN
          refine k_iR hS (va_runV (As := [.int x5, .long x2]) (rest := []) ⟨hx, hb, hml, hown, hts⟩ (c_X4_fulfils l g L hL G h0 r u hV x5 x2 v9 hv9) (cwV 2 hts gX4_follows_X4_fulfils rfl rfl rfl (by decide +kernel) ⟨Nat.le_of_ble_eq_true rfl, Nat.le_of_ble_eq_true rfl⟩) (k_preV hC hS hP (vO.m hV) (vO.o hV) rfl) rfl rfl hl.1 rfl (lv_room (Nat.le_of_ble_eq_true rfl)) dX4_follows_41 ⟨Nat.zero_le _, Nat.zero_le _⟩) (fun H locs hP hS => ?_)
          refine lv_if_eq (tgt := 56) hx hb dX4_follows_44 (by decide) (fun c11 => ?_) (fun c11 => ?_)
          · rw [if_pos c11] at hN
            refine lv_iconst (v := 1) hx hb dX4_follows_56 (by decide) ?_
            refine lv_goto (tgt := 61) hx hb dX4_follows_57 (by decide) ?_
            refine lv_istore (lv' := [(4, .int (1 : Int32)), (0, .ref h0), (1, .int x1), (2, .long x2), (5, .int x5)]) hx hb dX4_follows_61 hl (by decide) rfl (fun ls hl => ?_)
            refine lv_iinc (v := (x5 + 1)) (lv' := [(5, .int (x5 + 1)), (4, .int (1 : Int32)), (0, .ref h0), (1, .int x1), (2, .long x2)]) hx hb dX4_follows_63 hl (k := 4) rfl rfl (by decide) rfl (fun ls hl => ?_)
            refine lv_goto (tgt := 25) hx hb dX4_follows_66 (by decide) ?_
            exact ih x1 x2 (1 : Int32) (x5 + 1)  _ _ _ hP hS (lv_sub hl [2, 3, 4, 1, 0] rfl) hN
          · rw [if_neg c11] at hN
            refine lv_iload_n hx hb dX4_follows_47 rfl (lv_at hl 1 rfl) ?_
            refine lv_iload hx hb dX4_follows_48 (lv_at hl 4 rfl) ?_
            obtain ⟨v12, hv12, hN⟩ := oB_spec hN
            refine k_iR hS (va_runS (As := [.int x1, .int x5]) (rest := []) ⟨hx, hb, hml, hown, hts⟩ (c_X4_isFulfilled l g L hL G x1 x5 v12 hv12) (va_cwS 2 hts gX4_follows_X4_isFulfilled rfl rfl rfl (by decide +kernel) ⟨Nat.le_of_ble_eq_true rfl, Nat.le_of_ble_eq_true rfl⟩) (k_pre hC hS hP) rfl rfl hl.1 rfl (lv_room (Nat.le_of_ble_eq_true rfl)) dX4_follows_50 ⟨Nat.zero_le _, Nat.zero_le _⟩) (fun H locs hP hS => ?_)
            refine lv_if_eq (tgt := 60) hx hb dX4_follows_53 (by decide) (fun c14 => ?_) (fun c14 => ?_)
            · rw [if_pos c14] at hN
              refine lv_iconst (v := 0) hx hb dX4_follows_60 (by decide) ?_
              refine lv_istore (lv' := [(4, .int (0 : Int32)), (0, .ref h0), (1, .int x1), (2, .long x2), (5, .int x5)]) hx hb dX4_follows_61 hl (by decide) rfl (fun ls hl => ?_)
              refine lv_iinc (v := (x5 + 1)) (lv' := [(5, .int (x5 + 1)), (4, .int (0 : Int32)), (0, .ref h0), (1, .int x1), (2, .long x2)]) hx hb dX4_follows_63 hl (k := 4) rfl rfl (by decide) rfl (fun ls hl => ?_)
              refine lv_goto (tgt := 25) hx hb dX4_follows_66 (by decide) ?_
              exact ih x1 x2 (0 : Int32) (x5 + 1)  _ _ _ hP hS (lv_sub hl [2, 3, 4, 1, 0] rfl) hN
            · rw [if_neg c14] at hN
              refine lv_iconst (v := 1) hx hb dX4_follows_56 (by decide) ?_
              refine lv_goto (tgt := 61) hx hb dX4_follows_57 (by decide) ?_
              refine lv_istore (lv' := [(4, .int (1 : Int32)), (0, .ref h0), (1, .int x1), (2, .long x2), (5, .int x5)]) hx hb dX4_follows_61 hl (by decide) rfl (fun ls hl => ?_)
              refine lv_iinc (v := (x5 + 1)) (lv' := [(5, .int (x5 + 1)), (4, .int (1 : Int32)), (0, .ref h0), (1, .int x1), (2, .long x2)]) hx hb dX4_follows_63 hl (k := 4) rfl rfl (by decide) rfl (fun ls hl => ?_)
              refine lv_goto (tgt := 25) hx hb dX4_follows_66 (by decide) ?_
              exact ih x1 x2 (1 : Int32) (x5 + 1)  _ _ _ hP hS (lv_sub hl [2, 3, 4, 1, 0] rfl) hN
  have hl := lv_entry ([.ref h0, .int p0]) (n := 6) (Nat.le_of_ble_eq_true rfl)
  rw [lg_entry_eq]
  generalize (lg_sl ([.ref h0, .int p0]) ++ List.replicate (6 - (lg_sl ([.ref h0, .int p0])).length) Slot.unset).toArray = ls at hl ⊢
  have hl : lv_has ls 6 [(0, .ref h0), (1, .int p0)] := hl
  have hN := hF
  unfold F_X4_follows at hN
  refine lv_iload_n hx hb dX4_follows_0 rfl (lv_at hl 1 rfl) ?_
  refine lv_iconst (v := 0) hx hb dX4_follows_1 (by decide) ?_
  refine lv_sipush (v := 4095) hx hb dX4_follows_2 (by decide) ?_
  obtain ⟨v1, hv1, hN⟩ := oB_spec hN
  refine k_iR hS (va_runS (As := [.int p0, .int (0 : Int32), .int (4095 : Int32)]) (rest := []) ⟨hx, hb, hml, hown, hts⟩ (c_X4_in l g L hL G p0 (0 : Int32) (4095 : Int32) v1 hv1) (va_cwS 3 hts gX4_follows_X4_in rfl rfl rfl (by decide +kernel) ⟨Nat.le_of_ble_eq_true rfl, Nat.le_of_ble_eq_true rfl⟩) (k_pre hC hS hP) rfl rfl hl.1 rfl (lv_room (Nat.le_of_ble_eq_true rfl)) dX4_follows_5 ⟨Nat.zero_le _, Nat.zero_le _⟩) (fun H locs hP hS => ?_)
  refine lv_if_ne (tgt := 14) hx hb dX4_follows_8 (by decide) (fun c3 => ?_) (fun c3 => ?_)
  · rw [if_neg c3] at hN
    refine lv_aload_n hx hb dX4_follows_14 rfl (lv_at hl 0 rfl) ?_
    obtain ⟨v4, hv4, hN⟩ := oB_spec hN
    refine k_lR hS (va_runV (As := []) (rest := []) ⟨hx, hb, hml, hown, hts⟩ (c_X4_toldOnes l g L hL G h0 r u hV v4 hv4) (cwV 0 hts gX4_follows_X4_toldOnes rfl rfl rfl (by decide +kernel) ⟨Nat.le_of_ble_eq_true rfl, Nat.le_of_ble_eq_true rfl⟩) (k_preV hC hS hP (vO.m hV) (vO.o hV) rfl) rfl rfl hl.1 rfl (lv_room (Nat.le_of_ble_eq_true rfl)) dX4_follows_15 ⟨Nat.zero_le _, Nat.zero_le _⟩) (fun H locs hP hS => ?_)
    refine lv_lstore_n (lv' := [(2, .long v4), (0, .ref h0), (1, .int p0)]) hx hb dX4_follows_18 rfl hl (by decide) rfl (fun ls hl => ?_)
    refine lv_iconst (v := 1) hx hb dX4_follows_19 (by decide) ?_
    refine lv_istore (lv' := [(4, .int (1 : Int32)), (2, .long v4), (0, .ref h0), (1, .int p0)]) hx hb dX4_follows_20 hl (by decide) rfl (fun ls hl => ?_)
    refine lv_iconst (v := 0) hx hb dX4_follows_22 (by decide) ?_
    refine lv_istore (lv' := [(5, .int (0 : Int32)), (4, .int (1 : Int32)), (2, .long v4), (0, .ref h0), (1, .int p0)]) hx hb dX4_follows_23 hl (by decide) rfl (fun ls hl => ?_)
    exact lp25 fuel p0 v4 (1 : Int32) (0 : Int32)  _ _ _ hP hS (lv_sub hl [3, 4, 2, 1, 0] rfl) hN
  · rw [if_pos c3] at hN
    refine lv_ldc (v := (-1000001)) hx hb hown (hts (.constant RX4 22 (-1000001)) (List.mem_of_getElem? (i := 1) rfl)) dX4_follows_11 ?_
    exact k_iretR hx hb hr (Option.some.inj hN) hP hS hlk dX4_follows_13
set_option maxHeartbeats 4000000 in
set_option maxRecDepth 100000 in
theorem c_X4_share (l : Launch) (g : Gm) (L : List Nat) {A : Nat → Prop} (hL : kL L A) (G : Nat → va_E) (h0 : Nat) (r : Nat → Nat) (u : St) (hV : vM g L G h0 r u) (p0 : Int32) (v : Int32) (hF : F_X4_share u p0 = some v) : Met l yX4_share wsX4_share ({ frames := 2, cells := 0, slots := 0, locals := 52 } : Room) (va_Pc [.ref h0, .int p0] (kB g L A G)) (va_Qi (fun x9 (G9 : Nat → va_E) => x9 = v ∧ G9 = G) (kE g L) A) 0 0 A := by
  refine Met.ofW (cc := cX4_share) (maxL := 4) (ret := (some .int)) (by decide) rfl ?_
  intro p e s m args below meth c s₁ B hml hv
  obtain ⟨rfl, hP, hC⟩ := hv
  have hx := B.exec
  have hb := B.bytes
  have hr := B.returns
  have hts := atoms_spec (ws := wsX4_share) B.pre
  have hown : s.vm.findClass RX4 = some m.cls := findClass_of_methodNamed B.named
  have hlk := B.notSynchronized
  have hS : va_S A s.heap s.heap [] := va_S.rf
  have lp18 : ∀ (n : Nat) (x1 : Int32) (x2 : Int32) (x3 : Int32) (H : Heap) (locs : List Loc) (ls : Array Slot), va_P g.1 vwCl (va_pl L G) H → va_S A s.heap H locs → lv_has ls 4 [(1, .int x1), (2, .int x2), (3, .int x3)] → FL_X4_share_18 u n x1 x2 x3 = some v → W p l e (headSpec wsX4_share ({ frames := 2, cells := 0, slots := 0, locals := 52 } : Room)).room s m ([.ref h0, .int p0] : List Value).toArray below meth c H locs 0 0 (MQ below (va_Qi (fun x9 (G9 : Nat → va_E) => x9 = v ∧ G9 = G) (kE g L) A) ([.ref h0, .int p0] : List Value).toArray s 0 0 A) (F0 m 18 ls []) := by
    intro n
    induction n with
    | zero =>
      intro x1 x2 x3 H locs ls hP hS hl hN
      exact absurd hN (by simp [FL_X4_share_18])
    | succ n ih =>
      intro x1 x2 x3 H locs ls hP hS hl hN
      rw [FL_X4_share_18] at hN
      refine lv_iload_n hx hb dX4_share_18 rfl (lv_at hl 2 rfl) ?_
      refine lv_bipush (v := 64) hx hb dX4_share_19 (by decide) ?_
      refine lv_icmp_ge (tgt := 46) hx hb dX4_share_21 (by decide) (fun c4 => ?_) (fun c4 => ?_)
      · rw [if_pos c4] at hN
        refine lv_iload_n hx hb dX4_share_46 rfl (lv_at hl 1 rfl) ?_
        refine lv_i2f hx hb dX4_share_47 ?_
        refine lv_fstore_n (lv' := [(3, .float (FP.i2f x2)), (1, .int x1), (2, .int x2)]) hx hb dX4_share_48 rfl hl (by decide) rfl (fun ls hl => ?_)
        refine lv_fload_n hx hb dX4_share_49 rfl (lv_at hl 0 rfl) ?_
        refine lv_ldcf (v := (1115684864)) hx hb hown (hts (.constantFloat RX4 145 (1115684864)) (List.mem_of_getElem? (i := 2) rfl)) dX4_share_50 ?_
        obtain ⟨v5, hv5, hN⟩ := oB_spec hN
        refine lv_fdivE hx hb dX4_share_52 hv5 ?_
        obtain ⟨v6, hv6, hN⟩ := oB_spec hN
        refine k_iR hS (va_runS (As := [.float v5]) (rest := []) ⟨hx, hb, hml, hown, hts⟩ (c_Jxf58ca_floatToIntBits_5c35a l g L hL G v5 v6 hv6) (va_cwS 1 hts gX4_share_Jxf58ca_floatToIntBits_5c35a rfl rfl rfl (by decide +kernel) ⟨Nat.le_of_ble_eq_true rfl, Nat.le_of_ble_eq_true rfl⟩) (k_pre hC hS hP) rfl rfl hl.1 rfl (lv_room (Nat.le_of_ble_eq_true rfl)) dX4_share_53 ⟨Nat.zero_le _, Nat.zero_le _⟩) (fun H locs hP hS => ?_)
        exact k_iretR hx hb hr (Option.some.inj hN) hP hS hlk dX4_share_56
      · rw [if_neg c4] at hN
        refine lv_iload_n hx hb dX4_share_24 rfl (lv_at hl 1 rfl) ?_
        refine lv_iload_n hx hb dX4_share_25 rfl (lv_at hl 0 rfl) ?_
        refine lv_iload_n hx hb dX4_share_26 rfl (lv_at hl 2 rfl) ?_
        obtain ⟨v8, hv8, hN⟩ := oB_spec hN
        refine k_iR hS (va_runS (As := [.int x1, .int x3]) (rest := [.int x2]) ⟨hx, hb, hml, hown, hts⟩ (c_X4_isFulfilled l g L hL G x1 x3 v8 hv8) (va_cwS 2 hts gX4_share_X4_isFulfilled rfl rfl rfl (by decide +kernel) ⟨Nat.le_of_ble_eq_true rfl, Nat.le_of_ble_eq_true rfl⟩) (k_pre hC hS hP) rfl rfl hl.1 rfl (lv_room (Nat.le_of_ble_eq_true rfl)) dX4_share_27 ⟨Nat.zero_le _, Nat.zero_le _⟩) (fun H locs hP hS => ?_)
        refine lv_if_eq (tgt := 37) hx hb dX4_share_30 (by decide) (fun c10 => ?_) (fun c10 => ?_)
        · rw [if_pos c10] at hN
          refine lv_iconst (v := 0) hx hb dX4_share_37 (by decide) ?_
          refine lv_iadd hx hb dX4_share_38 ?_
          refine lv_istore_n (lv' := [(2, .int (x2 + (0 : Int32))), (1, .int x1), (3, .int x3)]) hx hb dX4_share_39 rfl hl (by decide) rfl (fun ls hl => ?_)
          refine lv_iinc (v := (x3 + 1)) (lv' := [(3, .int (x3 + 1)), (2, .int (x2 + (0 : Int32))), (1, .int x1)]) hx hb dX4_share_40 hl (k := 2) rfl rfl (by decide) rfl (fun ls hl => ?_)
          refine lv_goto (tgt := 18) hx hb dX4_share_43 (by decide) ?_
          exact ih x1 (x2 + (0 : Int32)) (x3 + 1)  _ _ _ hP hS (lv_sub hl [2, 1, 0] rfl) hN
        · rw [if_neg c10] at hN
          refine lv_iconst (v := 1) hx hb dX4_share_33 (by decide) ?_
          refine lv_goto (tgt := 38) hx hb dX4_share_34 (by decide) ?_
          refine lv_iadd hx hb dX4_share_38 ?_
          refine lv_istore_n (lv' := [(2, .int (x2 + (1 : Int32))), (1, .int x1), (3, .int x3)]) hx hb dX4_share_39 rfl hl (by decide) rfl (fun ls hl => ?_)
          refine lv_iinc (v := (x3 + 1)) (lv' := [(3, .int (x3 + 1)), (2, .int (x2 + (1 : Int32))), (1, .int x1)]) hx hb dX4_share_40 hl (k := 2) rfl rfl (by decide) rfl (fun ls hl => ?_)
          refine lv_goto (tgt := 18) hx hb dX4_share_43 (by decide) ?_
          exact ih x1 (x2 + (1 : Int32)) (x3 + 1)  _ _ _ hP hS (lv_sub hl [2, 1, 0] rfl) hN
  have hl := lv_entry ([.ref h0, .int p0]) (n := 4) (Nat.le_of_ble_eq_true rfl)
  rw [lg_entry_eq]
  generalize (lg_sl ([.ref h0, .int p0]) ++ List.replicate (4 - (lg_sl ([.ref h0, .int p0])).length) Slot.unset).toArray = ls at hl ⊢
  have hl : lv_has ls 4 [(0, .ref h0), (1, .int p0)] := hl
  have hN := hF
  unfold F_X4_share at hN
  refine lv_iload_n hx hb dX4_share_0 rfl (lv_at hl 1 rfl) ?_
  refine lv_iconst (v := 0) hx hb dX4_share_1 (by decide) ?_
  refine lv_sipush (v := 4095) hx hb dX4_share_2 (by decide) ?_
  obtain ⟨v1, hv1, hN⟩ := oB_spec hN
  refine k_iR hS (va_runS (As := [.int p0, .int (0 : Int32), .int (4095 : Int32)]) (rest := []) ⟨hx, hb, hml, hown, hts⟩ (c_X4_in l g L hL G p0 (0 : Int32) (4095 : Int32) v1 hv1) (va_cwS 3 hts gX4_share_X4_in rfl rfl rfl (by decide +kernel) ⟨Nat.le_of_ble_eq_true rfl, Nat.le_of_ble_eq_true rfl⟩) (k_pre hC hS hP) rfl rfl hl.1 rfl (lv_room (Nat.le_of_ble_eq_true rfl)) dX4_share_5 ⟨Nat.zero_le _, Nat.zero_le _⟩) (fun H locs hP hS => ?_)
  refine lv_if_ne (tgt := 14) hx hb dX4_share_8 (by decide) (fun c3 => ?_) (fun c3 => ?_)
  · rw [if_neg c3] at hN
    refine lv_iconst (v := 0) hx hb dX4_share_14 (by decide) ?_
    refine lv_istore_n (lv' := [(2, .int (0 : Int32)), (0, .ref h0), (1, .int p0)]) hx hb dX4_share_15 rfl hl (by decide) rfl (fun ls hl => ?_)
    refine lv_iconst (v := 0) hx hb dX4_share_16 (by decide) ?_
    refine lv_istore_n (lv' := [(3, .int (0 : Int32)), (2, .int (0 : Int32)), (0, .ref h0), (1, .int p0)]) hx hb dX4_share_17 rfl hl (by decide) rfl (fun ls hl => ?_)
    exact lp18 fuel p0 (0 : Int32) (0 : Int32)  _ _ _ hP hS (lv_sub hl [3, 1, 0] rfl) hN
  · rw [if_pos c3] at hN
    refine lv_ldc (v := (-1000001)) hx hb hown (hts (.constant RX4 22 (-1000001)) (List.mem_of_getElem? (i := 1) rfl)) dX4_share_11 ?_
    exact k_iretR hx hb hr (Option.some.inj hN) hP hS hlk dX4_share_13
set_option maxHeartbeats 4000000 in
set_option maxRecDepth 100000 in
theorem c_X4_withStatus (l : Launch) (g : Gm) (L : List Nat) {A : Nat → Prop} (hL : kL L A) (G : Nat → va_E) (h0 : Nat) (r : Nat → Nat) (u : St) (hV : vM g L G h0 r u) (p0 : Int32) (v : Int32) (hF : F_X4_withStatus u p0 = some v) : Met l yX4_withStatus wsX4_withStatus ({ frames := 1, cells := 0, slots := 0, locals := 22 } : Room) (va_Pc [.ref h0, .int p0] (kB g L A G)) (va_Qi (fun x9 (G9 : Nat → va_E) => x9 = v ∧ G9 = G) (kE g L) A) 0 0 A := by
  refine Met.ofW (cc := cX4_withStatus) (maxL := 4) (ret := (some .int)) (by decide) rfl ?_
  intro p e s m args below meth c s₁ B hml hv
  obtain ⟨rfl, hP, hC⟩ := hv
  have hx := B.exec
  have hb := B.bytes
  have hr := B.returns
  have hts := atoms_spec (ws := wsX4_withStatus) B.pre
  have hown : s.vm.findClass RX4 = some m.cls := findClass_of_methodNamed B.named
  have hlk := B.notSynchronized
  have hS : va_S A s.heap s.heap [] := va_S.rf
  have lp4 : ∀ (n : Nat) (x1 : Int32) (x2 : Int32) (x3 : Int32) (H : Heap) (locs : List Loc) (ls : Array Slot), va_P g.1 vwCl (va_pl L G) H → va_S A s.heap H locs → lv_has ls 4 [(0, .ref h0), (1, .int x1), (2, .int x2), (3, .int x3)] → FL_X4_withStatus_4 u n x1 x2 x3 = some v → W p l e (headSpec wsX4_withStatus ({ frames := 1, cells := 0, slots := 0, locals := 22 } : Room)).room s m ([.ref h0, .int p0] : List Value).toArray below meth c H locs 0 0 (MQ below (va_Qi (fun x9 (G9 : Nat → va_E) => x9 = v ∧ G9 = G) (kE g L) A) ([.ref h0, .int p0] : List Value).toArray s 0 0 A) (F0 m 4 ls []) := by
    intro n
    induction n with
    | zero =>
      intro x1 x2 x3 H locs ls hP hS hl hN
      exact absurd hN (by simp [FL_X4_withStatus_4])
    | succ n ih =>
      intro x1 x2 x3 H locs ls hP hS hl hN
      rw [FL_X4_withStatus_4] at hN
      refine lv_iload_n hx hb dX4_withStatus_4 rfl (lv_at hl 3 rfl) ?_
      refine lv_aload_n hx hb dX4_withStatus_5 rfl (lv_at hl 0 rfl) ?_
      refine k_get (C := RX4) (T := TX4) (N := 8) (ci := 4) (v := .ref (r 0)) hx hb hts (fun _ h => List.mem_cons_of_mem _ (List.mem_append_right _ h)) hown hC hP (vO.m hV) (vO.o hV) rfl 0 (by decide) (hts (.fieldLink RX4 7 "OrderedClausesModel" "s" "[I") (List.mem_of_getElem? (i := 1) rfl)) rfl dX4_withStatus_6 ?_
      refine lv_iconst (v := 0) hx hb dX4_withStatus_9 (by decide) ?_
      obtain ⟨v1, hv1, hN⟩ := oB_spec hN
      refine k_ildE hx hb hC hP (vO.rm hV 0 (by decide)) (vO.ri hV 0 (by decide)) hv1 dX4_withStatus_10 ?_
      refine lv_icmp_ge (tgt := 38) hx hb dX4_withStatus_11 (by decide) (fun c2 => ?_) (fun c2 => ?_)
      · rw [if_pos c2] at hN
        refine lv_iload_n hx hb dX4_withStatus_38 rfl (lv_at hl 2 rfl) ?_
        exact k_iretR hx hb hr (Option.some.inj hN) hP hS hlk dX4_withStatus_39
      · rw [if_neg c2] at hN
        refine lv_iload_n hx hb dX4_withStatus_14 rfl (lv_at hl 2 rfl) ?_
        refine lv_aload_n hx hb dX4_withStatus_15 rfl (lv_at hl 0 rfl) ?_
        refine lv_iload_n hx hb dX4_withStatus_16 rfl (lv_at hl 3 rfl) ?_
        refine lv_iconst (v := 1) hx hb dX4_withStatus_17 (by decide) ?_
        obtain ⟨v3, hv3, hN⟩ := oB_spec hN
        refine k_iR hS (va_runV (As := [.int x3, .int (1 : Int32)]) (rest := [.int x2]) ⟨hx, hb, hml, hown, hts⟩ (c_X4_of l g L hL G h0 r u hV x3 (1 : Int32) v3 hv3) (cwV 2 hts gX4_withStatus_X4_of rfl rfl rfl (by decide +kernel) ⟨Nat.le_of_ble_eq_true rfl, Nat.le_of_ble_eq_true rfl⟩) (k_preV hC hS hP (vO.m hV) (vO.o hV) rfl) rfl rfl hl.1 rfl (lv_room (Nat.le_of_ble_eq_true rfl)) dX4_withStatus_18 ⟨Nat.zero_le _, Nat.zero_le _⟩) (fun H locs hP hS => ?_)
        refine lv_iload_n hx hb dX4_withStatus_21 rfl (lv_at hl 1 rfl) ?_
        refine lv_icmp_ne (tgt := 29) hx hb dX4_withStatus_22 (by decide) (fun c5 => ?_) (fun c5 => ?_)
        · rw [if_neg c5] at hN
          refine lv_iconst (v := 0) hx hb dX4_withStatus_29 (by decide) ?_
          refine lv_iadd hx hb dX4_withStatus_30 ?_
          refine lv_istore_n (lv' := [(2, .int (x2 + (0 : Int32))), (0, .ref h0), (1, .int x1), (3, .int x3)]) hx hb dX4_withStatus_31 rfl hl (by decide) rfl (fun ls hl => ?_)
          refine lv_iinc (v := (x3 + 1)) (lv' := [(3, .int (x3 + 1)), (2, .int (x2 + (0 : Int32))), (0, .ref h0), (1, .int x1)]) hx hb dX4_withStatus_32 hl (k := 3) rfl rfl (by decide) rfl (fun ls hl => ?_)
          refine lv_goto (tgt := 4) hx hb dX4_withStatus_35 (by decide) ?_
          exact ih x1 (x2 + (0 : Int32)) (x3 + 1)  _ _ _ hP hS (lv_sub hl [2, 3, 1, 0] rfl) hN
        · rw [if_pos c5] at hN
          refine lv_iconst (v := 1) hx hb dX4_withStatus_25 (by decide) ?_
          refine lv_goto (tgt := 30) hx hb dX4_withStatus_26 (by decide) ?_
          refine lv_iadd hx hb dX4_withStatus_30 ?_
          refine lv_istore_n (lv' := [(2, .int (x2 + (1 : Int32))), (0, .ref h0), (1, .int x1), (3, .int x3)]) hx hb dX4_withStatus_31 rfl hl (by decide) rfl (fun ls hl => ?_)
          refine lv_iinc (v := (x3 + 1)) (lv' := [(3, .int (x3 + 1)), (2, .int (x2 + (1 : Int32))), (0, .ref h0), (1, .int x1)]) hx hb dX4_withStatus_32 hl (k := 3) rfl rfl (by decide) rfl (fun ls hl => ?_)
          refine lv_goto (tgt := 4) hx hb dX4_withStatus_35 (by decide) ?_
          exact ih x1 (x2 + (1 : Int32)) (x3 + 1)  _ _ _ hP hS (lv_sub hl [2, 3, 1, 0] rfl) hN
  have hl := lv_entry ([.ref h0, .int p0]) (n := 4) (Nat.le_of_ble_eq_true rfl)
  rw [lg_entry_eq]
  generalize (lg_sl ([.ref h0, .int p0]) ++ List.replicate (4 - (lg_sl ([.ref h0, .int p0])).length) Slot.unset).toArray = ls at hl ⊢
  have hl : lv_has ls 4 [(0, .ref h0), (1, .int p0)] := hl
  have hN := hF
  unfold F_X4_withStatus at hN
  refine lv_iconst (v := 0) hx hb dX4_withStatus_0 (by decide) ?_
  refine lv_istore_n (lv' := [(2, .int (0 : Int32)), (0, .ref h0), (1, .int p0)]) hx hb dX4_withStatus_1 rfl hl (by decide) rfl (fun ls hl => ?_)
  refine lv_iconst (v := 0) hx hb dX4_withStatus_2 (by decide) ?_
  refine lv_istore_n (lv' := [(3, .int (0 : Int32)), (2, .int (0 : Int32)), (0, .ref h0), (1, .int p0)]) hx hb dX4_withStatus_3 rfl hl (by decide) rfl (fun ls hl => ?_)
  exact lp4 fuel p0 (0 : Int32) (0 : Int32)  _ _ _ hP hS (lv_sub hl [2, 3, 1, 0] rfl) hN
set_option maxHeartbeats 4000000 in
set_option maxRecDepth 100000 in
theorem c_X4_count (l : Launch) (g : Gm) (L : List Nat) {A : Nat → Prop} (hL : kL L A) (G : Nat → va_E) (h0 : Nat) (r : Nat → Nat) (u : St) (hV : vM g L G h0 r u) (p0 : Int32) (v : Int32) (hF : F_X4_count u p0 = some v) : Met l yX4_count wsX4_count ({ frames := 2, cells := 0, slots := 0, locals := 45 } : Room) (va_Pc [.ref h0, .int p0] (kB g L A G)) (va_Qi (fun x9 (G9 : Nat → va_E) => x9 = v ∧ G9 = G) (kE g L) A) 0 0 A := by
  refine Met.ofW (cc := cX4_count) (maxL := 2) (ret := (some .int)) (by decide) rfl ?_
  intro p e s m args below meth c s₁ B hml hv
  obtain ⟨rfl, hP, hC⟩ := hv
  have hx := B.exec
  have hb := B.bytes
  have hr := B.returns
  have hts := atoms_spec (ws := wsX4_count) B.pre
  have hown : s.vm.findClass RX4 = some m.cls := findClass_of_methodNamed B.named
  have hlk := B.notSynchronized
  have hS : va_S A s.heap s.heap [] := va_S.rf
  have hl := lv_entry ([.ref h0, .int p0]) (n := 2) (Nat.le_of_ble_eq_true rfl)
  rw [lg_entry_eq]
  generalize (lg_sl ([.ref h0, .int p0]) ++ List.replicate (2 - (lg_sl ([.ref h0, .int p0])).length) Slot.unset).toArray = ls at hl ⊢
  have hl : lv_has ls 2 [(0, .ref h0), (1, .int p0)] := hl
  have hN := hF
  unfold F_X4_count at hN
  refine lv_iload_n hx hb dX4_count_0 rfl (lv_at hl 1 rfl) ?_
  rcases Decidable.em (p0 = 0) with c1 | c1
  · rw [if_pos c1] at hN
    refine lv_tableIn (off := 55) (tgt := 56) hx hb dX4_count_1 (by rw [c1]; decide) (by rw [c1]; decide) (by rw [c1]; rfl) (by decide) ?_
    refine lv_aload_n hx hb dX4_count_56 rfl (lv_at hl 0 rfl) ?_
    refine k_get (C := RX4) (T := TX4) (N := 8) (ci := 4) (v := .ref (r 0)) hx hb hts (fun _ h => List.mem_cons_of_mem _ (List.mem_append_right _ h)) hown hC hP (vO.m hV) (vO.o hV) rfl 0 (by decide) (hts (.fieldLink RX4 7 "OrderedClausesModel" "s" "[I") (List.mem_of_getElem? (i := 1) rfl)) rfl dX4_count_57 ?_
    refine lv_iconst (v := 0) hx hb dX4_count_60 (by decide) ?_
    obtain ⟨v2, hv2, hN⟩ := oB_spec hN
    refine k_ildE hx hb hC hP (vO.rm hV 0 (by decide)) (vO.ri hV 0 (by decide)) hv2 dX4_count_61 ?_
    exact k_iretR hx hb hr (Option.some.inj hN) hP hS hlk dX4_count_62
  · rw [if_neg c1] at hN
    rcases Decidable.em (p0 = 1) with c3 | c3
    · rw [if_pos c3] at hN
      refine lv_tableIn (off := 62) (tgt := 63) hx hb dX4_count_1 (by rw [c3]; decide) (by rw [c3]; decide) (by rw [c3]; rfl) (by decide) ?_
      refine lv_aload_n hx hb dX4_count_63 rfl (lv_at hl 0 rfl) ?_
      refine lv_iload_n hx hb dX4_count_64 rfl (lv_at hl 1 rfl) ?_
      refine lv_iconst (v := 1) hx hb dX4_count_65 (by decide) ?_
      refine lv_isub hx hb dX4_count_66 ?_
      obtain ⟨v4, hv4, hN⟩ := oB_spec hN
      refine k_iR hS (va_runV (As := [.int (p0 - (1 : Int32))]) (rest := []) ⟨hx, hb, hml, hown, hts⟩ (c_X4_withStatus l g L hL G h0 r u hV (p0 - (1 : Int32)) v4 hv4) (cwV 1 hts gX4_count_X4_withStatus rfl rfl rfl (by decide +kernel) ⟨Nat.le_of_ble_eq_true rfl, Nat.le_of_ble_eq_true rfl⟩) (k_preV hC hS hP (vO.m hV) (vO.o hV) rfl) rfl rfl hl.1 rfl (lv_room (Nat.le_of_ble_eq_true rfl)) dX4_count_67 ⟨Nat.zero_le _, Nat.zero_le _⟩) (fun H locs hP hS => ?_)
      exact k_iretR hx hb hr (Option.some.inj hN) hP hS hlk dX4_count_70
    · rw [if_neg c3] at hN
      rcases Decidable.em (p0 = 2) with c6 | c6
      · rw [if_pos c6] at hN
        refine lv_tableIn (off := 62) (tgt := 63) hx hb dX4_count_1 (by rw [c6]; decide) (by rw [c6]; decide) (by rw [c6]; rfl) (by decide) ?_
        refine lv_aload_n hx hb dX4_count_63 rfl (lv_at hl 0 rfl) ?_
        refine lv_iload_n hx hb dX4_count_64 rfl (lv_at hl 1 rfl) ?_
        refine lv_iconst (v := 1) hx hb dX4_count_65 (by decide) ?_
        refine lv_isub hx hb dX4_count_66 ?_
        obtain ⟨v7, hv7, hN⟩ := oB_spec hN
        refine k_iR hS (va_runV (As := [.int (p0 - (1 : Int32))]) (rest := []) ⟨hx, hb, hml, hown, hts⟩ (c_X4_withStatus l g L hL G h0 r u hV (p0 - (1 : Int32)) v7 hv7) (cwV 1 hts gX4_count_X4_withStatus rfl rfl rfl (by decide +kernel) ⟨Nat.le_of_ble_eq_true rfl, Nat.le_of_ble_eq_true rfl⟩) (k_preV hC hS hP (vO.m hV) (vO.o hV) rfl) rfl rfl hl.1 rfl (lv_room (Nat.le_of_ble_eq_true rfl)) dX4_count_67 ⟨Nat.zero_le _, Nat.zero_le _⟩) (fun H locs hP hS => ?_)
        exact k_iretR hx hb hr (Option.some.inj hN) hP hS hlk dX4_count_70
      · rw [if_neg c6] at hN
        rcases Decidable.em (p0 = 3) with c9 | c9
        · rw [if_pos c9] at hN
          refine lv_tableIn (off := 62) (tgt := 63) hx hb dX4_count_1 (by rw [c9]; decide) (by rw [c9]; decide) (by rw [c9]; rfl) (by decide) ?_
          refine lv_aload_n hx hb dX4_count_63 rfl (lv_at hl 0 rfl) ?_
          refine lv_iload_n hx hb dX4_count_64 rfl (lv_at hl 1 rfl) ?_
          refine lv_iconst (v := 1) hx hb dX4_count_65 (by decide) ?_
          refine lv_isub hx hb dX4_count_66 ?_
          obtain ⟨v10, hv10, hN⟩ := oB_spec hN
          refine k_iR hS (va_runV (As := [.int (p0 - (1 : Int32))]) (rest := []) ⟨hx, hb, hml, hown, hts⟩ (c_X4_withStatus l g L hL G h0 r u hV (p0 - (1 : Int32)) v10 hv10) (cwV 1 hts gX4_count_X4_withStatus rfl rfl rfl (by decide +kernel) ⟨Nat.le_of_ble_eq_true rfl, Nat.le_of_ble_eq_true rfl⟩) (k_preV hC hS hP (vO.m hV) (vO.o hV) rfl) rfl rfl hl.1 rfl (lv_room (Nat.le_of_ble_eq_true rfl)) dX4_count_67 ⟨Nat.zero_le _, Nat.zero_le _⟩) (fun H locs hP hS => ?_)
          exact k_iretR hx hb hr (Option.some.inj hN) hP hS hlk dX4_count_70
        · rw [if_neg c9] at hN
          rcases Decidable.em (p0 = 4) with c12 | c12
          · rw [if_pos c12] at hN
            refine lv_tableIn (off := 70) (tgt := 71) hx hb dX4_count_1 (by rw [c12]; decide) (by rw [c12]; decide) (by rw [c12]; rfl) (by decide) ?_
            refine lv_aload_n hx hb dX4_count_71 rfl (lv_at hl 0 rfl) ?_
            refine k_get (C := RX4) (T := TX4) (N := 8) (ci := 4) (v := .ref (r 0)) hx hb hts (fun _ h => List.mem_cons_of_mem _ (List.mem_append_right _ h)) hown hC hP (vO.m hV) (vO.o hV) rfl 0 (by decide) (hts (.fieldLink RX4 7 "OrderedClausesModel" "s" "[I") (List.mem_of_getElem? (i := 1) rfl)) rfl dX4_count_72 ?_
            refine lv_iconst (v := 1) hx hb dX4_count_75 (by decide) ?_
            obtain ⟨v13, hv13, hN⟩ := oB_spec hN
            refine k_ildE hx hb hC hP (vO.rm hV 0 (by decide)) (vO.ri hV 0 (by decide)) hv13 dX4_count_76 ?_
            exact k_iretR hx hb hr (Option.some.inj hN) hP hS hlk dX4_count_77
          · rw [if_neg c12] at hN
            rcases Decidable.em (p0 = 5) with c14 | c14
            · rw [if_pos c14] at hN
              refine lv_tableIn (off := 77) (tgt := 78) hx hb dX4_count_1 (by rw [c14]; decide) (by rw [c14]; decide) (by rw [c14]; rfl) (by decide) ?_
              refine lv_aload_n hx hb dX4_count_78 rfl (lv_at hl 0 rfl) ?_
              refine k_get (C := RX4) (T := TX4) (N := 8) (ci := 4) (v := .ref (r 0)) hx hb hts (fun _ h => List.mem_cons_of_mem _ (List.mem_append_right _ h)) hown hC hP (vO.m hV) (vO.o hV) rfl 0 (by decide) (hts (.fieldLink RX4 7 "OrderedClausesModel" "s" "[I") (List.mem_of_getElem? (i := 1) rfl)) rfl dX4_count_79 ?_
              refine lv_iconst (v := 2) hx hb dX4_count_82 (by decide) ?_
              obtain ⟨v15, hv15, hN⟩ := oB_spec hN
              refine k_ildE hx hb hC hP (vO.rm hV 0 (by decide)) (vO.ri hV 0 (by decide)) hv15 dX4_count_83 ?_
              exact k_iretR hx hb hr (Option.some.inj hN) hP hS hlk dX4_count_84
            · rw [if_neg c14] at hN
              rcases Decidable.em (p0 = 6) with c16 | c16
              · rw [if_pos c16] at hN
                refine lv_tableIn (off := 84) (tgt := 85) hx hb dX4_count_1 (by rw [c16]; decide) (by rw [c16]; decide) (by rw [c16]; rfl) (by decide) ?_
                refine lv_aload_n hx hb dX4_count_85 rfl (lv_at hl 0 rfl) ?_
                refine k_get (C := RX4) (T := TX4) (N := 8) (ci := 4) (v := .ref (r 0)) hx hb hts (fun _ h => List.mem_cons_of_mem _ (List.mem_append_right _ h)) hown hC hP (vO.m hV) (vO.o hV) rfl 0 (by decide) (hts (.fieldLink RX4 7 "OrderedClausesModel" "s" "[I") (List.mem_of_getElem? (i := 1) rfl)) rfl dX4_count_86 ?_
                refine lv_iconst (v := 3) hx hb dX4_count_89 (by decide) ?_
                obtain ⟨v17, hv17, hN⟩ := oB_spec hN
                refine k_ildE hx hb hC hP (vO.rm hV 0 (by decide)) (vO.ri hV 0 (by decide)) hv17 dX4_count_90 ?_
                exact k_iretR hx hb hr (Option.some.inj hN) hP hS hlk dX4_count_91
              · rw [if_neg c16] at hN
                rcases Decidable.em (p0 = 7) with c18 | c18
                · rw [if_pos c18] at hN
                  refine lv_tableIn (off := 91) (tgt := 92) hx hb dX4_count_1 (by rw [c18]; decide) (by rw [c18]; decide) (by rw [c18]; rfl) (by decide) ?_
                  refine lv_aload_n hx hb dX4_count_92 rfl (lv_at hl 0 rfl) ?_
                  refine k_get (C := RX4) (T := TX4) (N := 8) (ci := 4) (v := .ref (r 0)) hx hb hts (fun _ h => List.mem_cons_of_mem _ (List.mem_append_right _ h)) hown hC hP (vO.m hV) (vO.o hV) rfl 0 (by decide) (hts (.fieldLink RX4 7 "OrderedClausesModel" "s" "[I") (List.mem_of_getElem? (i := 1) rfl)) rfl dX4_count_93 ?_
                  refine lv_iconst (v := 4) hx hb dX4_count_96 (by decide) ?_
                  obtain ⟨v19, hv19, hN⟩ := oB_spec hN
                  refine k_ildE hx hb hC hP (vO.rm hV 0 (by decide)) (vO.ri hV 0 (by decide)) hv19 dX4_count_97 ?_
                  exact k_iretR hx hb hr (Option.some.inj hN) hP hS hlk dX4_count_98
                · rw [if_neg c18] at hN
                  rcases Decidable.em (p0 = 8) with c20 | c20
                  · rw [if_pos c20] at hN
                    refine lv_tableIn (off := 98) (tgt := 99) hx hb dX4_count_1 (by rw [c20]; decide) (by rw [c20]; decide) (by rw [c20]; rfl) (by decide) ?_
                    refine lv_aload_n hx hb dX4_count_99 rfl (lv_at hl 0 rfl) ?_
                    refine k_get (C := RX4) (T := TX4) (N := 8) (ci := 4) (v := .int (u.2.2 0)) hx hb hts (fun _ h => List.mem_cons_of_mem _ (List.mem_append_right _ h)) hown hC hP (vO.m hV) (vO.o hV) rfl 3 (by decide) (hts (.fieldLink RX4 26 "OrderedClausesModel" "states" "I") (List.mem_of_getElem? (i := 2) rfl)) rfl dX4_count_100 ?_
                    exact k_iretR hx hb hr (Option.some.inj hN) hP hS hlk dX4_count_103
                  · rw [if_neg c20] at hN
                    rcases Decidable.em (p0 = 9) with c21 | c21
                    · rw [if_pos c21] at hN
                      refine lv_tableIn (off := 103) (tgt := 104) hx hb dX4_count_1 (by rw [c21]; decide) (by rw [c21]; decide) (by rw [c21]; rfl) (by decide) ?_
                      refine lv_aload_n hx hb dX4_count_104 rfl (lv_at hl 0 rfl) ?_
                      refine k_get (C := RX4) (T := TX4) (N := 8) (ci := 4) (v := .int (u.2.2 1)) hx hb hts (fun _ h => List.mem_cons_of_mem _ (List.mem_append_right _ h)) hown hC hP (vO.m hV) (vO.o hV) rfl 5 (by decide) (hts (.fieldLink RX4 155 "OrderedClausesModel" "length" "I") (List.mem_of_getElem? (i := 3) rfl)) rfl dX4_count_105 ?_
                      exact k_iretR hx hb hr (Option.some.inj hN) hP hS hlk dX4_count_108
                    · rw [if_neg c21] at hN
                      refine lv_tableOut (tgt := 109) hx hb dX4_count_1 (ts_out (n := 10) (by decide) (fun j hj => by rcases (show j = 0 ∨ j = 1 ∨ j = 2 ∨ j = 3 ∨ j = 4 ∨ j = 5 ∨ j = 6 ∨ j = 7 ∨ j = 8 ∨ j = 9 by omega) with rfl | rfl | rfl | rfl | rfl | rfl | rfl | rfl | rfl | rfl <;> first | exact c1 | exact c3 | exact c6 | exact c9 | exact c12 | exact c14 | exact c16 | exact c18 | exact c20 | exact c21)) (by decide) ?_
                      refine lv_iload_n hx hb dX4_count_109 rfl (lv_at hl 1 rfl) ?_
                      refine lv_bipush (v := 10) hx hb dX4_count_110 (by decide) ?_
                      refine lv_bipush (v := 15) hx hb dX4_count_112 (by decide) ?_
                      obtain ⟨v22, hv22, hN⟩ := oB_spec hN
                      refine k_iR hS (va_runS (As := [.int p0, .int (10 : Int32), .int (15 : Int32)]) (rest := []) ⟨hx, hb, hml, hown, hts⟩ (c_X4_in l g L hL G p0 (10 : Int32) (15 : Int32) v22 hv22) (va_cwS 3 hts gX4_count_X4_in rfl rfl rfl (by decide +kernel) ⟨Nat.le_of_ble_eq_true rfl, Nat.le_of_ble_eq_true rfl⟩) (k_pre hC hS hP) rfl rfl hl.1 rfl (lv_room (Nat.le_of_ble_eq_true rfl)) dX4_count_114 ⟨Nat.zero_le _, Nat.zero_le _⟩) (fun H locs hP hS => ?_)
                      refine lv_if_eq (tgt := 134) hx hb dX4_count_117 (by decide) (fun c24 => ?_) (fun c24 => ?_)
                      · rw [if_pos c24] at hN
                        refine lv_ldc (v := (-1000001)) hx hb hown (hts (.constant RX4 22 (-1000001)) (List.mem_of_getElem? (i := 4) rfl)) dX4_count_134 ?_
                        exact k_iretR hx hb hr (Option.some.inj hN) hP hS hlk dX4_count_136
                      · rw [if_neg c24] at hN
                        refine lv_aload_n hx hb dX4_count_120 rfl (lv_at hl 0 rfl) ?_
                        refine k_get (C := RX4) (T := TX4) (N := 8) (ci := 4) (v := .ref (r 0)) hx hb hts (fun _ h => List.mem_cons_of_mem _ (List.mem_append_right _ h)) hown hC hP (vO.m hV) (vO.o hV) rfl 0 (by decide) (hts (.fieldLink RX4 7 "OrderedClausesModel" "s" "[I") (List.mem_of_getElem? (i := 1) rfl)) rfl dX4_count_121 ?_
                        refine lv_iconst (v := 5) hx hb dX4_count_124 (by decide) ?_
                        refine lv_iload_n hx hb dX4_count_125 rfl (lv_at hl 1 rfl) ?_
                        refine lv_iadd hx hb dX4_count_126 ?_
                        refine lv_bipush (v := 10) hx hb dX4_count_127 (by decide) ?_
                        refine lv_isub hx hb dX4_count_129 ?_
                        obtain ⟨v25, hv25, hN⟩ := oB_spec hN
                        refine k_ildE hx hb hC hP (vO.rm hV 0 (by decide)) (vO.ri hV 0 (by decide)) hv25 dX4_count_130 ?_
                        refine lv_goto (tgt := 136) hx hb dX4_count_131 (by decide) ?_
                        exact k_iretR hx hb hr (Option.some.inj hN) hP hS hlk dX4_count_136
set_option maxHeartbeats 4000000 in
set_option maxRecDepth 100000 in
theorem c_X4_here (l : Launch) (g : Gm) (L : List Nat) {A : Nat → Prop} (hL : kL L A) (G : Nat → va_E) (h0 : Nat) (r : Nat → Nat) (u : St) (hV : vM g L G h0 r u) (v : Int32) (hF : F_X4_here u = some v) : Met l yX4_here wsX4_here ({ frames := 0, cells := 0, slots := 0, locals := 0 } : Room) (va_Pc [.ref h0] (kB g L A G)) (va_Qi (fun x9 (G9 : Nat → va_E) => x9 = v ∧ G9 = G) (kE g L) A) 0 0 A := by
  refine Met.ofW (cc := cX4_here) (maxL := 1) (ret := (some .int)) (by decide) rfl ?_
  intro p e s m args below meth c s₁ B hml hv
  obtain ⟨rfl, hP, hC⟩ := hv
  have hx := B.exec
  have hb := B.bytes
  have hr := B.returns
  have hts := atoms_spec (ws := wsX4_here) B.pre
  have hown : s.vm.findClass RX4 = some m.cls := findClass_of_methodNamed B.named
  have hlk := B.notSynchronized
  have hS : va_S A s.heap s.heap [] := va_S.rf
  have hl := lv_entry ([.ref h0]) (n := 1) (Nat.le_of_ble_eq_true rfl)
  rw [lg_entry_eq]
  generalize (lg_sl ([.ref h0]) ++ List.replicate (1 - (lg_sl ([.ref h0])).length) Slot.unset).toArray = ls at hl ⊢
  have hl : lv_has ls 1 [(0, .ref h0)] := hl
  have hN := hF
  unfold F_X4_here at hN
  refine lv_aload_n hx hb dX4_here_0 rfl (lv_at hl 0 rfl) ?_
  refine k_get (C := RX4) (T := TX4) (N := 8) (ci := 4) (v := .int (u.2.2 2)) hx hb hts (fun _ h => List.mem_cons_of_mem _ (List.mem_append_right _ h)) hown hC hP (vO.m hV) (vO.o hV) rfl 6 (by decide) (hts (.fieldLink RX4 158 "OrderedClausesModel" "at" "I") (List.mem_of_getElem? (i := 1) rfl)) rfl dX4_here_1 ?_
  refine lv_aload_n hx hb dX4_here_4 rfl (lv_at hl 0 rfl) ?_
  refine k_get (C := RX4) (T := TX4) (N := 8) (ci := 4) (v := .int (u.2.2 1)) hx hb hts (fun _ h => List.mem_cons_of_mem _ (List.mem_append_right _ h)) hown hC hP (vO.m hV) (vO.o hV) rfl 5 (by decide) (hts (.fieldLink RX4 155 "OrderedClausesModel" "length" "I") (List.mem_of_getElem? (i := 2) rfl)) rfl dX4_here_5 ?_
  refine lv_icmp_ge (tgt := 23) hx hb dX4_here_8 (by decide) (fun c1 => ?_) (fun c1 => ?_)
  · rw [if_pos c1] at hN
    refine lv_iconst (v := (-1)) hx hb dX4_here_23 (by decide) ?_
    exact k_iretR hx hb hr (Option.some.inj hN) hP hS hlk dX4_here_24
  · rw [if_neg c1] at hN
    refine lv_aload_n hx hb dX4_here_11 rfl (lv_at hl 0 rfl) ?_
    refine k_get (C := RX4) (T := TX4) (N := 8) (ci := 4) (v := .ref (r 3)) hx hb hts (fun _ h => List.mem_cons_of_mem _ (List.mem_append_right _ h)) hown hC hP (vO.m hV) (vO.o hV) rfl 4 (by decide) (hts (.fieldLink RX4 19 "OrderedClausesModel" "text" "[I") (List.mem_of_getElem? (i := 3) rfl)) rfl dX4_here_12 ?_
    refine lv_aload_n hx hb dX4_here_15 rfl (lv_at hl 0 rfl) ?_
    refine k_get (C := RX4) (T := TX4) (N := 8) (ci := 4) (v := .int (u.2.2 2)) hx hb hts (fun _ h => List.mem_cons_of_mem _ (List.mem_append_right _ h)) hown hC hP (vO.m hV) (vO.o hV) rfl 6 (by decide) (hts (.fieldLink RX4 158 "OrderedClausesModel" "at" "I") (List.mem_of_getElem? (i := 1) rfl)) rfl dX4_here_16 ?_
    obtain ⟨v2, hv2, hN⟩ := oB_spec hN
    refine k_ildE hx hb hC hP (vO.rm hV 3 (by decide)) (vO.ri hV 3 (by decide)) hv2 dX4_here_19 ?_
    refine lv_goto (tgt := 24) hx hb dX4_here_20 (by decide) ?_
    exact k_iretR hx hb hr (Option.some.inj hN) hP hS hlk dX4_here_24
