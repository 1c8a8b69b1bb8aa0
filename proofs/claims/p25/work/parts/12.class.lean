/-! Each method meets its partial function: printed by program (wip/p25/gen.py) -/
set_option maxHeartbeats 4000000 in
set_option maxRecDepth 100000 in
theorem c_X3_settle (l : Launch) (g : Gm) (L : List Nat) {A : Nat → Prop} (hL : kL L A) (G : Nat → va_E) (ad : Nat → Nat) (x : XS) (hX : vX g L G ad x) (p0 : Int32) (v : Int32) (w : XS) (hF : F_X3_settle x p0 = some (v, w)) : Met l yX3_settle wsX3_settle ({ frames := 4, cells := 0, slots := 0, locals := 127 } : Room) (va_Pc [.ref (ad 0), .int p0] (kB g L A G)) (va_Qi (fun x9 (G9 : Nat → va_E) => x9 = v ∧ (vX g L G9 ad w)) (kE g L) A) 0 0 A := by
  refine Met.ofW (cc := cX3_settle) (maxL := 2) (ret := (some .int)) (by decide) rfl ?_
  intro p e s m args below meth c s₁ B hml hv
  obtain ⟨rfl, hP, hC⟩ := hv
  have hx := B.exec
  have hb := B.bytes
  have hr := B.returns
  have hts := atoms_spec (ws := wsX3_settle) B.pre
  have hown : s.vm.findClass RX3 = some m.cls := findClass_of_methodNamed B.named
  have hlk := B.notSynchronized
  have hS : va_S A s.heap s.heap [] := va_S.rf
  have hl := lv_entry ([.ref (ad 0), .int p0]) (n := 2) (Nat.le_of_ble_eq_true rfl)
  rw [lg_entry_eq]
  generalize (lg_sl ([.ref (ad 0), .int p0]) ++ List.replicate (2 - (lg_sl ([.ref (ad 0), .int p0])).length) Slot.unset).toArray = ls at hl ⊢
  have hl : lv_has ls 2 [(0, .ref (ad 0)), (1, .int p0)] := hl
  have hN := hF
  unfold F_X3_settle at hN
  refine lv_iload_n hx hb dX3_settle_0 rfl (lv_at hl 1 rfl) ?_
  refine lv_ldc (v := (-1000001)) hx hb hown (hts (.constant RX3 30 (-1000001)) (List.mem_of_getElem? (i := 1) rfl)) dX3_settle_1 ?_
  refine lv_icmp_gt (tgt := 20) hx hb dX3_settle_3 (by decide) (fun c1 => ?_) (fun c1 => ?_)
  · rw [if_pos c1] at hN
    refine lv_aload_n hx hb dX3_settle_20 rfl (lv_at hl 0 rfl) ?_
    refine k_get (C := RX3) (T := TX3) (N := 3) (ci := 3) (v := .ref (ad 1)) hx hb hts (fun _ h => List.mem_cons_of_mem _ (List.mem_append_left _ (List.mem_append_left _ (List.mem_append_right _ h)))) hown hC hP (hX.m 0 (by omega)) hX.o0 rfl 1 (by decide) (hts (.fieldLink RX3 19 "OrderedClauses" "history" "LOrderedClauses$History;") (List.mem_of_getElem? (i := 2) rfl)) rfl dX3_settle_21 ?_
    obtain ⟨w3, hw3, hN⟩ := oB_spec hN
    refine k_v hS (va_runVN (As := []) (rest := []) ⟨hx, hb, hml, hown, hts⟩ (c_X0_keep l g L hL G ad (x.1, x.2.1, x.2.2.1, x.2.2.2.1, x.2.2.2.2) hX w3 hw3) ⟨va_cnB 0 hts gX3_settle_X0_keep_n187 rfl rfl rfl (hC.2.1.2 (RX3, 187, yX0_keep, RX3) (List.mem_of_getElem? (i := 30) rfl)) (hts (.initialized RX0) (List.mem_of_getElem? (i := 5) rfl)) (by decide +kernel) ⟨Nat.le_of_ble_eq_true rfl, Nat.le_of_ble_eq_true rfl⟩, (hts (.instanceMethod yX0_keep) (List.mem_of_getElem? (i := 44) rfl)), (hts (.selects RX0 yX0_keep yX0_keep) (List.mem_of_getElem? (i := 45) rfl))⟩ (k_preV (C := RX0) (T := TX0) (N := 2) hC hS hP (hX.m 1 (by omega)) hX.o1 rfl) rfl rfl hl.1 rfl (lv_room (Nat.le_of_ble_eq_true rfl)) dX3_settle_24 ⟨Nat.zero_le _, Nat.zero_le _⟩) (fun G4 H locs hq hP hS => ?_)
    have hX := hq
    refine lv_iload_n hx hb dX3_settle_27 rfl (lv_at hl 1 rfl) ?_
    obtain ⟨hE, hE2⟩ := spair hN
    exact k_iretW hx hb hr hE (hE2 ▸ hX) hP hS hlk dX3_settle_28
  · rw [if_neg c1] at hN
    refine lv_aload_n hx hb dX3_settle_6 rfl (lv_at hl 0 rfl) ?_
    refine k_get (C := RX3) (T := TX3) (N := 3) (ci := 3) (v := .ref (ad 1)) hx hb hts (fun _ h => List.mem_cons_of_mem _ (List.mem_append_left _ (List.mem_append_left _ (List.mem_append_right _ h)))) hown hC hP (hX.m 0 (by omega)) hX.o0 rfl 1 (by decide) (hts (.fieldLink RX3 19 "OrderedClauses" "history" "LOrderedClauses$History;") (List.mem_of_getElem? (i := 2) rfl)) rfl dX3_settle_7 ?_
    refine lv_aload_n hx hb dX3_settle_10 rfl (lv_at hl 0 rfl) ?_
    refine k_get (C := RX3) (T := TX3) (N := 3) (ci := 3) (v := .ref (sA ad 5)) hx hb hts (fun _ h => List.mem_cons_of_mem _ (List.mem_append_left _ (List.mem_append_left _ (List.mem_append_right _ h)))) hown hC hP (hX.m 0 (by omega)) hX.o0 rfl 0 (by decide) (hts (.fieldLink RX3 10 "OrderedClauses" "store" "LOrderedClauses$Store;") (List.mem_of_getElem? (i := 3) rfl)) rfl dX3_settle_11 ?_
    obtain ⟨w6, hw6, hN⟩ := oB_spec hN
    refine k_v hS (va_runVN (As := [.ref (sA ad 5)]) (rest := []) ⟨hx, hb, hml, hown, hts⟩ (c_X0_takeBack l g L hL G ad (x.1, x.2.1, x.2.2.1, x.2.2.2.1, x.2.2.2.2) hX w6 hw6) ⟨va_cnB 1 hts gX3_settle_X0_takeBack_n184 rfl rfl rfl (hC.2.1.2 (RX3, 184, yX0_takeBack, RX3) (List.mem_of_getElem? (i := 29) rfl)) (hts (.initialized RX0) (List.mem_of_getElem? (i := 5) rfl)) (by decide +kernel) ⟨Nat.le_of_ble_eq_true rfl, Nat.le_of_ble_eq_true rfl⟩, (hts (.instanceMethod yX0_takeBack) (List.mem_of_getElem? (i := 4) rfl)), (hts (.selects RX0 yX0_takeBack yX0_takeBack) (List.mem_of_getElem? (i := 6) rfl))⟩ (k_preV (C := RX0) (T := TX0) (N := 2) hC hS hP (hX.m 1 (by omega)) hX.o1 rfl) rfl rfl hl.1 rfl (lv_room (Nat.le_of_ble_eq_true rfl)) dX3_settle_14 ⟨Nat.zero_le _, Nat.zero_le _⟩) (fun G7 H locs hq hP hS => ?_)
    have hX := hq
    refine lv_goto (tgt := 27) hx hb dX3_settle_17 (by decide) ?_
    refine lv_iload_n hx hb dX3_settle_27 rfl (lv_at hl 1 rfl) ?_
    obtain ⟨hE, hE2⟩ := spair hN
    exact k_iretW hx hb hr hE (hE2 ▸ hX) hP hS hlk dX3_settle_28
set_option maxHeartbeats 4000000 in
set_option maxRecDepth 100000 in
theorem c_X3_tell (l : Launch) (g : Gm) (L : List Nat) {A : Nat → Prop} (hL : kL L A) (G : Nat → va_E) (ad : Nat → Nat) (x : XS) (hX : vX g L G ad x) (p0 : Int32) (v : Int32) (w : XS) (hF : F_X3_tell x p0 = some (v, w)) : Met l yX3_tell wsX3_tell ({ frames := 5, cells := 0, slots := 0, locals := 148 } : Room) (va_Pc [.ref (ad 0), .int p0] (kB g L A G)) (va_Qi (fun x9 (G9 : Nat → va_E) => x9 = v ∧ (vX g L G9 ad w)) (kE g L) A) 0 0 A := by
  refine Met.ofW (cc := cX3_tell) (maxL := 2) (ret := (some .int)) (by decide) rfl ?_
  intro p e s m args below meth c s₁ B hml hv
  obtain ⟨rfl, hP, hC⟩ := hv
  have hx := B.exec
  have hb := B.bytes
  have hr := B.returns
  have hts := atoms_spec (ws := wsX3_tell) B.pre
  have hown : s.vm.findClass RX3 = some m.cls := findClass_of_methodNamed B.named
  have hlk := B.notSynchronized
  have hS : va_S A s.heap s.heap [] := va_S.rf
  have hl := lv_entry ([.ref (ad 0), .int p0]) (n := 2) (Nat.le_of_ble_eq_true rfl)
  rw [lg_entry_eq]
  generalize (lg_sl ([.ref (ad 0), .int p0]) ++ List.replicate (2 - (lg_sl ([.ref (ad 0), .int p0])).length) Slot.unset).toArray = ls at hl ⊢
  have hl : lv_has ls 2 [(0, .ref (ad 0)), (1, .int p0)] := hl
  have hN := hF
  unfold F_X3_tell at hN
  refine lv_iload_n hx hb dX3_tell_0 rfl (lv_at hl 1 rfl) ?_
  refine lv_if_lt (tgt := 11) hx hb dX3_tell_1 (by decide) (fun c1 => ?_) (fun c1 => ?_)
  · rw [if_pos c1] at hN
    refine lv_ldc (v := (-1000001)) hx hb hown (hts (.constant RX3 30 (-1000001)) (List.mem_of_getElem? (i := 1) rfl)) dX3_tell_11 ?_
    obtain ⟨hE, hE2⟩ := spair hN
    exact k_iretW hx hb hr hE (hE2 ▸ hX) hP hS hlk dX3_tell_13
  · rw [if_neg c1] at hN
    refine lv_iload_n hx hb dX3_tell_4 rfl (lv_at hl 1 rfl) ?_
    refine lv_sipush (v := 4095) hx hb dX3_tell_5 (by decide) ?_
    refine lv_icmp_le (tgt := 14) hx hb dX3_tell_8 (by decide) (fun c2 => ?_) (fun c2 => ?_)
    · rw [if_pos c2] at hN
      refine lv_aload_n hx hb dX3_tell_14 rfl (lv_at hl 0 rfl) ?_
      refine k_get (C := RX3) (T := TX3) (N := 3) (ci := 3) (v := .ref (ad 1)) hx hb hts (fun _ h => List.mem_cons_of_mem _ (List.mem_append_left _ (List.mem_append_left _ (List.mem_append_right _ h)))) hown hC hP (hX.m 0 (by omega)) hX.o0 rfl 1 (by decide) (hts (.fieldLink RX3 19 "OrderedClauses" "history" "LOrderedClauses$History;") (List.mem_of_getElem? (i := 2) rfl)) rfl dX3_tell_15 ?_
      refine lv_aload_n hx hb dX3_tell_18 rfl (lv_at hl 0 rfl) ?_
      refine k_get (C := RX3) (T := TX3) (N := 3) (ci := 3) (v := .ref (sA ad 5)) hx hb hts (fun _ h => List.mem_cons_of_mem _ (List.mem_append_left _ (List.mem_append_left _ (List.mem_append_right _ h)))) hown hC hP (hX.m 0 (by omega)) hX.o0 rfl 0 (by decide) (hts (.fieldLink RX3 10 "OrderedClauses" "store" "LOrderedClauses$Store;") (List.mem_of_getElem? (i := 3) rfl)) rfl dX3_tell_19 ?_
      obtain ⟨w4, hw4, hN⟩ := oB_spec hN
      refine k_v hS (va_runVN (As := [.ref (sA ad 5)]) (rest := []) ⟨hx, hb, hml, hown, hts⟩ (c_X0_putAside l g L hL G ad (x.1, x.2.1, x.2.2.1, x.2.2.2.1, x.2.2.2.2) hX w4 hw4) ⟨va_cnB 1 hts gX3_tell_X0_putAside_n31 rfl rfl rfl (hC.2.1.2 (RX3, 31, yX0_putAside, RX3) (List.mem_of_getElem? (i := 23) rfl)) (hts (.initialized RX0) (List.mem_of_getElem? (i := 5) rfl)) (by decide +kernel) ⟨Nat.le_of_ble_eq_true rfl, Nat.le_of_ble_eq_true rfl⟩, (hts (.instanceMethod yX0_putAside) (List.mem_of_getElem? (i := 4) rfl)), (hts (.selects RX0 yX0_putAside yX0_putAside) (List.mem_of_getElem? (i := 6) rfl))⟩ (k_preV (C := RX0) (T := TX0) (N := 2) hC hS hP (hX.m 1 (by omega)) hX.o1 rfl) rfl rfl hl.1 rfl (lv_room (Nat.le_of_ble_eq_true rfl)) dX3_tell_22 ⟨Nat.zero_le _, Nat.zero_le _⟩) (fun G5 H locs hq hP hS => ?_)
      have hX := hq
      refine lv_aload_n hx hb dX3_tell_25 rfl (lv_at hl 0 rfl) ?_
      refine lv_aload_n hx hb dX3_tell_26 rfl (lv_at hl 0 rfl) ?_
      refine k_get (C := RX3) (T := TX3) (N := 3) (ci := 3) (v := .ref (sA ad 5)) hx hb hts (fun _ h => List.mem_cons_of_mem _ (List.mem_append_left _ (List.mem_append_left _ (List.mem_append_right _ h)))) hown hC hP (hX.m 0 (by omega)) hX.o0 rfl 0 (by decide) (hts (.fieldLink RX3 10 "OrderedClauses" "store" "LOrderedClauses$Store;") (List.mem_of_getElem? (i := 3) rfl)) rfl dX3_tell_27 ?_
      refine lv_iload_n hx hb dX3_tell_30 rfl (lv_at hl 1 rfl) ?_
      refine lv_iconst (v := (-1)) hx hb dX3_tell_31 (by decide) ?_
      refine lv_iconst (v := (-1)) hx hb dX3_tell_32 (by decide) ?_
      refine lv_iconst (v := (-1)) hx hb dX3_tell_33 (by decide) ?_
      obtain ⟨v6, w7, hv6, hN⟩ := oB2_spec hN
      refine k_iW hS (va_runVN (As := [.int p0, .int ((-1) : Int32), .int ((-1) : Int32), .int ((-1) : Int32)]) (rest := [.ref (ad 0)]) ⟨hx, hb, hml, hown, hts⟩ (c_X1_bring l g L hL G5 (sA ad 5) (sR ad 5) w4.1 hX.sm p0 ((-1) : Int32) ((-1) : Int32) ((-1) : Int32) v6 w7 hv6) ⟨va_cnB 4 hts gX3_tell_X1_bring_n35 rfl rfl rfl (hC.2.1.2 (RX3, 35, yX1_bring, RX3) (List.mem_of_getElem? (i := 24) rfl)) (hts (.initialized RX1) (List.mem_of_getElem? (i := 15) rfl)) (by decide +kernel) ⟨Nat.le_of_ble_eq_true rfl, Nat.le_of_ble_eq_true rfl⟩, (hts (.instanceMethod yX1_bring) (List.mem_of_getElem? (i := 44) rfl)), (hts (.selects RX1 yX1_bring yX1_bring) (List.mem_of_getElem? (i := 45) rfl))⟩ (k_preV (C := RX1) (T := TX1) (N := 13) hC hS hP (vO.m hX.sm) (vO.o hX.sm) rfl) rfl rfl hl.1 rfl (lv_room (Nat.le_of_ble_eq_true rfl)) dX3_tell_34 ⟨Nat.zero_le _, Nat.zero_le _⟩) (fun G8 H locs hq hP hS => ?_)
      obtain ⟨hV1, hf1⟩ := hq
      have hX : vX g L G8 ad (w7, w4.2.1, w4.2.2.1, w4.2.2.2.1, w4.2.2.2.2) := vX.upM hX hV1 hf1
      obtain ⟨v9, w10, hv9, hN⟩ := oB2_spec hN
      refine k_iW hS (va_runV (As := [.int v6]) (rest := []) ⟨hx, hb, hml, hown, hts⟩ (c_X3_settle l g L hL G8 ad (w7, w4.2.1, w4.2.2.1, w4.2.2.2.1, w4.2.2.2.2) hX v6 v9 w10 hv9) (cwV 1 hts gX3_tell_X3_settle rfl rfl rfl (by decide +kernel) ⟨Nat.le_of_ble_eq_true rfl, Nat.le_of_ble_eq_true rfl⟩) (k_preV (C := RX3) (T := TX3) (N := 3) hC hS hP (hX.m 0 (by omega)) hX.o0 rfl) rfl rfl hl.1 rfl (lv_room (Nat.le_of_ble_eq_true rfl)) dX3_tell_37 ⟨Nat.zero_le _, Nat.zero_le _⟩) (fun G11 H locs hq hP hS => ?_)
      have hX := hq
      obtain ⟨hE, hE2⟩ := spair hN
      exact k_iretW hx hb hr hE (hE2 ▸ hX) hP hS hlk dX3_tell_40
    · rw [if_neg c2] at hN
      refine lv_ldc (v := (-1000001)) hx hb hown (hts (.constant RX3 30 (-1000001)) (List.mem_of_getElem? (i := 1) rfl)) dX3_tell_11 ?_
      obtain ⟨hE, hE2⟩ := spair hN
      exact k_iretW hx hb hr hE (hE2 ▸ hX) hP hS hlk dX3_tell_13
set_option maxHeartbeats 4000000 in
set_option maxRecDepth 100000 in
theorem c_X3_rank (l : Launch) (g : Gm) (L : List Nat) {A : Nat → Prop} (hL : kL L A) (G : Nat → va_E) (ad : Nat → Nat) (x : XS) (hX : vX g L G ad x) (p0 : Int32) (p1 : Int32) (v : Int32) (w : XS) (hF : F_X3_rank x p0 p1 = some (v, w)) : Met l yX3_rank wsX3_rank ({ frames := 5, cells := 0, slots := 0, locals := 148 } : Room) (va_Pc [.ref (ad 0), .int p0, .int p1] (kB g L A G)) (va_Qi (fun x9 (G9 : Nat → va_E) => x9 = v ∧ (vX g L G9 ad w)) (kE g L) A) 0 0 A := by
  refine Met.ofW (cc := cX3_rank) (maxL := 3) (ret := (some .int)) (by decide) rfl ?_
  intro p e s m args below meth c s₁ B hml hv
  obtain ⟨rfl, hP, hC⟩ := hv
  have hx := B.exec
  have hb := B.bytes
  have hr := B.returns
  have hts := atoms_spec (ws := wsX3_rank) B.pre
  have hown : s.vm.findClass RX3 = some m.cls := findClass_of_methodNamed B.named
  have hlk := B.notSynchronized
  have hS : va_S A s.heap s.heap [] := va_S.rf
  have hl := lv_entry ([.ref (ad 0), .int p0, .int p1]) (n := 3) (Nat.le_of_ble_eq_true rfl)
  rw [lg_entry_eq]
  generalize (lg_sl ([.ref (ad 0), .int p0, .int p1]) ++ List.replicate (3 - (lg_sl ([.ref (ad 0), .int p0, .int p1])).length) Slot.unset).toArray = ls at hl ⊢
  have hl : lv_has ls 3 [(0, .ref (ad 0)), (1, .int p0), (2, .int p1)] := hl
  have hN := hF
  unfold F_X3_rank at hN
  refine lv_iload_n hx hb dX3_rank_0 rfl (lv_at hl 1 rfl) ?_
  refine lv_if_lt (tgt := 20) hx hb dX3_rank_1 (by decide) (fun c1 => ?_) (fun c1 => ?_)
  · rw [if_pos c1] at hN
    refine lv_ldc (v := (-1000001)) hx hb hown (hts (.constant RX3 30 (-1000001)) (List.mem_of_getElem? (i := 1) rfl)) dX3_rank_20 ?_
    obtain ⟨hE, hE2⟩ := spair hN
    exact k_iretW hx hb hr hE (hE2 ▸ hX) hP hS hlk dX3_rank_22
  · rw [if_neg c1] at hN
    refine lv_iload_n hx hb dX3_rank_4 rfl (lv_at hl 1 rfl) ?_
    refine lv_bipush (v := 6) hx hb dX3_rank_5 (by decide) ?_
    refine lv_icmp_ge (tgt := 20) hx hb dX3_rank_7 (by decide) (fun c2 => ?_) (fun c2 => ?_)
    · rw [if_pos c2] at hN
      refine lv_ldc (v := (-1000001)) hx hb hown (hts (.constant RX3 30 (-1000001)) (List.mem_of_getElem? (i := 1) rfl)) dX3_rank_20 ?_
      obtain ⟨hE, hE2⟩ := spair hN
      exact k_iretW hx hb hr hE (hE2 ▸ hX) hP hS hlk dX3_rank_22
    · rw [if_neg c2] at hN
      refine lv_iload_n hx hb dX3_rank_10 rfl (lv_at hl 2 rfl) ?_
      refine lv_if_lt (tgt := 20) hx hb dX3_rank_11 (by decide) (fun c3 => ?_) (fun c3 => ?_)
      · rw [if_pos c3] at hN
        refine lv_ldc (v := (-1000001)) hx hb hown (hts (.constant RX3 30 (-1000001)) (List.mem_of_getElem? (i := 1) rfl)) dX3_rank_20 ?_
        obtain ⟨hE, hE2⟩ := spair hN
        exact k_iretW hx hb hr hE (hE2 ▸ hX) hP hS hlk dX3_rank_22
      · rw [if_neg c3] at hN
        refine lv_iload_n hx hb dX3_rank_14 rfl (lv_at hl 2 rfl) ?_
        refine lv_bipush (v := 6) hx hb dX3_rank_15 (by decide) ?_
        refine lv_icmp_lt (tgt := 23) hx hb dX3_rank_17 (by decide) (fun c4 => ?_) (fun c4 => ?_)
        · rw [if_pos c4] at hN
          refine lv_aload_n hx hb dX3_rank_23 rfl (lv_at hl 0 rfl) ?_
          refine k_get (C := RX3) (T := TX3) (N := 3) (ci := 3) (v := .ref (ad 1)) hx hb hts (fun _ h => List.mem_cons_of_mem _ (List.mem_append_left _ (List.mem_append_left _ (List.mem_append_right _ h)))) hown hC hP (hX.m 0 (by omega)) hX.o0 rfl 1 (by decide) (hts (.fieldLink RX3 19 "OrderedClauses" "history" "LOrderedClauses$History;") (List.mem_of_getElem? (i := 2) rfl)) rfl dX3_rank_24 ?_
          refine lv_aload_n hx hb dX3_rank_27 rfl (lv_at hl 0 rfl) ?_
          refine k_get (C := RX3) (T := TX3) (N := 3) (ci := 3) (v := .ref (sA ad 5)) hx hb hts (fun _ h => List.mem_cons_of_mem _ (List.mem_append_left _ (List.mem_append_left _ (List.mem_append_right _ h)))) hown hC hP (hX.m 0 (by omega)) hX.o0 rfl 0 (by decide) (hts (.fieldLink RX3 10 "OrderedClauses" "store" "LOrderedClauses$Store;") (List.mem_of_getElem? (i := 3) rfl)) rfl dX3_rank_28 ?_
          obtain ⟨w6, hw6, hN⟩ := oB_spec hN
          refine k_v hS (va_runVN (As := [.ref (sA ad 5)]) (rest := []) ⟨hx, hb, hml, hown, hts⟩ (c_X0_putAside l g L hL G ad (x.1, x.2.1, x.2.2.1, x.2.2.2.1, x.2.2.2.2) hX w6 hw6) ⟨va_cnB 1 hts gX3_rank_X0_putAside_n31 rfl rfl rfl (hC.2.1.2 (RX3, 31, yX0_putAside, RX3) (List.mem_of_getElem? (i := 23) rfl)) (hts (.initialized RX0) (List.mem_of_getElem? (i := 5) rfl)) (by decide +kernel) ⟨Nat.le_of_ble_eq_true rfl, Nat.le_of_ble_eq_true rfl⟩, (hts (.instanceMethod yX0_putAside) (List.mem_of_getElem? (i := 4) rfl)), (hts (.selects RX0 yX0_putAside yX0_putAside) (List.mem_of_getElem? (i := 6) rfl))⟩ (k_preV (C := RX0) (T := TX0) (N := 2) hC hS hP (hX.m 1 (by omega)) hX.o1 rfl) rfl rfl hl.1 rfl (lv_room (Nat.le_of_ble_eq_true rfl)) dX3_rank_31 ⟨Nat.zero_le _, Nat.zero_le _⟩) (fun G7 H locs hq hP hS => ?_)
          have hX := hq
          refine lv_aload_n hx hb dX3_rank_34 rfl (lv_at hl 0 rfl) ?_
          refine lv_aload_n hx hb dX3_rank_35 rfl (lv_at hl 0 rfl) ?_
          refine k_get (C := RX3) (T := TX3) (N := 3) (ci := 3) (v := .ref (sA ad 5)) hx hb hts (fun _ h => List.mem_cons_of_mem _ (List.mem_append_left _ (List.mem_append_left _ (List.mem_append_right _ h)))) hown hC hP (hX.m 0 (by omega)) hX.o0 rfl 0 (by decide) (hts (.fieldLink RX3 10 "OrderedClauses" "store" "LOrderedClauses$Store;") (List.mem_of_getElem? (i := 3) rfl)) rfl dX3_rank_36 ?_
          refine lv_iload_n hx hb dX3_rank_39 rfl (lv_at hl 1 rfl) ?_
          refine lv_iload_n hx hb dX3_rank_40 rfl (lv_at hl 2 rfl) ?_
          obtain ⟨v8, w9, hv8, hN⟩ := oB2_spec hN
          refine k_iW hS (va_runVN (As := [.int p0, .int p1]) (rest := [.ref (ad 0)]) ⟨hx, hb, hml, hown, hts⟩ (c_X1_changeRank l g L hL G7 (sA ad 5) (sR ad 5) w6.1 hX.sm p0 p1 v8 w9 hv8) ⟨va_cnB 2 hts gX3_rank_X1_changeRank_n43 rfl rfl rfl (hC.2.1.2 (RX3, 43, yX1_changeRank, RX3) (List.mem_of_getElem? (i := 31) rfl)) (hts (.initialized RX1) (List.mem_of_getElem? (i := 15) rfl)) (by decide +kernel) ⟨Nat.le_of_ble_eq_true rfl, Nat.le_of_ble_eq_true rfl⟩, (hts (.instanceMethod yX1_changeRank) (List.mem_of_getElem? (i := 44) rfl)), (hts (.selects RX1 yX1_changeRank yX1_changeRank) (List.mem_of_getElem? (i := 45) rfl))⟩ (k_preV (C := RX1) (T := TX1) (N := 13) hC hS hP (vO.m hX.sm) (vO.o hX.sm) rfl) rfl rfl hl.1 rfl (lv_room (Nat.le_of_ble_eq_true rfl)) dX3_rank_41 ⟨Nat.zero_le _, Nat.zero_le _⟩) (fun G10 H locs hq hP hS => ?_)
          obtain ⟨hV1, hf1⟩ := hq
          have hX : vX g L G10 ad (w9, w6.2.1, w6.2.2.1, w6.2.2.2.1, w6.2.2.2.2) := vX.upM hX hV1 hf1
          obtain ⟨v11, w12, hv11, hN⟩ := oB2_spec hN
          refine k_iW hS (va_runV (As := [.int v8]) (rest := []) ⟨hx, hb, hml, hown, hts⟩ (c_X3_settle l g L hL G10 ad (w9, w6.2.1, w6.2.2.1, w6.2.2.2.1, w6.2.2.2.2) hX v8 v11 w12 hv11) (cwV 1 hts gX3_rank_X3_settle rfl rfl rfl (by decide +kernel) ⟨Nat.le_of_ble_eq_true rfl, Nat.le_of_ble_eq_true rfl⟩) (k_preV (C := RX3) (T := TX3) (N := 3) hC hS hP (hX.m 0 (by omega)) hX.o0 rfl) rfl rfl hl.1 rfl (lv_room (Nat.le_of_ble_eq_true rfl)) dX3_rank_44 ⟨Nat.zero_le _, Nat.zero_le _⟩) (fun G13 H locs hq hP hS => ?_)
          have hX := hq
          obtain ⟨hE, hE2⟩ := spair hN
          exact k_iretW hx hb hr hE (hE2 ▸ hX) hP hS hlk dX3_rank_47
        · rw [if_neg c4] at hN
          refine lv_ldc (v := (-1000001)) hx hb hown (hts (.constant RX3 30 (-1000001)) (List.mem_of_getElem? (i := 1) rfl)) dX3_rank_20 ?_
          obtain ⟨hE, hE2⟩ := spair hN
          exact k_iretW hx hb hr hE (hE2 ▸ hX) hP hS hlk dX3_rank_22
set_option maxHeartbeats 4000000 in
set_option maxRecDepth 100000 in
theorem c_X3_set (l : Launch) (g : Gm) (L : List Nat) {A : Nat → Prop} (hL : kL L A) (G : Nat → va_E) (ad : Nat → Nat) (x : XS) (hX : vX g L G ad x) (p0 : Int32) (v : Int32) (w : XS) (hF : F_X3_set x p0 = some (v, w)) : Met l yX3_set wsX3_set ({ frames := 5, cells := 0, slots := 0, locals := 148 } : Room) (va_Pc [.ref (ad 0), .int p0] (kB g L A G)) (va_Qi (fun x9 (G9 : Nat → va_E) => x9 = v ∧ (vX g L G9 ad w)) (kE g L) A) 0 0 A := by
  refine Met.ofW (cc := cX3_set) (maxL := 3) (ret := (some .int)) (by decide) rfl ?_
  intro p e s m args below meth c s₁ B hml hv
  obtain ⟨rfl, hP, hC⟩ := hv
  have hx := B.exec
  have hb := B.bytes
  have hr := B.returns
  have hts := atoms_spec (ws := wsX3_set) B.pre
  have hown : s.vm.findClass RX3 = some m.cls := findClass_of_methodNamed B.named
  have hlk := B.notSynchronized
  have hS : va_S A s.heap s.heap [] := va_S.rf
  have hl := lv_entry ([.ref (ad 0), .int p0]) (n := 3) (Nat.le_of_ble_eq_true rfl)
  rw [lg_entry_eq]
  generalize (lg_sl ([.ref (ad 0), .int p0]) ++ List.replicate (3 - (lg_sl ([.ref (ad 0), .int p0])).length) Slot.unset).toArray = ls at hl ⊢
  have hl : lv_has ls 3 [(0, .ref (ad 0)), (1, .int p0)] := hl
  have hN := hF
  unfold F_X3_set at hN
  refine lv_iload_n hx hb dX3_set_0 rfl (lv_at hl 1 rfl) ?_
  refine lv_iconst (v := 1) hx hb dX3_set_1 (by decide) ?_
  refine lv_icmp_lt (tgt := 11) hx hb dX3_set_2 (by decide) (fun c1 => ?_) (fun c1 => ?_)
  · rw [if_pos c1] at hN
    refine lv_ldc (v := (-1000001)) hx hb hown (hts (.constant RX3 30 (-1000001)) (List.mem_of_getElem? (i := 1) rfl)) dX3_set_11 ?_
    obtain ⟨hE, hE2⟩ := spair hN
    exact k_iretW hx hb hr hE (hE2 ▸ hX) hP hS hlk dX3_set_13
  · rw [if_neg c1] at hN
    refine lv_iload_n hx hb dX3_set_5 rfl (lv_at hl 1 rfl) ?_
    refine lv_bipush (v := 9) hx hb dX3_set_6 (by decide) ?_
    refine lv_icmp_le (tgt := 14) hx hb dX3_set_8 (by decide) (fun c2 => ?_) (fun c2 => ?_)
    · rw [if_pos c2] at hN
      refine lv_aload_n hx hb dX3_set_14 rfl (lv_at hl 0 rfl) ?_
      refine k_get (C := RX3) (T := TX3) (N := 3) (ci := 3) (v := .ref (ad 1)) hx hb hts (fun _ h => List.mem_cons_of_mem _ (List.mem_append_left _ (List.mem_append_left _ (List.mem_append_right _ h)))) hown hC hP (hX.m 0 (by omega)) hX.o0 rfl 1 (by decide) (hts (.fieldLink RX3 19 "OrderedClauses" "history" "LOrderedClauses$History;") (List.mem_of_getElem? (i := 2) rfl)) rfl dX3_set_15 ?_
      refine lv_aload_n hx hb dX3_set_18 rfl (lv_at hl 0 rfl) ?_
      refine k_get (C := RX3) (T := TX3) (N := 3) (ci := 3) (v := .ref (sA ad 5)) hx hb hts (fun _ h => List.mem_cons_of_mem _ (List.mem_append_left _ (List.mem_append_left _ (List.mem_append_right _ h)))) hown hC hP (hX.m 0 (by omega)) hX.o0 rfl 0 (by decide) (hts (.fieldLink RX3 10 "OrderedClauses" "store" "LOrderedClauses$Store;") (List.mem_of_getElem? (i := 3) rfl)) rfl dX3_set_19 ?_
      obtain ⟨w4, hw4, hN⟩ := oB_spec hN
      refine k_v hS (va_runVN (As := [.ref (sA ad 5)]) (rest := []) ⟨hx, hb, hml, hown, hts⟩ (c_X0_putAside l g L hL G ad (x.1, x.2.1, x.2.2.1, x.2.2.2.1, x.2.2.2.2) hX w4 hw4) ⟨va_cnB 1 hts gX3_set_X0_putAside_n31 rfl rfl rfl (hC.2.1.2 (RX3, 31, yX0_putAside, RX3) (List.mem_of_getElem? (i := 23) rfl)) (hts (.initialized RX0) (List.mem_of_getElem? (i := 5) rfl)) (by decide +kernel) ⟨Nat.le_of_ble_eq_true rfl, Nat.le_of_ble_eq_true rfl⟩, (hts (.instanceMethod yX0_putAside) (List.mem_of_getElem? (i := 4) rfl)), (hts (.selects RX0 yX0_putAside yX0_putAside) (List.mem_of_getElem? (i := 6) rfl))⟩ (k_preV (C := RX0) (T := TX0) (N := 2) hC hS hP (hX.m 1 (by omega)) hX.o1 rfl) rfl rfl hl.1 rfl (lv_room (Nat.le_of_ble_eq_true rfl)) dX3_set_22 ⟨Nat.zero_le _, Nat.zero_le _⟩) (fun G5 H locs hq hP hS => ?_)
      have hX := hq
      refine lv_aload_n hx hb dX3_set_25 rfl (lv_at hl 0 rfl) ?_
      refine k_get (C := RX3) (T := TX3) (N := 3) (ci := 3) (v := .ref (sA ad 5)) hx hb hts (fun _ h => List.mem_cons_of_mem _ (List.mem_append_left _ (List.mem_append_left _ (List.mem_append_right _ h)))) hown hC hP (hX.m 0 (by omega)) hX.o0 rfl 0 (by decide) (hts (.fieldLink RX3 10 "OrderedClauses" "store" "LOrderedClauses$Store;") (List.mem_of_getElem? (i := 3) rfl)) rfl dX3_set_26 ?_
      refine k_getN (C := RX1) (T := TX1) (N := 13) (ci := 1) (v := .int (w4.1.2.2 2)) hx hb hts (fun _ h => List.mem_cons_of_mem _ (List.mem_append_left _ (List.mem_append_right _ h))) hown hC hP (vO.m hX.sm) (vO.o hX.sm) rfl 10 (by decide) (hC.2.1.1 (RX3, 47, RX1, "setting", "I", RX3) (List.mem_of_getElem? (i := 8) rfl)) rfl dX3_set_29 ?_
      refine lv_istore_n (lv' := [(2, .int (w4.1.2.2 2)), (0, .ref (ad 0)), (1, .int p0)]) hx hb dX3_set_32 rfl hl (by decide) rfl (fun ls hl => ?_)
      refine lv_aload_n hx hb dX3_set_33 rfl (lv_at hl 1 rfl) ?_
      refine k_get (C := RX3) (T := TX3) (N := 3) (ci := 3) (v := .ref (sA ad 5)) hx hb hts (fun _ h => List.mem_cons_of_mem _ (List.mem_append_left _ (List.mem_append_left _ (List.mem_append_right _ h)))) hown hC hP (hX.m 0 (by omega)) hX.o0 rfl 0 (by decide) (hts (.fieldLink RX3 10 "OrderedClauses" "store" "LOrderedClauses$Store;") (List.mem_of_getElem? (i := 3) rfl)) rfl dX3_set_34 ?_
      refine lv_iload_n hx hb dX3_set_37 rfl (lv_at hl 2 rfl) ?_
      refine k_putNE (C := RX1) (T := TX1) (N := 13) (ci := 1) hx hb hts (fun _ h => List.mem_cons_of_mem _ (List.mem_append_left _ (List.mem_append_right _ h))) tyX1 tyX1_ok nmX1 hown hL hC hP hS (vO.m hX.sm) (vO.o hX.sm) rfl 10 (by decide) (hC.2.1.1 (RX3, 47, RX1, "setting", "I", RX3) (List.mem_of_getElem? (i := 8) rfl)) (by decide +kernel) (by decide +kernel) (Nat.le_of_ble_eq_true rfl) dX3_set_38 (fun G6 H locs hq hP hS => ?_)
      have hV1 : vS g L G6 (sA ad 5) (sR ad 5) (w4.1.1, w4.1.2.1, va_up w4.1.2.2 2 p0) := by rw [hq]; exact vO.setK (f := w4.1.1) (gg := w4.1.2.1) (k := w4.1.2.2) hX.sm rfl
      have hf1 : frS (sA ad 5) (sR ad 5) 8 G5 G6 := by rw [hq]; exact vO.frK frS.rf _
      have hX : vX g L G6 ad ((w4.1.1, w4.1.2.1, va_up w4.1.2.2 2 p0), w4.2.1, w4.2.2.1, w4.2.2.2.1, w4.2.2.2.2) := vX.upM hX hV1 hf1
      refine lv_aload_n hx hb dX3_set_41 rfl (lv_at hl 1 rfl) ?_
      refine lv_iload_n hx hb dX3_set_42 rfl (lv_at hl 0 rfl) ?_
      obtain ⟨v7, w8, hv7, hN⟩ := oB2_spec hN
      refine k_iW hS (va_runV (As := [.int (w4.1.2.2 2)]) (rest := []) ⟨hx, hb, hml, hown, hts⟩ (c_X3_settle l g L hL G6 ad ((w4.1.1, w4.1.2.1, va_up w4.1.2.2 2 p0), w4.2.1, w4.2.2.1, w4.2.2.2.1, w4.2.2.2.2) hX (w4.1.2.2 2) v7 w8 hv7) (cwV 1 hts gX3_set_X3_settle rfl rfl rfl (by decide +kernel) ⟨Nat.le_of_ble_eq_true rfl, Nat.le_of_ble_eq_true rfl⟩) (k_preV (C := RX3) (T := TX3) (N := 3) hC hS hP (hX.m 0 (by omega)) hX.o0 rfl) rfl rfl hl.1 rfl (lv_room (Nat.le_of_ble_eq_true rfl)) dX3_set_43 ⟨Nat.zero_le _, Nat.zero_le _⟩) (fun G9 H locs hq hP hS => ?_)
      have hX := hq
      obtain ⟨hE, hE2⟩ := spair hN
      exact k_iretW hx hb hr hE (hE2 ▸ hX) hP hS hlk dX3_set_46
    · rw [if_neg c2] at hN
      refine lv_ldc (v := (-1000001)) hx hb hown (hts (.constant RX3 30 (-1000001)) (List.mem_of_getElem? (i := 1) rfl)) dX3_set_11 ?_
      obtain ⟨hE, hE2⟩ := spair hN
      exact k_iretW hx hb hr hE (hE2 ▸ hX) hP hS hlk dX3_set_13
set_option maxHeartbeats 4000000 in
set_option maxRecDepth 100000 in
theorem c_X3_step (l : Launch) (g : Gm) (L : List Nat) {A : Nat → Prop} (hL : kL L A) (G : Nat → va_E) (ad : Nat → Nat) (x : XS) (hX : vX g L G ad x) (v : Int32) (w : XS) (hF : F_X3_step x = some (v, w)) : Met l yX3_step wsX3_step ({ frames := 6, cells := 0, slots := 0, locals := 148 } : Room) (va_Pc [.ref (ad 0)] (kB g L A G)) (va_Qi (fun x9 (G9 : Nat → va_E) => x9 = v ∧ (vX g L G9 ad w)) (kE g L) A) 0 0 A := by
  refine Met.ofW (cc := cX3_step) (maxL := 1) (ret := (some .int)) (by decide) rfl ?_
  intro p e s m args below meth c s₁ B hml hv
  obtain ⟨rfl, hP, hC⟩ := hv
  have hx := B.exec
  have hb := B.bytes
  have hr := B.returns
  have hts := atoms_spec (ws := wsX3_step) B.pre
  have hown : s.vm.findClass RX3 = some m.cls := findClass_of_methodNamed B.named
  have hlk := B.notSynchronized
  have hS : va_S A s.heap s.heap [] := va_S.rf
  have hl := lv_entry ([.ref (ad 0)]) (n := 1) (Nat.le_of_ble_eq_true rfl)
  rw [lg_entry_eq]
  generalize (lg_sl ([.ref (ad 0)]) ++ List.replicate (1 - (lg_sl ([.ref (ad 0)])).length) Slot.unset).toArray = ls at hl ⊢
  have hl : lv_has ls 1 [(0, .ref (ad 0))] := hl
  have hN := hF
  unfold F_X3_step at hN
  refine lv_aload_n hx hb dX3_step_0 rfl (lv_at hl 0 rfl) ?_
  refine k_get (C := RX3) (T := TX3) (N := 3) (ci := 3) (v := .ref (ad 1)) hx hb hts (fun _ h => List.mem_cons_of_mem _ (List.mem_append_left _ (List.mem_append_left _ (List.mem_append_right _ h)))) hown hC hP (hX.m 0 (by omega)) hX.o0 rfl 1 (by decide) (hts (.fieldLink RX3 19 "OrderedClauses" "history" "LOrderedClauses$History;") (List.mem_of_getElem? (i := 1) rfl)) rfl dX3_step_1 ?_
  refine lv_aload_n hx hb dX3_step_4 rfl (lv_at hl 0 rfl) ?_
  refine k_get (C := RX3) (T := TX3) (N := 3) (ci := 3) (v := .ref (sA ad 5)) hx hb hts (fun _ h => List.mem_cons_of_mem _ (List.mem_append_left _ (List.mem_append_left _ (List.mem_append_right _ h)))) hown hC hP (hX.m 0 (by omega)) hX.o0 rfl 0 (by decide) (hts (.fieldLink RX3 10 "OrderedClauses" "store" "LOrderedClauses$Store;") (List.mem_of_getElem? (i := 2) rfl)) rfl dX3_step_5 ?_
  obtain ⟨w2, hw2, hN⟩ := oB_spec hN
  refine k_v hS (va_runVN (As := [.ref (sA ad 5)]) (rest := []) ⟨hx, hb, hml, hown, hts⟩ (c_X0_putAside l g L hL G ad (x.1, x.2.1, x.2.2.1, x.2.2.2.1, x.2.2.2.2) hX w2 hw2) ⟨va_cnB 1 hts gX3_step_X0_putAside_n31 rfl rfl rfl (hC.2.1.2 (RX3, 31, yX0_putAside, RX3) (List.mem_of_getElem? (i := 23) rfl)) (hts (.initialized RX0) (List.mem_of_getElem? (i := 4) rfl)) (by decide +kernel) ⟨Nat.le_of_ble_eq_true rfl, Nat.le_of_ble_eq_true rfl⟩, (hts (.instanceMethod yX0_putAside) (List.mem_of_getElem? (i := 3) rfl)), (hts (.selects RX0 yX0_putAside yX0_putAside) (List.mem_of_getElem? (i := 5) rfl))⟩ (k_preV (C := RX0) (T := TX0) (N := 2) hC hS hP (hX.m 1 (by omega)) hX.o1 rfl) rfl rfl hl.1 rfl (lv_room (Nat.le_of_ble_eq_true rfl)) dX3_step_8 ⟨Nat.zero_le _, Nat.zero_le _⟩) (fun G3 H locs hq hP hS => ?_)
  have hX := hq
  refine lv_aload_n hx hb dX3_step_11 rfl (lv_at hl 0 rfl) ?_
  refine lv_aload_n hx hb dX3_step_12 rfl (lv_at hl 0 rfl) ?_
  refine k_get (C := RX3) (T := TX3) (N := 3) (ci := 3) (v := .ref (sA ad 5)) hx hb hts (fun _ h => List.mem_cons_of_mem _ (List.mem_append_left _ (List.mem_append_left _ (List.mem_append_right _ h)))) hown hC hP (hX.m 0 (by omega)) hX.o0 rfl 0 (by decide) (hts (.fieldLink RX3 10 "OrderedClauses" "store" "LOrderedClauses$Store;") (List.mem_of_getElem? (i := 2) rfl)) rfl dX3_step_13 ?_
  obtain ⟨v4, w5, hv4, hN⟩ := oB2_spec hN
  refine k_iW hS (va_runVN (As := []) (rest := [.ref (ad 0)]) ⟨hx, hb, hml, hown, hts⟩ (c_X1_takeStep l g L hL G3 (sA ad 5) (sR ad 5) w2.1 hX.sm v4 w5 hv4) ⟨va_cnB 0 hts gX3_step_X1_takeStep_n51 rfl rfl rfl (hC.2.1.2 (RX3, 51, yX1_takeStep, RX3) (List.mem_of_getElem? (i := 32) rfl)) (hts (.initialized RX1) (List.mem_of_getElem? (i := 14) rfl)) (by decide +kernel) ⟨Nat.le_of_ble_eq_true rfl, Nat.le_of_ble_eq_true rfl⟩, (hts (.instanceMethod yX1_takeStep) (List.mem_of_getElem? (i := 43) rfl)), (hts (.selects RX1 yX1_takeStep yX1_takeStep) (List.mem_of_getElem? (i := 44) rfl))⟩ (k_preV (C := RX1) (T := TX1) (N := 13) hC hS hP (vO.m hX.sm) (vO.o hX.sm) rfl) rfl rfl hl.1 rfl (lv_room (Nat.le_of_ble_eq_true rfl)) dX3_step_16 ⟨Nat.zero_le _, Nat.zero_le _⟩) (fun G6 H locs hq hP hS => ?_)
  obtain ⟨hV1, hf1⟩ := hq
  have hX : vX g L G6 ad (w5, w2.2.1, w2.2.2.1, w2.2.2.2.1, w2.2.2.2.2) := vX.upM hX hV1 hf1
  obtain ⟨v7, w8, hv7, hN⟩ := oB2_spec hN
  refine k_iW hS (va_runV (As := [.int v4]) (rest := []) ⟨hx, hb, hml, hown, hts⟩ (c_X3_settle l g L hL G6 ad (w5, w2.2.1, w2.2.2.1, w2.2.2.2.1, w2.2.2.2.2) hX v4 v7 w8 hv7) (cwV 1 hts gX3_step_X3_settle rfl rfl rfl (by decide +kernel) ⟨Nat.le_of_ble_eq_true rfl, Nat.le_of_ble_eq_true rfl⟩) (k_preV (C := RX3) (T := TX3) (N := 3) hC hS hP (hX.m 0 (by omega)) hX.o0 rfl) rfl rfl hl.1 rfl (lv_room (Nat.le_of_ble_eq_true rfl)) dX3_step_19 ⟨Nat.zero_le _, Nat.zero_le _⟩) (fun G9 H locs hq hP hS => ?_)
  have hX := hq
  obtain ⟨hE, hE2⟩ := spair hN
  exact k_iretW hx hb hr hE (hE2 ▸ hX) hP hS hlk dX3_step_22
set_option maxHeartbeats 4000000 in
set_option maxRecDepth 100000 in
theorem c_X3_run (l : Launch) (g : Gm) (L : List Nat) {A : Nat → Prop} (hL : kL L A) (G : Nat → va_E) (ad : Nat → Nat) (x : XS) (hX : vX g L G ad x) (p0 : Int32) (v : Int32) (w : XS) (hF : F_X3_run x p0 = some (v, w)) : Met l yX3_run wsX3_run ({ frames := 6, cells := 0, slots := 0, locals := 148 } : Room) (va_Pc [.ref (ad 0), .int p0] (kB g L A G)) (va_Qi (fun x9 (G9 : Nat → va_E) => x9 = v ∧ (vX g L G9 ad w)) (kE g L) A) 0 0 A := by
  refine Met.ofW (cc := cX3_run) (maxL := 5) (ret := (some .int)) (by decide) rfl ?_
  intro p e s m args below meth c s₁ B hml hv
  obtain ⟨rfl, hP, hC⟩ := hv
  have hx := B.exec
  have hb := B.bytes
  have hr := B.returns
  have hts := atoms_spec (ws := wsX3_run) B.pre
  have hown : s.vm.findClass RX3 = some m.cls := findClass_of_methodNamed B.named
  have hlk := B.notSynchronized
  have hS : va_S A s.heap s.heap [] := va_S.rf
  have lp29 : ∀ (n : Nat) (x : XS) (x1 : Int32) (x2 : Int32) (x3 : Int32) (G1 : Nat → va_E) (H : Heap) (locs : List Loc) (ls : Array Slot), vX g L G1 ad x → va_P g.1 vwCl (va_pl L G1) H → va_S A s.heap H locs → lv_has ls 5 [(0, .ref (ad 0)), (1, .int x1), (2, .int x2), (3, .int x3)] → FL_X3_run_29  n x x1 x2 x3 = some (v, w) → W p l e (headSpec wsX3_run ({ frames := 6, cells := 0, slots := 0, locals := 148 } : Room)).room s m ([.ref (ad 0), .int p0] : List Value).toArray below meth c H locs 0 0 (MQ below (va_Qi (fun x9 (G9 : Nat → va_E) => x9 = v ∧ (vX g L G9 ad w)) (kE g L) A) ([.ref (ad 0), .int p0] : List Value).toArray s 0 0 A) (F0 m 29 ls []) := by
    intro n
    induction n with
    | zero =>
      intro x x1 x2 x3 G1 H locs ls hX hP hS hl hN
      exact absurd hN (by simp [FL_X3_run_29])
    | succ n ih =>
      intro x x1 x2 x3 G1 H locs ls hX hP hS hl hN
      rw [FL_X3_run_29] at hN
      refine lv_iload_n hx hb dX3_run_29 rfl (lv_at hl 3 rfl) ?_
      refine lv_iload_n hx hb dX3_run_30 rfl (lv_at hl 1 rfl) ?_
      refine lv_icmp_ge (tgt := 76) hx hb dX3_run_31 (by decide) (fun c6 => ?_) (fun c6 => ?_)
      · rw [if_pos c6] at hN
        refine lv_aload_n hx hb dX3_run_76 rfl (lv_at hl 0 rfl) ?_
        refine lv_iload_n hx hb dX3_run_77 rfl (lv_at hl 2 rfl) ?_
        obtain ⟨v7, w8, hv7, hN⟩ := oB2_spec hN
        refine k_iW hS (va_runV (As := [.int x2]) (rest := []) ⟨hx, hb, hml, hown, hts⟩ (c_X3_settle l g L hL G1 ad (x.1, x.2.1, x.2.2.1, x.2.2.2.1, x.2.2.2.2) hX x2 v7 w8 hv7) (cwV 1 hts gX3_run_X3_settle rfl rfl rfl (by decide +kernel) ⟨Nat.le_of_ble_eq_true rfl, Nat.le_of_ble_eq_true rfl⟩) (k_preV (C := RX3) (T := TX3) (N := 3) hC hS hP (hX.m 0 (by omega)) hX.o0 rfl) rfl rfl hl.1 rfl (lv_room (Nat.le_of_ble_eq_true rfl)) dX3_run_78 ⟨Nat.zero_le _, Nat.zero_le _⟩) (fun G9 H locs hq hP hS => ?_)
        have hX := hq
        obtain ⟨hE, hE2⟩ := spair hN
        exact k_iretW hx hb hr hE (hE2 ▸ hX) hP hS hlk dX3_run_81
      · rw [if_neg c6] at hN
        refine lv_aload_n hx hb dX3_run_34 rfl (lv_at hl 0 rfl) ?_
        refine k_get (C := RX3) (T := TX3) (N := 3) (ci := 3) (v := .ref (sA ad 5)) hx hb hts (fun _ h => List.mem_cons_of_mem _ (List.mem_append_left _ (List.mem_append_left _ (List.mem_append_right _ h)))) hown hC hP (hX.m 0 (by omega)) hX.o0 rfl 0 (by decide) (hts (.fieldLink RX3 10 "OrderedClauses" "store" "LOrderedClauses$Store;") (List.mem_of_getElem? (i := 3) rfl)) rfl dX3_run_35 ?_
        obtain ⟨v10, w11, hv10, hN⟩ := oB2_spec hN
        refine k_iW hS (va_runVN (As := []) (rest := []) ⟨hx, hb, hml, hown, hts⟩ (c_X1_takeStep l g L hL G1 (sA ad 5) (sR ad 5) x.1 hX.sm v10 w11 hv10) ⟨va_cnB 0 hts gX3_run_X1_takeStep_n51 rfl rfl rfl (hC.2.1.2 (RX3, 51, yX1_takeStep, RX3) (List.mem_of_getElem? (i := 32) rfl)) (hts (.initialized RX1) (List.mem_of_getElem? (i := 17) rfl)) (by decide +kernel) ⟨Nat.le_of_ble_eq_true rfl, Nat.le_of_ble_eq_true rfl⟩, (hts (.instanceMethod yX1_takeStep) (List.mem_of_getElem? (i := 46) rfl)), (hts (.selects RX1 yX1_takeStep yX1_takeStep) (List.mem_of_getElem? (i := 47) rfl))⟩ (k_preV (C := RX1) (T := TX1) (N := 13) hC hS hP (vO.m hX.sm) (vO.o hX.sm) rfl) rfl rfl hl.1 rfl (lv_room (Nat.le_of_ble_eq_true rfl)) dX3_run_38 ⟨Nat.zero_le _, Nat.zero_le _⟩) (fun G12 H locs hq hP hS => ?_)
        obtain ⟨hV1, hf1⟩ := hq
        have hX : vX g L G12 ad (w11, x.2.1, x.2.2.1, x.2.2.2.1, x.2.2.2.2) := vX.upM hX hV1 hf1
        refine lv_istore (lv' := [(4, .int v10), (0, .ref (ad 0)), (1, .int x1), (2, .int x2), (3, .int x3)]) hx hb dX3_run_41 hl (by decide) rfl (fun ls hl => ?_)
        refine lv_iload hx hb dX3_run_43 (lv_at hl 0 rfl) ?_
        refine lv_ldc (v := (-1000003)) hx hb hown (hts (.constant RX3 55 (-1000003)) (List.mem_of_getElem? (i := 4) rfl)) dX3_run_45 ?_
        refine lv_icmp_ne (tgt := 57) hx hb dX3_run_47 (by decide) (fun c13 => ?_) (fun c13 => ?_)
        · rw [if_neg c13] at hN
          refine lv_iload hx hb dX3_run_57 (lv_at hl 0 rfl) ?_
          refine lv_ldc (v := (-1000002)) hx hb hown (hts (.constant RX3 56 (-1000002)) (List.mem_of_getElem? (i := 5) rfl)) dX3_run_59 ?_
          refine lv_icmp_ne (tgt := 67) hx hb dX3_run_61 (by decide) (fun c14 => ?_) (fun c14 => ?_)
          · rw [if_neg c14] at hN
            refine lv_iinc (v := (x2 + 1)) (lv' := [(2, .int (x2 + 1)), (4, .int v10), (0, .ref (ad 0)), (1, .int x1), (3, .int x3)]) hx hb dX3_run_67 hl (k := 3) rfl rfl (by decide) rfl (fun ls hl => ?_)
            refine lv_iinc (v := (x3 + 1)) (lv' := [(3, .int (x3 + 1)), (2, .int (x2 + 1)), (4, .int v10), (0, .ref (ad 0)), (1, .int x1)]) hx hb dX3_run_70 hl (k := 4) rfl rfl (by decide) rfl (fun ls hl => ?_)
            refine lv_goto (tgt := 29) hx hb dX3_run_73 (by decide) ?_
            exact ih (w11, x.2.1, x.2.2.1, x.2.2.2.1, x.2.2.2.2) x1 (x2 + 1) (x3 + 1)  _ _ _ _ hX hP hS (lv_sub hl [3, 4, 1, 0] rfl) hN
          · rw [if_pos c14] at hN
            refine lv_goto (tgt := 76) hx hb dX3_run_64 (by decide) ?_
            refine lv_aload_n hx hb dX3_run_76 rfl (lv_at hl 1 rfl) ?_
            refine lv_iload_n hx hb dX3_run_77 rfl (lv_at hl 3 rfl) ?_
            obtain ⟨v15, w16, hv15, hN⟩ := oB2_spec hN
            refine k_iW hS (va_runV (As := [.int x2]) (rest := []) ⟨hx, hb, hml, hown, hts⟩ (c_X3_settle l g L hL G12 ad (w11, x.2.1, x.2.2.1, x.2.2.2.1, x.2.2.2.2) hX x2 v15 w16 hv15) (cwV 1 hts gX3_run_X3_settle rfl rfl rfl (by decide +kernel) ⟨Nat.le_of_ble_eq_true rfl, Nat.le_of_ble_eq_true rfl⟩) (k_preV (C := RX3) (T := TX3) (N := 3) hC hS hP (hX.m 0 (by omega)) hX.o0 rfl) rfl rfl hl.1 rfl (lv_room (Nat.le_of_ble_eq_true rfl)) dX3_run_78 ⟨Nat.zero_le _, Nat.zero_le _⟩) (fun G17 H locs hq hP hS => ?_)
            have hX := hq
            obtain ⟨hE, hE2⟩ := spair hN
            exact k_iretW hx hb hr hE (hE2 ▸ hX) hP hS hlk dX3_run_81
        · rw [if_pos c13] at hN
          refine lv_aload_n hx hb dX3_run_50 rfl (lv_at hl 1 rfl) ?_
          refine lv_ldc (v := (-1000003)) hx hb hown (hts (.constant RX3 55 (-1000003)) (List.mem_of_getElem? (i := 4) rfl)) dX3_run_51 ?_
          obtain ⟨v18, w19, hv18, hN⟩ := oB2_spec hN
          refine k_iW hS (va_runV (As := [.int ((-1000003) : Int32)]) (rest := []) ⟨hx, hb, hml, hown, hts⟩ (c_X3_settle l g L hL G12 ad (w11, x.2.1, x.2.2.1, x.2.2.2.1, x.2.2.2.2) hX ((-1000003) : Int32) v18 w19 hv18) (cwV 1 hts gX3_run_X3_settle rfl rfl rfl (by decide +kernel) ⟨Nat.le_of_ble_eq_true rfl, Nat.le_of_ble_eq_true rfl⟩) (k_preV (C := RX3) (T := TX3) (N := 3) hC hS hP (hX.m 0 (by omega)) hX.o0 rfl) rfl rfl hl.1 rfl (lv_room (Nat.le_of_ble_eq_true rfl)) dX3_run_53 ⟨Nat.zero_le _, Nat.zero_le _⟩) (fun G20 H locs hq hP hS => ?_)
          have hX := hq
          obtain ⟨hE, hE2⟩ := spair hN
          exact k_iretW hx hb hr hE (hE2 ▸ hX) hP hS hlk dX3_run_56
  have hl := lv_entry ([.ref (ad 0), .int p0]) (n := 5) (Nat.le_of_ble_eq_true rfl)
  rw [lg_entry_eq]
  generalize (lg_sl ([.ref (ad 0), .int p0]) ++ List.replicate (5 - (lg_sl ([.ref (ad 0), .int p0])).length) Slot.unset).toArray = ls at hl ⊢
  have hl : lv_has ls 5 [(0, .ref (ad 0)), (1, .int p0)] := hl
  have hN := hF
  unfold F_X3_run at hN
  refine lv_iload_n hx hb dX3_run_0 rfl (lv_at hl 1 rfl) ?_
  refine lv_iconst (v := 1) hx hb dX3_run_1 (by decide) ?_
  refine lv_icmp_lt (tgt := 11) hx hb dX3_run_2 (by decide) (fun c1 => ?_) (fun c1 => ?_)
  · rw [if_pos c1] at hN
    refine lv_ldc (v := (-1000001)) hx hb hown (hts (.constant RX3 30 (-1000001)) (List.mem_of_getElem? (i := 1) rfl)) dX3_run_11 ?_
    obtain ⟨hE, hE2⟩ := spair hN
    exact k_iretW hx hb hr hE (hE2 ▸ hX) hP hS hlk dX3_run_13
  · rw [if_neg c1] at hN
    refine lv_iload_n hx hb dX3_run_5 rfl (lv_at hl 1 rfl) ?_
    refine lv_bipush (v := 40) hx hb dX3_run_6 (by decide) ?_
    refine lv_icmp_le (tgt := 14) hx hb dX3_run_8 (by decide) (fun c2 => ?_) (fun c2 => ?_)
    · rw [if_pos c2] at hN
      refine lv_aload_n hx hb dX3_run_14 rfl (lv_at hl 0 rfl) ?_
      refine k_get (C := RX3) (T := TX3) (N := 3) (ci := 3) (v := .ref (ad 1)) hx hb hts (fun _ h => List.mem_cons_of_mem _ (List.mem_append_left _ (List.mem_append_left _ (List.mem_append_right _ h)))) hown hC hP (hX.m 0 (by omega)) hX.o0 rfl 1 (by decide) (hts (.fieldLink RX3 19 "OrderedClauses" "history" "LOrderedClauses$History;") (List.mem_of_getElem? (i := 2) rfl)) rfl dX3_run_15 ?_
      refine lv_aload_n hx hb dX3_run_18 rfl (lv_at hl 0 rfl) ?_
      refine k_get (C := RX3) (T := TX3) (N := 3) (ci := 3) (v := .ref (sA ad 5)) hx hb hts (fun _ h => List.mem_cons_of_mem _ (List.mem_append_left _ (List.mem_append_left _ (List.mem_append_right _ h)))) hown hC hP (hX.m 0 (by omega)) hX.o0 rfl 0 (by decide) (hts (.fieldLink RX3 10 "OrderedClauses" "store" "LOrderedClauses$Store;") (List.mem_of_getElem? (i := 3) rfl)) rfl dX3_run_19 ?_
      obtain ⟨w4, hw4, hN⟩ := oB_spec hN
      refine k_v hS (va_runVN (As := [.ref (sA ad 5)]) (rest := []) ⟨hx, hb, hml, hown, hts⟩ (c_X0_putAside l g L hL G ad (x.1, x.2.1, x.2.2.1, x.2.2.2.1, x.2.2.2.2) hX w4 hw4) ⟨va_cnB 1 hts gX3_run_X0_putAside_n31 rfl rfl rfl (hC.2.1.2 (RX3, 31, yX0_putAside, RX3) (List.mem_of_getElem? (i := 23) rfl)) (hts (.initialized RX0) (List.mem_of_getElem? (i := 7) rfl)) (by decide +kernel) ⟨Nat.le_of_ble_eq_true rfl, Nat.le_of_ble_eq_true rfl⟩, (hts (.instanceMethod yX0_putAside) (List.mem_of_getElem? (i := 6) rfl)), (hts (.selects RX0 yX0_putAside yX0_putAside) (List.mem_of_getElem? (i := 8) rfl))⟩ (k_preV (C := RX0) (T := TX0) (N := 2) hC hS hP (hX.m 1 (by omega)) hX.o1 rfl) rfl rfl hl.1 rfl (lv_room (Nat.le_of_ble_eq_true rfl)) dX3_run_22 ⟨Nat.zero_le _, Nat.zero_le _⟩) (fun G5 H locs hq hP hS => ?_)
      have hX := hq
      refine lv_iconst (v := 0) hx hb dX3_run_25 (by decide) ?_
      refine lv_istore_n (lv' := [(2, .int (0 : Int32)), (0, .ref (ad 0)), (1, .int p0)]) hx hb dX3_run_26 rfl hl (by decide) rfl (fun ls hl => ?_)
      refine lv_iconst (v := 0) hx hb dX3_run_27 (by decide) ?_
      refine lv_istore_n (lv' := [(3, .int (0 : Int32)), (2, .int (0 : Int32)), (0, .ref (ad 0)), (1, .int p0)]) hx hb dX3_run_28 rfl hl (by decide) rfl (fun ls hl => ?_)
      exact lp29 fuel (w4.1, w4.2.1, w4.2.2.1, w4.2.2.2.1, w4.2.2.2.2) p0 (0 : Int32) (0 : Int32)  _ _ _ _ hX hP hS (lv_sub hl [2, 3, 1, 0] rfl) hN
    · rw [if_neg c2] at hN
      refine lv_ldc (v := (-1000001)) hx hb hown (hts (.constant RX3 30 (-1000001)) (List.mem_of_getElem? (i := 1) rfl)) dX3_run_11 ?_
      obtain ⟨hE, hE2⟩ := spair hN
      exact k_iretW hx hb hr hE (hE2 ▸ hX) hP hS hlk dX3_run_13
set_option maxHeartbeats 4000000 in
set_option maxRecDepth 100000 in
theorem c_X3_empty (l : Launch) (g : Gm) (L : List Nat) {A : Nat → Prop} (hL : kL L A) (G : Nat → va_E) (ad : Nat → Nat) (x : XS) (hX : vX g L G ad x) (v : Int32) (w : XS) (hF : F_X3_empty x = some (v, w)) : Met l yX3_empty wsX3_empty ({ frames := 5, cells := 0, slots := 0, locals := 148 } : Room) (va_Pc [.ref (ad 0)] (kB g L A G)) (va_Qi (fun x9 (G9 : Nat → va_E) => x9 = v ∧ (vX g L G9 ad w)) (kE g L) A) 0 0 A := by
  refine Met.ofW (cc := cX3_empty) (maxL := 2) (ret := (some .int)) (by decide) rfl ?_
  intro p e s m args below meth c s₁ B hml hv
  obtain ⟨rfl, hP, hC⟩ := hv
  have hx := B.exec
  have hb := B.bytes
  have hr := B.returns
  have hts := atoms_spec (ws := wsX3_empty) B.pre
  have hown : s.vm.findClass RX3 = some m.cls := findClass_of_methodNamed B.named
  have hlk := B.notSynchronized
  have hS : va_S A s.heap s.heap [] := va_S.rf
  have hl := lv_entry ([.ref (ad 0)]) (n := 2) (Nat.le_of_ble_eq_true rfl)
  rw [lg_entry_eq]
  generalize (lg_sl ([.ref (ad 0)]) ++ List.replicate (2 - (lg_sl ([.ref (ad 0)])).length) Slot.unset).toArray = ls at hl ⊢
  have hl : lv_has ls 2 [(0, .ref (ad 0))] := hl
  have hN := hF
  unfold F_X3_empty at hN
  refine lv_aload_n hx hb dX3_empty_0 rfl (lv_at hl 0 rfl) ?_
  refine k_get (C := RX3) (T := TX3) (N := 3) (ci := 3) (v := .ref (ad 1)) hx hb hts (fun _ h => List.mem_cons_of_mem _ (List.mem_append_left _ (List.mem_append_left _ (List.mem_append_right _ h)))) hown hC hP (hX.m 0 (by omega)) hX.o0 rfl 1 (by decide) (hts (.fieldLink RX3 19 "OrderedClauses" "history" "LOrderedClauses$History;") (List.mem_of_getElem? (i := 1) rfl)) rfl dX3_empty_1 ?_
  refine lv_aload_n hx hb dX3_empty_4 rfl (lv_at hl 0 rfl) ?_
  refine k_get (C := RX3) (T := TX3) (N := 3) (ci := 3) (v := .ref (sA ad 5)) hx hb hts (fun _ h => List.mem_cons_of_mem _ (List.mem_append_left _ (List.mem_append_left _ (List.mem_append_right _ h)))) hown hC hP (hX.m 0 (by omega)) hX.o0 rfl 0 (by decide) (hts (.fieldLink RX3 10 "OrderedClauses" "store" "LOrderedClauses$Store;") (List.mem_of_getElem? (i := 2) rfl)) rfl dX3_empty_5 ?_
  obtain ⟨w2, hw2, hN⟩ := oB_spec hN
  refine k_v hS (va_runVN (As := [.ref (sA ad 5)]) (rest := []) ⟨hx, hb, hml, hown, hts⟩ (c_X0_putAside l g L hL G ad (x.1, x.2.1, x.2.2.1, x.2.2.2.1, x.2.2.2.2) hX w2 hw2) ⟨va_cnB 1 hts gX3_empty_X0_putAside_n31 rfl rfl rfl (hC.2.1.2 (RX3, 31, yX0_putAside, RX3) (List.mem_of_getElem? (i := 23) rfl)) (hts (.initialized RX0) (List.mem_of_getElem? (i := 4) rfl)) (by decide +kernel) ⟨Nat.le_of_ble_eq_true rfl, Nat.le_of_ble_eq_true rfl⟩, (hts (.instanceMethod yX0_putAside) (List.mem_of_getElem? (i := 3) rfl)), (hts (.selects RX0 yX0_putAside yX0_putAside) (List.mem_of_getElem? (i := 5) rfl))⟩ (k_preV (C := RX0) (T := TX0) (N := 2) hC hS hP (hX.m 1 (by omega)) hX.o1 rfl) rfl rfl hl.1 rfl (lv_room (Nat.le_of_ble_eq_true rfl)) dX3_empty_8 ⟨Nat.zero_le _, Nat.zero_le _⟩) (fun G3 H locs hq hP hS => ?_)
  have hX := hq
  refine lv_aload_n hx hb dX3_empty_11 rfl (lv_at hl 0 rfl) ?_
  refine k_get (C := RX3) (T := TX3) (N := 3) (ci := 3) (v := .ref (sA ad 5)) hx hb hts (fun _ h => List.mem_cons_of_mem _ (List.mem_append_left _ (List.mem_append_left _ (List.mem_append_right _ h)))) hown hC hP (hX.m 0 (by omega)) hX.o0 rfl 0 (by decide) (hts (.fieldLink RX3 10 "OrderedClauses" "store" "LOrderedClauses$Store;") (List.mem_of_getElem? (i := 2) rfl)) rfl dX3_empty_12 ?_
  refine k_getN (C := RX1) (T := TX1) (N := 13) (ci := 1) (v := .int (w2.1.2.2 0)) hx hb hts (fun _ h => List.mem_cons_of_mem _ (List.mem_append_left _ (List.mem_append_right _ h))) hown hC hP (vO.m hX.sm) (vO.o hX.sm) rfl 8 (by decide) (hC.2.1.1 (RX3, 57, RX1, "clauses", "I", RX3) (List.mem_of_getElem? (i := 6) rfl)) rfl dX3_empty_15 ?_
  refine lv_istore_n (lv' := [(1, .int (w2.1.2.2 0)), (0, .ref (ad 0))]) hx hb dX3_empty_18 rfl hl (by decide) rfl (fun ls hl => ?_)
  refine lv_aload_n hx hb dX3_empty_19 rfl (lv_at hl 1 rfl) ?_
  refine k_get (C := RX3) (T := TX3) (N := 3) (ci := 3) (v := .ref (sA ad 5)) hx hb hts (fun _ h => List.mem_cons_of_mem _ (List.mem_append_left _ (List.mem_append_left _ (List.mem_append_right _ h)))) hown hC hP (hX.m 0 (by omega)) hX.o0 rfl 0 (by decide) (hts (.fieldLink RX3 10 "OrderedClauses" "store" "LOrderedClauses$Store;") (List.mem_of_getElem? (i := 2) rfl)) rfl dX3_empty_20 ?_
  refine lv_iconst (v := 0) hx hb dX3_empty_23 (by decide) ?_
  refine k_putNE (C := RX1) (T := TX1) (N := 13) (ci := 1) hx hb hts (fun _ h => List.mem_cons_of_mem _ (List.mem_append_left _ (List.mem_append_right _ h))) tyX1 tyX1_ok nmX1 hown hL hC hP hS (vO.m hX.sm) (vO.o hX.sm) rfl 8 (by decide) (hC.2.1.1 (RX3, 57, RX1, "clauses", "I", RX3) (List.mem_of_getElem? (i := 6) rfl)) (by decide +kernel) (by decide +kernel) (Nat.le_of_ble_eq_true rfl) dX3_empty_24 (fun G4 H locs hq hP hS => ?_)
  have hV1 : vS g L G4 (sA ad 5) (sR ad 5) (w2.1.1, w2.1.2.1, va_up w2.1.2.2 0 (0 : Int32)) := by rw [hq]; exact vO.setK (f := w2.1.1) (gg := w2.1.2.1) (k := w2.1.2.2) hX.sm rfl
  have hf1 : frS (sA ad 5) (sR ad 5) 8 G3 G4 := by rw [hq]; exact vO.frK frS.rf _
  have hX : vX g L G4 ad ((w2.1.1, w2.1.2.1, va_up w2.1.2.2 0 (0 : Int32)), w2.2.1, w2.2.2.1, w2.2.2.2.1, w2.2.2.2.2) := vX.upM hX hV1 hf1
  refine lv_aload_n hx hb dX3_empty_27 rfl (lv_at hl 1 rfl) ?_
  refine k_get (C := RX3) (T := TX3) (N := 3) (ci := 3) (v := .ref (sA ad 5)) hx hb hts (fun _ h => List.mem_cons_of_mem _ (List.mem_append_left _ (List.mem_append_left _ (List.mem_append_right _ h)))) hown hC hP (hX.m 0 (by omega)) hX.o0 rfl 0 (by decide) (hts (.fieldLink RX3 10 "OrderedClauses" "store" "LOrderedClauses$Store;") (List.mem_of_getElem? (i := 2) rfl)) rfl dX3_empty_28 ?_
  refine lv_iconst (v := 0) hx hb dX3_empty_31 (by decide) ?_
  refine k_putNE (C := RX1) (T := TX1) (N := 13) (ci := 1) hx hb hts (fun _ h => List.mem_cons_of_mem _ (List.mem_append_left _ (List.mem_append_right _ h))) tyX1 tyX1_ok nmX1 hown hL hC hP hS (vO.m hX.sm) (vO.o hX.sm) rfl 9 (by decide) (hC.2.1.1 (RX3, 60, RX1, "steps", "I", RX3) (List.mem_of_getElem? (i := 7) rfl)) (by decide +kernel) (by decide +kernel) (Nat.le_of_ble_eq_true rfl) dX3_empty_32 (fun G5 H locs hq hP hS => ?_)
  have hV1 : vS g L G5 (sA ad 5) (sR ad 5) ((w2.1.1, w2.1.2.1, va_up w2.1.2.2 0 (0 : Int32)).1, (w2.1.1, w2.1.2.1, va_up w2.1.2.2 0 (0 : Int32)).2.1, va_up (w2.1.1, w2.1.2.1, va_up w2.1.2.2 0 (0 : Int32)).2.2 1 (0 : Int32)) := by rw [hq]; exact vO.setK (f := (w2.1.1, w2.1.2.1, va_up w2.1.2.2 0 (0 : Int32)).1) (gg := (w2.1.1, w2.1.2.1, va_up w2.1.2.2 0 (0 : Int32)).2.1) (k := (w2.1.1, w2.1.2.1, va_up w2.1.2.2 0 (0 : Int32)).2.2) hX.sm rfl
  have hf1 : frS (sA ad 5) (sR ad 5) 8 G4 G5 := by rw [hq]; exact vO.frK frS.rf _
  have hX : vX g L G5 ad (((w2.1.1, w2.1.2.1, va_up w2.1.2.2 0 (0 : Int32)).1, (w2.1.1, w2.1.2.1, va_up w2.1.2.2 0 (0 : Int32)).2.1, va_up (w2.1.1, w2.1.2.1, va_up w2.1.2.2 0 (0 : Int32)).2.2 1 (0 : Int32)), w2.2.1, w2.2.2.1, w2.2.2.2.1, w2.2.2.2.2) := vX.upM hX hV1 hf1
  refine lv_aload_n hx hb dX3_empty_35 rfl (lv_at hl 1 rfl) ?_
  refine lv_iload_n hx hb dX3_empty_36 rfl (lv_at hl 0 rfl) ?_
  obtain ⟨v6, w7, hv6, hN⟩ := oB2_spec hN
  refine k_iW hS (va_runV (As := [.int (w2.1.2.2 0)]) (rest := []) ⟨hx, hb, hml, hown, hts⟩ (c_X3_settle l g L hL G5 ad (((w2.1.1, w2.1.2.1, va_up w2.1.2.2 0 (0 : Int32)).1, (w2.1.1, w2.1.2.1, va_up w2.1.2.2 0 (0 : Int32)).2.1, va_up (w2.1.1, w2.1.2.1, va_up w2.1.2.2 0 (0 : Int32)).2.2 1 (0 : Int32)), w2.2.1, w2.2.2.1, w2.2.2.2.1, w2.2.2.2.2) hX (w2.1.2.2 0) v6 w7 hv6) (cwV 1 hts gX3_empty_X3_settle rfl rfl rfl (by decide +kernel) ⟨Nat.le_of_ble_eq_true rfl, Nat.le_of_ble_eq_true rfl⟩) (k_preV (C := RX3) (T := TX3) (N := 3) hC hS hP (hX.m 0 (by omega)) hX.o0 rfl) rfl rfl hl.1 rfl (lv_room (Nat.le_of_ble_eq_true rfl)) dX3_empty_37 ⟨Nat.zero_le _, Nat.zero_le _⟩) (fun G8 H locs hq hP hS => ?_)
  have hX := hq
  obtain ⟨hE, hE2⟩ := spair hN
  exact k_iretW hx hb hr hE (hE2 ▸ hX) hP hS hlk dX3_empty_40
set_option maxHeartbeats 4000000 in
set_option maxRecDepth 100000 in
theorem c_X3_clauseOf (l : Launch) (g : Gm) (L : List Nat) {A : Nat → Prop} (hL : kL L A) (G : Nat → va_E) (ad : Nat → Nat) (x : XS) (hX : vX g L G ad x) (p0 : Int32) (p1 : Int32) (v : Int32) (hF : F_X3_clauseOf x p0 p1 = some v) : Met l yX3_clauseOf wsX3_clauseOf ({ frames := 4, cells := 0, slots := 0, locals := 91 } : Room) (va_Pc [.ref (ad 0), .int p0, .int p1] (kB g L A G)) (va_Qi (fun x9 (G9 : Nat → va_E) => x9 = v ∧ G9 = G) (kE g L) A) 0 0 A := by
  refine Met.ofW (cc := cX3_clauseOf) (maxL := 3) (ret := (some .int)) (by decide) rfl ?_
  intro p e s m args below meth c s₁ B hml hv
  obtain ⟨rfl, hP, hC⟩ := hv
  have hx := B.exec
  have hb := B.bytes
  have hr := B.returns
  have hts := atoms_spec (ws := wsX3_clauseOf) B.pre
  have hown : s.vm.findClass RX3 = some m.cls := findClass_of_methodNamed B.named
  have hlk := B.notSynchronized
  have hS : va_S A s.heap s.heap [] := va_S.rf
  have hl := lv_entry ([.ref (ad 0), .int p0, .int p1]) (n := 3) (Nat.le_of_ble_eq_true rfl)
  rw [lg_entry_eq]
  generalize (lg_sl ([.ref (ad 0), .int p0, .int p1]) ++ List.replicate (3 - (lg_sl ([.ref (ad 0), .int p0, .int p1])).length) Slot.unset).toArray = ls at hl ⊢
  have hl : lv_has ls 3 [(0, .ref (ad 0)), (1, .int p0), (2, .int p1)] := hl
  have hN := hF
  unfold F_X3_clauseOf at hN
  refine lv_aload_n hx hb dX3_clauseOf_0 rfl (lv_at hl 0 rfl) ?_
  refine k_get (C := RX3) (T := TX3) (N := 3) (ci := 3) (v := .ref (sA ad 5)) hx hb hts (fun _ h => List.mem_cons_of_mem _ (List.mem_append_left _ (List.mem_append_right _ h))) hown hC hP (hX.m 0 (by omega)) hX.o0 rfl 0 (by decide) (hts (.fieldLink RX3 10 "OrderedClauses" "store" "LOrderedClauses$Store;") (List.mem_of_getElem? (i := 1) rfl)) rfl dX3_clauseOf_1 ?_
  refine lv_iload_n hx hb dX3_clauseOf_4 rfl (lv_at hl 1 rfl) ?_
  obtain ⟨v1, hv1, hN⟩ := oB_spec hN
  refine k_iR hS (va_runVN (As := [.int p0]) (rest := []) ⟨hx, hb, hml, hown, hts⟩ (c_X1_has l g L hL G (sA ad 5) (sR ad 5) x.1 hX.sm p0 v1 hv1) ⟨va_cnB 1 hts gX3_clauseOf_X1_has_n63 rfl rfl rfl (hC.2.1.2 (RX3, 63, yX1_has, RX3) (List.mem_of_getElem? (i := 12) rfl)) (hts (.initialized RX1) (List.mem_of_getElem? (i := 4) rfl)) (by decide +kernel) ⟨Nat.le_of_ble_eq_true rfl, Nat.le_of_ble_eq_true rfl⟩, (hts (.instanceMethod yX1_has) (List.mem_of_getElem? (i := 3) rfl)), (hts (.selects RX1 yX1_has yX1_has) (List.mem_of_getElem? (i := 5) rfl))⟩ (k_preV (C := RX1) (T := TX1) (N := 13) hC hS hP (vO.m hX.sm) (vO.o hX.sm) rfl) rfl rfl hl.1 rfl (lv_room (Nat.le_of_ble_eq_true rfl)) dX3_clauseOf_5 ⟨Nat.zero_le _, Nat.zero_le _⟩) (fun H locs hP hS => ?_)
  refine lv_if_ne (tgt := 14) hx hb dX3_clauseOf_8 (by decide) (fun c3 => ?_) (fun c3 => ?_)
  · rw [if_neg c3] at hN
    refine lv_iload_n hx hb dX3_clauseOf_14 rfl (lv_at hl 2 rfl) ?_
    rcases Decidable.em (p1 = 0) with c4 | c4
    · rw [if_pos c4] at hN
      refine lv_tableIn (off := 49) (tgt := 64) hx hb dX3_clauseOf_15 (by rw [c4]; decide) (by rw [c4]; decide) (by rw [c4]; rfl) (by decide) ?_
      refine lv_aload_n hx hb dX3_clauseOf_64 rfl (lv_at hl 0 rfl) ?_
      refine k_get (C := RX3) (T := TX3) (N := 3) (ci := 3) (v := .ref (sA ad 5)) hx hb hts (fun _ h => List.mem_cons_of_mem _ (List.mem_append_left _ (List.mem_append_right _ h))) hown hC hP (hX.m 0 (by omega)) hX.o0 rfl 0 (by decide) (hts (.fieldLink RX3 10 "OrderedClauses" "store" "LOrderedClauses$Store;") (List.mem_of_getElem? (i := 1) rfl)) rfl dX3_clauseOf_65 ?_
      refine k_getN (C := RX1) (T := TX1) (N := 13) (ci := 1) (v := .ref (sR ad 5 1)) hx hb hts (fun _ h => List.mem_cons_of_mem _ (List.mem_append_right _ h)) hown hC hP (vO.m hX.sm) (vO.o hX.sm) rfl 1 (by decide) (hC.2.1.1 (RX3, 67, RX1, "literals", "[I", RX3) (List.mem_of_getElem? (i := 0) rfl)) rfl dX3_clauseOf_68 ?_
      refine lv_iload_n hx hb dX3_clauseOf_71 rfl (lv_at hl 1 rfl) ?_
      obtain ⟨v5, hv5, hN⟩ := oB_spec hN
      refine k_iR hS (va_runS (As := [.ref (sR ad 5 1), .int p0]) (rest := []) ⟨hx, hb, hml, hown, hts⟩ (c_X3_at l g L hL G (sR ad 5 1) (x.1.1 1) (lnS 1) (vO.rm hX.sm 1 (by decide)) (vO.ri hX.sm 1 (by decide)) p0 v5 hv5) (va_cwS 2 hts gX3_clauseOf_X3_at rfl rfl rfl (by decide +kernel) ⟨Nat.le_of_ble_eq_true rfl, Nat.le_of_ble_eq_true rfl⟩) (k_pre hC hS hP) rfl rfl hl.1 rfl (lv_room (Nat.le_of_ble_eq_true rfl)) dX3_clauseOf_72 ⟨Nat.zero_le _, Nat.zero_le _⟩) (fun H locs hP hS => ?_)
      exact k_iretR hx hb hr (Option.some.inj hN) hP hS hlk dX3_clauseOf_75
    · rw [if_neg c4] at hN
      rcases Decidable.em (p1 = 1) with c7 | c7
      · rw [if_pos c7] at hN
        refine lv_tableIn (off := 61) (tgt := 76) hx hb dX3_clauseOf_15 (by rw [c7]; decide) (by rw [c7]; decide) (by rw [c7]; rfl) (by decide) ?_
        refine lv_aload_n hx hb dX3_clauseOf_76 rfl (lv_at hl 0 rfl) ?_
        refine k_get (C := RX3) (T := TX3) (N := 3) (ci := 3) (v := .ref (sA ad 5)) hx hb hts (fun _ h => List.mem_cons_of_mem _ (List.mem_append_left _ (List.mem_append_right _ h))) hown hC hP (hX.m 0 (by omega)) hX.o0 rfl 0 (by decide) (hts (.fieldLink RX3 10 "OrderedClauses" "store" "LOrderedClauses$Store;") (List.mem_of_getElem? (i := 1) rfl)) rfl dX3_clauseOf_77 ?_
        refine k_getN (C := RX1) (T := TX1) (N := 13) (ci := 1) (v := .ref (sR ad 5 2)) hx hb hts (fun _ h => List.mem_cons_of_mem _ (List.mem_append_right _ h)) hown hC hP (vO.m hX.sm) (vO.o hX.sm) rfl 2 (by decide) (hC.2.1.1 (RX3, 75, RX1, "status", "[I", RX3) (List.mem_of_getElem? (i := 1) rfl)) rfl dX3_clauseOf_80 ?_
        refine lv_iload_n hx hb dX3_clauseOf_83 rfl (lv_at hl 1 rfl) ?_
        obtain ⟨v8, hv8, hN⟩ := oB_spec hN
        refine k_iR hS (va_runS (As := [.ref (sR ad 5 2), .int p0]) (rest := []) ⟨hx, hb, hml, hown, hts⟩ (c_X3_at l g L hL G (sR ad 5 2) (x.1.1 2) (lnS 2) (vO.rm hX.sm 2 (by decide)) (vO.ri hX.sm 2 (by decide)) p0 v8 hv8) (va_cwS 2 hts gX3_clauseOf_X3_at rfl rfl rfl (by decide +kernel) ⟨Nat.le_of_ble_eq_true rfl, Nat.le_of_ble_eq_true rfl⟩) (k_pre hC hS hP) rfl rfl hl.1 rfl (lv_room (Nat.le_of_ble_eq_true rfl)) dX3_clauseOf_84 ⟨Nat.zero_le _, Nat.zero_le _⟩) (fun H locs hP hS => ?_)
        exact k_iretR hx hb hr (Option.some.inj hN) hP hS hlk dX3_clauseOf_87
      · rw [if_neg c7] at hN
        rcases Decidable.em (p1 = 2) with c10 | c10
        · rw [if_pos c10] at hN
          refine lv_tableIn (off := 73) (tgt := 88) hx hb dX3_clauseOf_15 (by rw [c10]; decide) (by rw [c10]; decide) (by rw [c10]; rfl) (by decide) ?_
          refine lv_aload_n hx hb dX3_clauseOf_88 rfl (lv_at hl 0 rfl) ?_
          refine k_get (C := RX3) (T := TX3) (N := 3) (ci := 3) (v := .ref (sA ad 5)) hx hb hts (fun _ h => List.mem_cons_of_mem _ (List.mem_append_left _ (List.mem_append_right _ h))) hown hC hP (hX.m 0 (by omega)) hX.o0 rfl 0 (by decide) (hts (.fieldLink RX3 10 "OrderedClauses" "store" "LOrderedClauses$Store;") (List.mem_of_getElem? (i := 1) rfl)) rfl dX3_clauseOf_89 ?_
          refine lv_aload_n hx hb dX3_clauseOf_92 rfl (lv_at hl 0 rfl) ?_
          refine k_get (C := RX3) (T := TX3) (N := 3) (ci := 3) (v := .ref (sA ad 5)) hx hb hts (fun _ h => List.mem_cons_of_mem _ (List.mem_append_left _ (List.mem_append_right _ h))) hown hC hP (hX.m 0 (by omega)) hX.o0 rfl 0 (by decide) (hts (.fieldLink RX3 10 "OrderedClauses" "store" "LOrderedClauses$Store;") (List.mem_of_getElem? (i := 1) rfl)) rfl dX3_clauseOf_93 ?_
          refine k_getN (C := RX1) (T := TX1) (N := 13) (ci := 1) (v := .ref (sR ad 5 1)) hx hb hts (fun _ h => List.mem_cons_of_mem _ (List.mem_append_right _ h)) hown hC hP (vO.m hX.sm) (vO.o hX.sm) rfl 1 (by decide) (hC.2.1.1 (RX3, 67, RX1, "literals", "[I", RX3) (List.mem_of_getElem? (i := 0) rfl)) rfl dX3_clauseOf_96 ?_
          refine lv_iload_n hx hb dX3_clauseOf_99 rfl (lv_at hl 1 rfl) ?_
          obtain ⟨v11, hv11, hN⟩ := oB_spec hN
          refine k_iR hS (va_runS (As := [.ref (sR ad 5 1), .int p0]) (rest := [.ref (sA ad 5)]) ⟨hx, hb, hml, hown, hts⟩ (c_X3_at l g L hL G (sR ad 5 1) (x.1.1 1) (lnS 1) (vO.rm hX.sm 1 (by decide)) (vO.ri hX.sm 1 (by decide)) p0 v11 hv11) (va_cwS 2 hts gX3_clauseOf_X3_at rfl rfl rfl (by decide +kernel) ⟨Nat.le_of_ble_eq_true rfl, Nat.le_of_ble_eq_true rfl⟩) (k_pre hC hS hP) rfl rfl hl.1 rfl (lv_room (Nat.le_of_ble_eq_true rfl)) dX3_clauseOf_100 ⟨Nat.zero_le _, Nat.zero_le _⟩) (fun H locs hP hS => ?_)
          obtain ⟨v13, hv13, hN⟩ := oB_spec hN
          refine k_iR hS (va_runVN (As := [.int v11]) (rest := []) ⟨hx, hb, hml, hown, hts⟩ (c_X1_greatestOf l g L hL G (sA ad 5) (sR ad 5) x.1 hX.sm v11 v13 hv13) ⟨va_cnB 1 hts gX3_clauseOf_X1_greatestOf_n78 rfl rfl rfl (hC.2.1.2 (RX3, 78, yX1_greatestOf, RX3) (List.mem_of_getElem? (i := 13) rfl)) (hts (.initialized RX1) (List.mem_of_getElem? (i := 4) rfl)) (by decide +kernel) ⟨Nat.le_of_ble_eq_true rfl, Nat.le_of_ble_eq_true rfl⟩, (hts (.instanceMethod yX1_greatestOf) (List.mem_of_getElem? (i := 12) rfl)), (hts (.selects RX1 yX1_greatestOf yX1_greatestOf) (List.mem_of_getElem? (i := 13) rfl))⟩ (k_preV (C := RX1) (T := TX1) (N := 13) hC hS hP (vO.m hX.sm) (vO.o hX.sm) rfl) rfl rfl hl.1 rfl (lv_room (Nat.le_of_ble_eq_true rfl)) dX3_clauseOf_103 ⟨Nat.zero_le _, Nat.zero_le _⟩) (fun H locs hP hS => ?_)
          obtain ⟨v15, hv15, hN⟩ := oB_spec hN
          refine k_iR hS (va_runS (As := [.int v13]) (rest := []) ⟨hx, hb, hml, hown, hts⟩ (c_X3_foundOrNot l g L hL G v13 v15 hv15) (va_cwS 1 hts gX3_clauseOf_X3_foundOrNot rfl rfl rfl (by decide +kernel) ⟨Nat.le_of_ble_eq_true rfl, Nat.le_of_ble_eq_true rfl⟩) (k_pre hC hS hP) rfl rfl hl.1 rfl (lv_room (Nat.le_of_ble_eq_true rfl)) dX3_clauseOf_106 ⟨Nat.zero_le _, Nat.zero_le _⟩) (fun H locs hP hS => ?_)
          exact k_iretR hx hb hr (Option.some.inj hN) hP hS hlk dX3_clauseOf_109
        · rw [if_neg c10] at hN
          rcases Decidable.em (p1 = 3) with c17 | c17
          · rw [if_pos c17] at hN
            refine lv_tableIn (off := 95) (tgt := 110) hx hb dX3_clauseOf_15 (by rw [c17]; decide) (by rw [c17]; decide) (by rw [c17]; rfl) (by decide) ?_
            refine lv_aload_n hx hb dX3_clauseOf_110 rfl (lv_at hl 0 rfl) ?_
            refine k_get (C := RX3) (T := TX3) (N := 3) (ci := 3) (v := .ref (sA ad 5)) hx hb hts (fun _ h => List.mem_cons_of_mem _ (List.mem_append_left _ (List.mem_append_right _ h))) hown hC hP (hX.m 0 (by omega)) hX.o0 rfl 0 (by decide) (hts (.fieldLink RX3 10 "OrderedClauses" "store" "LOrderedClauses$Store;") (List.mem_of_getElem? (i := 1) rfl)) rfl dX3_clauseOf_111 ?_
            refine k_getN (C := RX1) (T := TX1) (N := 13) (ci := 1) (v := .ref (sR ad 5 3)) hx hb hts (fun _ h => List.mem_cons_of_mem _ (List.mem_append_right _ h)) hown hC hP (vO.m hX.sm) (vO.o hX.sm) rfl 3 (by decide) (hC.2.1.1 (RX3, 84, RX1, "holdingParent", "[I", RX3) (List.mem_of_getElem? (i := 2) rfl)) rfl dX3_clauseOf_114 ?_
            refine lv_iload_n hx hb dX3_clauseOf_117 rfl (lv_at hl 1 rfl) ?_
            obtain ⟨v18, hv18, hN⟩ := oB_spec hN
            refine k_iR hS (va_runS (As := [.ref (sR ad 5 3), .int p0]) (rest := []) ⟨hx, hb, hml, hown, hts⟩ (c_X3_at l g L hL G (sR ad 5 3) (x.1.1 3) (lnS 3) (vO.rm hX.sm 3 (by decide)) (vO.ri hX.sm 3 (by decide)) p0 v18 hv18) (va_cwS 2 hts gX3_clauseOf_X3_at rfl rfl rfl (by decide +kernel) ⟨Nat.le_of_ble_eq_true rfl, Nat.le_of_ble_eq_true rfl⟩) (k_pre hC hS hP) rfl rfl hl.1 rfl (lv_room (Nat.le_of_ble_eq_true rfl)) dX3_clauseOf_118 ⟨Nat.zero_le _, Nat.zero_le _⟩) (fun H locs hP hS => ?_)
            obtain ⟨v20, hv20, hN⟩ := oB_spec hN
            refine k_iR hS (va_runS (As := [.int v18]) (rest := []) ⟨hx, hb, hml, hown, hts⟩ (c_X3_foundOrNot l g L hL G v18 v20 hv20) (va_cwS 1 hts gX3_clauseOf_X3_foundOrNot rfl rfl rfl (by decide +kernel) ⟨Nat.le_of_ble_eq_true rfl, Nat.le_of_ble_eq_true rfl⟩) (k_pre hC hS hP) rfl rfl hl.1 rfl (lv_room (Nat.le_of_ble_eq_true rfl)) dX3_clauseOf_121 ⟨Nat.zero_le _, Nat.zero_le _⟩) (fun H locs hP hS => ?_)
            exact k_iretR hx hb hr (Option.some.inj hN) hP hS hlk dX3_clauseOf_124
          · rw [if_neg c17] at hN
            rcases Decidable.em (p1 = 4) with c22 | c22
            · rw [if_pos c22] at hN
              refine lv_tableIn (off := 110) (tgt := 125) hx hb dX3_clauseOf_15 (by rw [c22]; decide) (by rw [c22]; decide) (by rw [c22]; rfl) (by decide) ?_
              refine lv_aload_n hx hb dX3_clauseOf_125 rfl (lv_at hl 0 rfl) ?_
              refine k_get (C := RX3) (T := TX3) (N := 3) (ci := 3) (v := .ref (sA ad 5)) hx hb hts (fun _ h => List.mem_cons_of_mem _ (List.mem_append_left _ (List.mem_append_right _ h))) hown hC hP (hX.m 0 (by omega)) hX.o0 rfl 0 (by decide) (hts (.fieldLink RX3 10 "OrderedClauses" "store" "LOrderedClauses$Store;") (List.mem_of_getElem? (i := 1) rfl)) rfl dX3_clauseOf_126 ?_
              refine k_getN (C := RX1) (T := TX1) (N := 13) (ci := 1) (v := .ref (sR ad 5 4)) hx hb hts (fun _ h => List.mem_cons_of_mem _ (List.mem_append_right _ h)) hown hC hP (vO.m hX.sm) (vO.o hX.sm) rfl 4 (by decide) (hC.2.1.1 (RX3, 87, RX1, "otherParent", "[I", RX3) (List.mem_of_getElem? (i := 3) rfl)) rfl dX3_clauseOf_129 ?_
              refine lv_iload_n hx hb dX3_clauseOf_132 rfl (lv_at hl 1 rfl) ?_
              obtain ⟨v23, hv23, hN⟩ := oB_spec hN
              refine k_iR hS (va_runS (As := [.ref (sR ad 5 4), .int p0]) (rest := []) ⟨hx, hb, hml, hown, hts⟩ (c_X3_at l g L hL G (sR ad 5 4) (x.1.1 4) (lnS 4) (vO.rm hX.sm 4 (by decide)) (vO.ri hX.sm 4 (by decide)) p0 v23 hv23) (va_cwS 2 hts gX3_clauseOf_X3_at rfl rfl rfl (by decide +kernel) ⟨Nat.le_of_ble_eq_true rfl, Nat.le_of_ble_eq_true rfl⟩) (k_pre hC hS hP) rfl rfl hl.1 rfl (lv_room (Nat.le_of_ble_eq_true rfl)) dX3_clauseOf_133 ⟨Nat.zero_le _, Nat.zero_le _⟩) (fun H locs hP hS => ?_)
              obtain ⟨v25, hv25, hN⟩ := oB_spec hN
              refine k_iR hS (va_runS (As := [.int v23]) (rest := []) ⟨hx, hb, hml, hown, hts⟩ (c_X3_foundOrNot l g L hL G v23 v25 hv25) (va_cwS 1 hts gX3_clauseOf_X3_foundOrNot rfl rfl rfl (by decide +kernel) ⟨Nat.le_of_ble_eq_true rfl, Nat.le_of_ble_eq_true rfl⟩) (k_pre hC hS hP) rfl rfl hl.1 rfl (lv_room (Nat.le_of_ble_eq_true rfl)) dX3_clauseOf_136 ⟨Nat.zero_le _, Nat.zero_le _⟩) (fun H locs hP hS => ?_)
              exact k_iretR hx hb hr (Option.some.inj hN) hP hS hlk dX3_clauseOf_139
            · rw [if_neg c22] at hN
              rcases Decidable.em (p1 = 5) with c27 | c27
              · rw [if_pos c27] at hN
                refine lv_tableIn (off := 125) (tgt := 140) hx hb dX3_clauseOf_15 (by rw [c27]; decide) (by rw [c27]; decide) (by rw [c27]; rfl) (by decide) ?_
                refine lv_aload_n hx hb dX3_clauseOf_140 rfl (lv_at hl 0 rfl) ?_
                refine k_get (C := RX3) (T := TX3) (N := 3) (ci := 3) (v := .ref (sA ad 5)) hx hb hts (fun _ h => List.mem_cons_of_mem _ (List.mem_append_left _ (List.mem_append_right _ h))) hown hC hP (hX.m 0 (by omega)) hX.o0 rfl 0 (by decide) (hts (.fieldLink RX3 10 "OrderedClauses" "store" "LOrderedClauses$Store;") (List.mem_of_getElem? (i := 1) rfl)) rfl dX3_clauseOf_141 ?_
                refine k_getN (C := RX1) (T := TX1) (N := 13) (ci := 1) (v := .ref (sR ad 5 5)) hx hb hts (fun _ h => List.mem_cons_of_mem _ (List.mem_append_right _ h)) hown hC hP (vO.m hX.sm) (vO.o hX.sm) rfl 5 (by decide) (hC.2.1.1 (RX3, 90, RX1, "atomMadeBy", "[I", RX3) (List.mem_of_getElem? (i := 4) rfl)) rfl dX3_clauseOf_144 ?_
                refine lv_iload_n hx hb dX3_clauseOf_147 rfl (lv_at hl 1 rfl) ?_
                obtain ⟨v28, hv28, hN⟩ := oB_spec hN
                refine k_iR hS (va_runS (As := [.ref (sR ad 5 5), .int p0]) (rest := []) ⟨hx, hb, hml, hown, hts⟩ (c_X3_at l g L hL G (sR ad 5 5) (x.1.1 5) (lnS 5) (vO.rm hX.sm 5 (by decide)) (vO.ri hX.sm 5 (by decide)) p0 v28 hv28) (va_cwS 2 hts gX3_clauseOf_X3_at rfl rfl rfl (by decide +kernel) ⟨Nat.le_of_ble_eq_true rfl, Nat.le_of_ble_eq_true rfl⟩) (k_pre hC hS hP) rfl rfl hl.1 rfl (lv_room (Nat.le_of_ble_eq_true rfl)) dX3_clauseOf_148 ⟨Nat.zero_le _, Nat.zero_le _⟩) (fun H locs hP hS => ?_)
                obtain ⟨v30, hv30, hN⟩ := oB_spec hN
                refine k_iR hS (va_runS (As := [.int v28]) (rest := []) ⟨hx, hb, hml, hown, hts⟩ (c_X3_foundOrNot l g L hL G v28 v30 hv30) (va_cwS 1 hts gX3_clauseOf_X3_foundOrNot rfl rfl rfl (by decide +kernel) ⟨Nat.le_of_ble_eq_true rfl, Nat.le_of_ble_eq_true rfl⟩) (k_pre hC hS hP) rfl rfl hl.1 rfl (lv_room (Nat.le_of_ble_eq_true rfl)) dX3_clauseOf_151 ⟨Nat.zero_le _, Nat.zero_le _⟩) (fun H locs hP hS => ?_)
                exact k_iretR hx hb hr (Option.some.inj hN) hP hS hlk dX3_clauseOf_154
              · rw [if_neg c27] at hN
                rcases Decidable.em (p1 = 6) with c32 | c32
                · rw [if_pos c32] at hN
                  refine lv_tableIn (off := 140) (tgt := 155) hx hb dX3_clauseOf_15 (by rw [c32]; decide) (by rw [c32]; decide) (by rw [c32]; rfl) (by decide) ?_
                  refine lv_aload_n hx hb dX3_clauseOf_155 rfl (lv_at hl 0 rfl) ?_
                  refine k_get (C := RX3) (T := TX3) (N := 3) (ci := 3) (v := .ref (sA ad 5)) hx hb hts (fun _ h => List.mem_cons_of_mem _ (List.mem_append_left _ (List.mem_append_right _ h))) hown hC hP (hX.m 0 (by omega)) hX.o0 rfl 0 (by decide) (hts (.fieldLink RX3 10 "OrderedClauses" "store" "LOrderedClauses$Store;") (List.mem_of_getElem? (i := 1) rfl)) rfl dX3_clauseOf_156 ?_
                  refine k_getN (C := RX1) (T := TX1) (N := 13) (ci := 1) (v := .ref (sR ad 5 1)) hx hb hts (fun _ h => List.mem_cons_of_mem _ (List.mem_append_right _ h)) hown hC hP (vO.m hX.sm) (vO.o hX.sm) rfl 1 (by decide) (hC.2.1.1 (RX3, 67, RX1, "literals", "[I", RX3) (List.mem_of_getElem? (i := 0) rfl)) rfl dX3_clauseOf_159 ?_
                  refine lv_iload_n hx hb dX3_clauseOf_162 rfl (lv_at hl 1 rfl) ?_
                  obtain ⟨v33, hv33, hN⟩ := oB_spec hN
                  refine k_iR hS (va_runS (As := [.ref (sR ad 5 1), .int p0]) (rest := []) ⟨hx, hb, hml, hown, hts⟩ (c_X3_at l g L hL G (sR ad 5 1) (x.1.1 1) (lnS 1) (vO.rm hX.sm 1 (by decide)) (vO.ri hX.sm 1 (by decide)) p0 v33 hv33) (va_cwS 2 hts gX3_clauseOf_X3_at rfl rfl rfl (by decide +kernel) ⟨Nat.le_of_ble_eq_true rfl, Nat.le_of_ble_eq_true rfl⟩) (k_pre hC hS hP) rfl rfl hl.1 rfl (lv_room (Nat.le_of_ble_eq_true rfl)) dX3_clauseOf_163 ⟨Nat.zero_le _, Nat.zero_le _⟩) (fun H locs hP hS => ?_)
                  obtain ⟨v35, hv35, hN⟩ := oB_spec hN
                  refine k_iR hS (va_runS (As := [.int v33]) (rest := []) ⟨hx, hb, hml, hown, hts⟩ (c_J6_bitCount_0f7a4 l g L hL G v33 v35 hv35) (va_cwS 1 hts gX3_clauseOf_J6_bitCount_0f7a4 rfl rfl rfl (by decide +kernel) ⟨Nat.le_of_ble_eq_true rfl, Nat.le_of_ble_eq_true rfl⟩) (k_pre hC hS hP) rfl rfl hl.1 rfl (lv_room (Nat.le_of_ble_eq_true rfl)) dX3_clauseOf_166 ⟨Nat.zero_le _, Nat.zero_le _⟩) (fun H locs hP hS => ?_)
                  exact k_iretR hx hb hr (Option.some.inj hN) hP hS hlk dX3_clauseOf_169
                · rw [if_neg c32] at hN
                  rcases Decidable.em (p1 = 7) with c37 | c37
                  · rw [if_pos c37] at hN
                    refine lv_tableIn (off := 155) (tgt := 170) hx hb dX3_clauseOf_15 (by rw [c37]; decide) (by rw [c37]; decide) (by rw [c37]; rfl) (by decide) ?_
                    refine lv_aload_n hx hb dX3_clauseOf_170 rfl (lv_at hl 0 rfl) ?_
                    refine k_get (C := RX3) (T := TX3) (N := 3) (ci := 3) (v := .ref (sA ad 5)) hx hb hts (fun _ h => List.mem_cons_of_mem _ (List.mem_append_left _ (List.mem_append_right _ h))) hown hC hP (hX.m 0 (by omega)) hX.o0 rfl 0 (by decide) (hts (.fieldLink RX3 10 "OrderedClauses" "store" "LOrderedClauses$Store;") (List.mem_of_getElem? (i := 1) rfl)) rfl dX3_clauseOf_171 ?_
                    refine lv_iload_n hx hb dX3_clauseOf_174 rfl (lv_at hl 1 rfl) ?_
                    obtain ⟨v38, hv38, hN⟩ := oB_spec hN
                    refine k_iR hS (va_runVN (As := [.int p0]) (rest := []) ⟨hx, hb, hml, hown, hts⟩ (c_X1_howManyLessThan l g L hL G (sA ad 5) (sR ad 5) x.1 hX.sm p0 v38 hv38) ⟨va_cnB 1 hts gX3_clauseOf_X1_howManyLessThan_n98 rfl rfl rfl (hC.2.1.2 (RX3, 98, yX1_howManyLessThan, RX3) (List.mem_of_getElem? (i := 14) rfl)) (hts (.initialized RX1) (List.mem_of_getElem? (i := 4) rfl)) (by decide +kernel) ⟨Nat.le_of_ble_eq_true rfl, Nat.le_of_ble_eq_true rfl⟩, (hts (.instanceMethod yX1_howManyLessThan) (List.mem_of_getElem? (i := 27) rfl)), (hts (.selects RX1 yX1_howManyLessThan yX1_howManyLessThan) (List.mem_of_getElem? (i := 28) rfl))⟩ (k_preV (C := RX1) (T := TX1) (N := 13) hC hS hP (vO.m hX.sm) (vO.o hX.sm) rfl) rfl rfl hl.1 rfl (lv_room (Nat.le_of_ble_eq_true rfl)) dX3_clauseOf_175 ⟨Nat.zero_le _, Nat.zero_le _⟩) (fun H locs hP hS => ?_)
                    exact k_iretR hx hb hr (Option.some.inj hN) hP hS hlk dX3_clauseOf_178
                  · rw [if_neg c37] at hN
                    rcases Decidable.em (p1 = 8) with c40 | c40
                    · rw [if_pos c40] at hN
                      refine lv_tableIn (off := 164) (tgt := 179) hx hb dX3_clauseOf_15 (by rw [c40]; decide) (by rw [c40]; decide) (by rw [c40]; rfl) (by decide) ?_
                      refine lv_aload_n hx hb dX3_clauseOf_179 rfl (lv_at hl 0 rfl) ?_
                      refine k_get (C := RX3) (T := TX3) (N := 3) (ci := 3) (v := .ref (sA ad 5)) hx hb hts (fun _ h => List.mem_cons_of_mem _ (List.mem_append_left _ (List.mem_append_right _ h))) hown hC hP (hX.m 0 (by omega)) hX.o0 rfl 0 (by decide) (hts (.fieldLink RX3 10 "OrderedClauses" "store" "LOrderedClauses$Store;") (List.mem_of_getElem? (i := 1) rfl)) rfl dX3_clauseOf_180 ?_
                      refine k_getN (C := RX1) (T := TX1) (N := 13) (ci := 1) (v := .ref (sR ad 5 6)) hx hb hts (fun _ h => List.mem_cons_of_mem _ (List.mem_append_right _ h)) hown hC hP (vO.m hX.sm) (vO.o hX.sm) rfl 6 (by decide) (hC.2.1.1 (RX3, 101, RX1, "depth", "[I", RX3) (List.mem_of_getElem? (i := 5) rfl)) rfl dX3_clauseOf_183 ?_
                      refine lv_iload_n hx hb dX3_clauseOf_186 rfl (lv_at hl 1 rfl) ?_
                      obtain ⟨v41, hv41, hN⟩ := oB_spec hN
                      refine k_iR hS (va_runS (As := [.ref (sR ad 5 6), .int p0]) (rest := []) ⟨hx, hb, hml, hown, hts⟩ (c_X3_at l g L hL G (sR ad 5 6) (x.1.1 6) (lnS 6) (vO.rm hX.sm 6 (by decide)) (vO.ri hX.sm 6 (by decide)) p0 v41 hv41) (va_cwS 2 hts gX3_clauseOf_X3_at rfl rfl rfl (by decide +kernel) ⟨Nat.le_of_ble_eq_true rfl, Nat.le_of_ble_eq_true rfl⟩) (k_pre hC hS hP) rfl rfl hl.1 rfl (lv_room (Nat.le_of_ble_eq_true rfl)) dX3_clauseOf_187 ⟨Nat.zero_le _, Nat.zero_le _⟩) (fun H locs hP hS => ?_)
                      exact k_iretR hx hb hr (Option.some.inj hN) hP hS hlk dX3_clauseOf_190
                    · rw [if_neg c40] at hN
                      refine lv_tableOut (tgt := 191) hx hb dX3_clauseOf_15 (ts_out (n := 9) (by decide) (fun j hj => by rcases (show j = 0 ∨ j = 1 ∨ j = 2 ∨ j = 3 ∨ j = 4 ∨ j = 5 ∨ j = 6 ∨ j = 7 ∨ j = 8 by omega) with rfl | rfl | rfl | rfl | rfl | rfl | rfl | rfl | rfl <;> first | exact c4 | exact c7 | exact c10 | exact c17 | exact c22 | exact c27 | exact c32 | exact c37 | exact c40)) (by decide) ?_
                      refine lv_ldc (v := (-1000001)) hx hb hown (hts (.constant RX3 30 (-1000001)) (List.mem_of_getElem? (i := 2) rfl)) dX3_clauseOf_191 ?_
                      exact k_iretR hx hb hr (Option.some.inj hN) hP hS hlk dX3_clauseOf_193
  · rw [if_pos c3] at hN
    refine lv_ldc (v := (-1000001)) hx hb hown (hts (.constant RX3 30 (-1000001)) (List.mem_of_getElem? (i := 2) rfl)) dX3_clauseOf_11 ?_
    exact k_iretR hx hb hr (Option.some.inj hN) hP hS hlk dX3_clauseOf_13
set_option maxHeartbeats 4000000 in
set_option maxRecDepth 100000 in
theorem c_X3_tree (l : Launch) (g : Gm) (L : List Nat) {A : Nat → Prop} (hL : kL L A) (G : Nat → va_E) (ad : Nat → Nat) (x : XS) (hX : vX g L G ad x) (p0 : Int32) (v : Int64) (hF : F_X3_tree x p0 = some v) : Met l yX3_tree wsX3_tree ({ frames := 2, cells := 0, slots := 0, locals := 46 } : Room) (va_Pc [.ref (ad 0), .int p0] (kB g L A G)) (va_Ql (fun x9 (G9 : Nat → va_E) => x9 = v ∧ G9 = G) (kE g L) A) 0 0 A := by
  refine Met.ofW (cc := cX3_tree) (maxL := 2) (ret := (some .long)) (by decide) rfl ?_
  intro p e s m args below meth c s₁ B hml hv
  obtain ⟨rfl, hP, hC⟩ := hv
  have hx := B.exec
  have hb := B.bytes
  have hr := B.returns
  have hts := atoms_spec (ws := wsX3_tree) B.pre
  have hown : s.vm.findClass RX3 = some m.cls := findClass_of_methodNamed B.named
  have hlk := B.notSynchronized
  have hS : va_S A s.heap s.heap [] := va_S.rf
  have hl := lv_entry ([.ref (ad 0), .int p0]) (n := 2) (Nat.le_of_ble_eq_true rfl)
  rw [lg_entry_eq]
  generalize (lg_sl ([.ref (ad 0), .int p0]) ++ List.replicate (2 - (lg_sl ([.ref (ad 0), .int p0])).length) Slot.unset).toArray = ls at hl ⊢
  have hl : lv_has ls 2 [(0, .ref (ad 0)), (1, .int p0)] := hl
  have hN := hF
  unfold F_X3_tree at hN
  refine lv_aload_n hx hb dX3_tree_0 rfl (lv_at hl 0 rfl) ?_
  refine k_get (C := RX3) (T := TX3) (N := 3) (ci := 3) (v := .ref (sA ad 5)) hx hb hts (fun _ h => List.mem_cons_of_mem _ (List.mem_append_left _ (List.mem_append_right _ h))) hown hC hP (hX.m 0 (by omega)) hX.o0 rfl 0 (by decide) (hts (.fieldLink RX3 10 "OrderedClauses" "store" "LOrderedClauses$Store;") (List.mem_of_getElem? (i := 1) rfl)) rfl dX3_tree_1 ?_
  refine lv_iload_n hx hb dX3_tree_4 rfl (lv_at hl 1 rfl) ?_
  obtain ⟨v1, hv1, hN⟩ := oB_spec hN
  refine k_iR hS (va_runVN (As := [.int p0]) (rest := []) ⟨hx, hb, hml, hown, hts⟩ (c_X1_has l g L hL G (sA ad 5) (sR ad 5) x.1 hX.sm p0 v1 hv1) ⟨va_cnB 1 hts gX3_tree_X1_has_n63 rfl rfl rfl (hC.2.1.2 (RX3, 63, yX1_has, RX3) (List.mem_of_getElem? (i := 12) rfl)) (hts (.initialized RX1) (List.mem_of_getElem? (i := 4) rfl)) (by decide +kernel) ⟨Nat.le_of_ble_eq_true rfl, Nat.le_of_ble_eq_true rfl⟩, (hts (.instanceMethod yX1_has) (List.mem_of_getElem? (i := 3) rfl)), (hts (.selects RX1 yX1_has yX1_has) (List.mem_of_getElem? (i := 5) rfl))⟩ (k_preV (C := RX1) (T := TX1) (N := 13) hC hS hP (vO.m hX.sm) (vO.o hX.sm) rfl) rfl rfl hl.1 rfl (lv_room (Nat.le_of_ble_eq_true rfl)) dX3_tree_5 ⟨Nat.zero_le _, Nat.zero_le _⟩) (fun H locs hP hS => ?_)
  refine lv_if_eq (tgt := 22) hx hb dX3_tree_8 (by decide) (fun c3 => ?_) (fun c3 => ?_)
  · rw [if_pos c3] at hN
    refine lv_ldc2 (v := (-1000001)) hx hb hown (hts (.constantLong RX3 108 (-1000001)) (List.mem_of_getElem? (i := 2) rfl)) dX3_tree_22 ?_
    exact k_lretR hx hb hr (Option.some.inj hN) hP hS hlk dX3_tree_25
  · rw [if_neg c3] at hN
    refine lv_aload_n hx hb dX3_tree_11 rfl (lv_at hl 0 rfl) ?_
    refine k_get (C := RX3) (T := TX3) (N := 3) (ci := 3) (v := .ref (sA ad 5)) hx hb hts (fun _ h => List.mem_cons_of_mem _ (List.mem_append_left _ (List.mem_append_right _ h))) hown hC hP (hX.m 0 (by omega)) hX.o0 rfl 0 (by decide) (hts (.fieldLink RX3 10 "OrderedClauses" "store" "LOrderedClauses$Store;") (List.mem_of_getElem? (i := 1) rfl)) rfl dX3_tree_12 ?_
    refine lv_iload_n hx hb dX3_tree_15 rfl (lv_at hl 1 rfl) ?_
    obtain ⟨v4, hv4, hN⟩ := oB_spec hN
    refine k_lR hS (va_runVN (As := [.int p0]) (rest := []) ⟨hx, hb, hml, hown, hts⟩ (c_X1_treeOf l g L hL G (sA ad 5) (sR ad 5) x.1 hX.sm p0 v4 hv4) ⟨va_cnB 1 hts gX3_tree_X1_treeOf_n104 rfl rfl rfl (hC.2.1.2 (RX3, 104, yX1_treeOf, RX3) (List.mem_of_getElem? (i := 21) rfl)) (hts (.initialized RX1) (List.mem_of_getElem? (i := 4) rfl)) (by decide +kernel) ⟨Nat.le_of_ble_eq_true rfl, Nat.le_of_ble_eq_true rfl⟩, (hts (.instanceMethod yX1_treeOf) (List.mem_of_getElem? (i := 8) rfl)), (hts (.selects RX1 yX1_treeOf yX1_treeOf) (List.mem_of_getElem? (i := 9) rfl))⟩ (k_preV (C := RX1) (T := TX1) (N := 13) hC hS hP (vO.m hX.sm) (vO.o hX.sm) rfl) rfl rfl hl.1 rfl (lv_room (Nat.le_of_ble_eq_true rfl)) dX3_tree_16 ⟨Nat.zero_le _, Nat.zero_le _⟩) (fun H locs hP hS => ?_)
    refine lv_goto (tgt := 25) hx hb dX3_tree_19 (by decide) ?_
    exact k_lretR hx hb hr (Option.some.inj hN) hP hS hlk dX3_tree_25
set_option maxHeartbeats 4000000 in
set_option maxRecDepth 100000 in
theorem c_X3_refutation (l : Launch) (g : Gm) (L : List Nat) {A : Nat → Prop} (hL : kL L A) (G : Nat → va_E) (ad : Nat → Nat) (x : XS) (hX : vX g L G ad x) (v : Int32) (hF : F_X3_refutation x = some v) : Met l yX3_refutation wsX3_refutation ({ frames := 2, cells := 0, slots := 0, locals := 42 } : Room) (va_Pc [.ref (ad 0)] (kB g L A G)) (va_Qi (fun x9 (G9 : Nat → va_E) => x9 = v ∧ G9 = G) (kE g L) A) 0 0 A := by
  refine Met.ofW (cc := cX3_refutation) (maxL := 1) (ret := (some .int)) (by decide) rfl ?_
  intro p e s m args below meth c s₁ B hml hv
  obtain ⟨rfl, hP, hC⟩ := hv
  have hx := B.exec
  have hb := B.bytes
  have hr := B.returns
  have hts := atoms_spec (ws := wsX3_refutation) B.pre
  have hown : s.vm.findClass RX3 = some m.cls := findClass_of_methodNamed B.named
  have hlk := B.notSynchronized
  have hS : va_S A s.heap s.heap [] := va_S.rf
  have hl := lv_entry ([.ref (ad 0)]) (n := 1) (Nat.le_of_ble_eq_true rfl)
  rw [lg_entry_eq]
  generalize (lg_sl ([.ref (ad 0)]) ++ List.replicate (1 - (lg_sl ([.ref (ad 0)])).length) Slot.unset).toArray = ls at hl ⊢
  have hl : lv_has ls 1 [(0, .ref (ad 0))] := hl
  have hN := hF
  unfold F_X3_refutation at hN
  refine lv_aload_n hx hb dX3_refutation_0 rfl (lv_at hl 0 rfl) ?_
  refine k_get (C := RX3) (T := TX3) (N := 3) (ci := 3) (v := .ref (sA ad 5)) hx hb hts (fun _ h => List.mem_cons_of_mem _ (List.mem_append_left _ (List.mem_append_right _ h))) hown hC hP (hX.m 0 (by omega)) hX.o0 rfl 0 (by decide) (hts (.fieldLink RX3 10 "OrderedClauses" "store" "LOrderedClauses$Store;") (List.mem_of_getElem? (i := 1) rfl)) rfl dX3_refutation_1 ?_
  obtain ⟨v1, hv1, hN⟩ := oB_spec hN
  refine k_iR hS (va_runVN (As := []) (rest := []) ⟨hx, hb, hml, hown, hts⟩ (c_X1_emptyClause l g L hL G (sA ad 5) (sR ad 5) x.1 hX.sm v1 hv1) ⟨va_cnB 0 hts gX3_refutation_X1_emptyClause_n114 rfl rfl rfl (hC.2.1.2 (RX3, 114, yX1_emptyClause, RX3) (List.mem_of_getElem? (i := 20) rfl)) (hts (.initialized RX1) (List.mem_of_getElem? (i := 3) rfl)) (by decide +kernel) ⟨Nat.le_of_ble_eq_true rfl, Nat.le_of_ble_eq_true rfl⟩, (hts (.instanceMethod yX1_emptyClause) (List.mem_of_getElem? (i := 2) rfl)), (hts (.selects RX1 yX1_emptyClause yX1_emptyClause) (List.mem_of_getElem? (i := 4) rfl))⟩ (k_preV (C := RX1) (T := TX1) (N := 13) hC hS hP (vO.m hX.sm) (vO.o hX.sm) rfl) rfl rfl hl.1 rfl (lv_room (Nat.le_of_ble_eq_true rfl)) dX3_refutation_4 ⟨Nat.zero_le _, Nat.zero_le _⟩) (fun H locs hP hS => ?_)
  obtain ⟨v3, hv3, hN⟩ := oB_spec hN
  refine k_iR hS (va_runS (As := [.int v1]) (rest := []) ⟨hx, hb, hml, hown, hts⟩ (c_X3_foundOrNot l g L hL G v1 v3 hv3) (va_cwS 1 hts gX3_refutation_X3_foundOrNot rfl rfl rfl (by decide +kernel) ⟨Nat.le_of_ble_eq_true rfl, Nat.le_of_ble_eq_true rfl⟩) (k_pre hC hS hP) rfl rfl hl.1 rfl (lv_room (Nat.le_of_ble_eq_true rfl)) dX3_refutation_7 ⟨Nat.zero_le _, Nat.zero_le _⟩) (fun H locs hP hS => ?_)
  exact k_iretR hx hb hr (Option.some.inj hN) hP hS hlk dX3_refutation_10
set_option maxHeartbeats 4000000 in
set_option maxRecDepth 100000 in
theorem c_X3_models (l : Launch) (g : Gm) (L : List Nat) {A : Nat → Prop} (hL : kL L A) (G : Nat → va_E) (ad : Nat → Nat) (x : XS) (hX : vX g L G ad x) (v : Int32) (hF : F_X3_models x = some v) : Met l yX3_models wsX3_models ({ frames := 3, cells := 0, slots := 0, locals := 65 } : Room) (va_Pc [.ref (ad 0)] (kB g L A G)) (va_Qi (fun x9 (G9 : Nat → va_E) => x9 = v ∧ G9 = G) (kE g L) A) 0 0 A := by
  refine Met.ofW (cc := cX3_models) (maxL := 1) (ret := (some .int)) (by decide) rfl ?_
  intro p e s m args below meth c s₁ B hml hv
  obtain ⟨rfl, hP, hC⟩ := hv
  have hx := B.exec
  have hb := B.bytes
  have hr := B.returns
  have hts := atoms_spec (ws := wsX3_models) B.pre
  have hown : s.vm.findClass RX3 = some m.cls := findClass_of_methodNamed B.named
  have hlk := B.notSynchronized
  have hS : va_S A s.heap s.heap [] := va_S.rf
  have hl := lv_entry ([.ref (ad 0)]) (n := 1) (Nat.le_of_ble_eq_true rfl)
  rw [lg_entry_eq]
  generalize (lg_sl ([.ref (ad 0)]) ++ List.replicate (1 - (lg_sl ([.ref (ad 0)])).length) Slot.unset).toArray = ls at hl ⊢
  have hl : lv_has ls 1 [(0, .ref (ad 0))] := hl
  have hN := hF
  unfold F_X3_models at hN
  refine lv_aload_n hx hb dX3_models_0 rfl (lv_at hl 0 rfl) ?_
  refine k_get (C := RX3) (T := TX3) (N := 3) (ci := 3) (v := .ref (sA ad 5)) hx hb hts (fun _ h => List.mem_cons_of_mem _ (List.mem_append_left _ (List.mem_append_right _ h))) hown hC hP (hX.m 0 (by omega)) hX.o0 rfl 0 (by decide) (hts (.fieldLink RX3 10 "OrderedClauses" "store" "LOrderedClauses$Store;") (List.mem_of_getElem? (i := 1) rfl)) rfl dX3_models_1 ?_
  refine lv_aload_n hx hb dX3_models_4 rfl (lv_at hl 0 rfl) ?_
  refine k_get (C := RX3) (T := TX3) (N := 3) (ci := 3) (v := .ref (sA ad 5)) hx hb hts (fun _ h => List.mem_cons_of_mem _ (List.mem_append_left _ (List.mem_append_right _ h))) hown hC hP (hX.m 0 (by omega)) hX.o0 rfl 0 (by decide) (hts (.fieldLink RX3 10 "OrderedClauses" "store" "LOrderedClauses$Store;") (List.mem_of_getElem? (i := 1) rfl)) rfl dX3_models_5 ?_
  obtain ⟨v1, hv1, hN⟩ := oB_spec hN
  refine k_lR hS (va_runVN (As := []) (rest := [.ref (sA ad 5)]) ⟨hx, hb, hml, hown, hts⟩ (c_X1_toldClauses l g L hL G (sA ad 5) (sR ad 5) x.1 hX.sm v1 hv1) ⟨va_cnB 0 hts gX3_models_X1_toldClauses_n117 rfl rfl rfl (hC.2.1.2 (RX3, 117, yX1_toldClauses, RX3) (List.mem_of_getElem? (i := 16) rfl)) (hts (.initialized RX1) (List.mem_of_getElem? (i := 3) rfl)) (by decide +kernel) ⟨Nat.le_of_ble_eq_true rfl, Nat.le_of_ble_eq_true rfl⟩, (hts (.instanceMethod yX1_toldClauses) (List.mem_of_getElem? (i := 2) rfl)), (hts (.selects RX1 yX1_toldClauses yX1_toldClauses) (List.mem_of_getElem? (i := 4) rfl))⟩ (k_preV (C := RX1) (T := TX1) (N := 13) hC hS hP (vO.m hX.sm) (vO.o hX.sm) rfl) rfl rfl hl.1 rfl (lv_room (Nat.le_of_ble_eq_true rfl)) dX3_models_8 ⟨Nat.zero_le _, Nat.zero_le _⟩) (fun H locs hP hS => ?_)
  obtain ⟨v3, hv3, hN⟩ := oB_spec hN
  refine k_lR hS (va_runVN (As := [.long v1]) (rest := []) ⟨hx, hb, hml, hown, hts⟩ (c_X1_valuesFulfilling l g L hL G (sA ad 5) (sR ad 5) x.1 hX.sm v1 v3 hv3) ⟨va_cnB 1 hts gX3_models_X1_valuesFulfilling_n121 rfl rfl rfl (hC.2.1.2 (RX3, 121, yX1_valuesFulfilling, RX3) (List.mem_of_getElem? (i := 18) rfl)) (hts (.initialized RX1) (List.mem_of_getElem? (i := 3) rfl)) (by decide +kernel) ⟨Nat.le_of_ble_eq_true rfl, Nat.le_of_ble_eq_true rfl⟩, (hts (.instanceMethod yX1_valuesFulfilling) (List.mem_of_getElem? (i := 17) rfl)), (hts (.selects RX1 yX1_valuesFulfilling yX1_valuesFulfilling) (List.mem_of_getElem? (i := 18) rfl))⟩ (k_preV (C := RX1) (T := TX1) (N := 13) hC hS hP (vO.m hX.sm) (vO.o hX.sm) rfl) rfl rfl hl.1 rfl (lv_room (Nat.le_of_ble_eq_true rfl)) dX3_models_11 ⟨Nat.zero_le _, Nat.zero_le _⟩) (fun H locs hP hS => ?_)
  obtain ⟨v5, hv5, hN⟩ := oB_spec hN
  refine k_iR hS (va_runS (As := [.long v3]) (rest := []) ⟨hx, hb, hml, hown, hts⟩ (c_J13_bitCount_95d88 l g L hL G v3 v5 hv5) (va_cwS 1 hts gX3_models_J13_bitCount_95d88 rfl rfl rfl (by decide +kernel) ⟨Nat.le_of_ble_eq_true rfl, Nat.le_of_ble_eq_true rfl⟩) (k_pre hC hS hP) rfl rfl hl.1 rfl (lv_room (Nat.le_of_ble_eq_true rfl)) dX3_models_14 ⟨Nat.zero_le _, Nat.zero_le _⟩) (fun H locs hP hS => ?_)
  exact k_iretR hx hb hr (Option.some.inj hN) hP hS hlk dX3_models_17
set_option maxHeartbeats 4000000 in
set_option maxRecDepth 100000 in
theorem c_X3_core (l : Launch) (g : Gm) (L : List Nat) {A : Nat → Prop} (hL : kL L A) (G : Nat → va_E) (ad : Nat → Nat) (x : XS) (hX : vX g L G ad x) (v : Int64) (hF : F_X3_core x = some v) : Met l yX3_core wsX3_core ({ frames := 3, cells := 0, slots := 0, locals := 74 } : Room) (va_Pc [.ref (ad 0)] (kB g L A G)) (va_Ql (fun x9 (G9 : Nat → va_E) => x9 = v ∧ G9 = G) (kE g L) A) 0 0 A := by
  refine Met.ofW (cc := cX3_core) (maxL := 3) (ret := (some .long)) (by decide) rfl ?_
  intro p e s m args below meth c s₁ B hml hv
  obtain ⟨rfl, hP, hC⟩ := hv
  have hx := B.exec
  have hb := B.bytes
  have hr := B.returns
  have hts := atoms_spec (ws := wsX3_core) B.pre
  have hown : s.vm.findClass RX3 = some m.cls := findClass_of_methodNamed B.named
  have hlk := B.notSynchronized
  have hS : va_S A s.heap s.heap [] := va_S.rf
  have hl := lv_entry ([.ref (ad 0)]) (n := 3) (Nat.le_of_ble_eq_true rfl)
  rw [lg_entry_eq]
  generalize (lg_sl ([.ref (ad 0)]) ++ List.replicate (3 - (lg_sl ([.ref (ad 0)])).length) Slot.unset).toArray = ls at hl ⊢
  have hl : lv_has ls 3 [(0, .ref (ad 0))] := hl
  have hN := hF
  unfold F_X3_core at hN
  refine lv_aload_n hx hb dX3_core_0 rfl (lv_at hl 0 rfl) ?_
  refine k_get (C := RX3) (T := TX3) (N := 3) (ci := 3) (v := .ref (sA ad 5)) hx hb hts (fun _ h => List.mem_cons_of_mem _ (List.mem_append_left _ (List.mem_append_right _ h))) hown hC hP (hX.m 0 (by omega)) hX.o0 rfl 0 (by decide) (hts (.fieldLink RX3 10 "OrderedClauses" "store" "LOrderedClauses$Store;") (List.mem_of_getElem? (i := 1) rfl)) rfl dX3_core_1 ?_
  obtain ⟨v1, hv1, hN⟩ := oB_spec hN
  refine k_lR hS (va_runVN (As := []) (rest := []) ⟨hx, hb, hml, hown, hts⟩ (c_X1_toldClauses l g L hL G (sA ad 5) (sR ad 5) x.1 hX.sm v1 hv1) ⟨va_cnB 0 hts gX3_core_X1_toldClauses_n117 rfl rfl rfl (hC.2.1.2 (RX3, 117, yX1_toldClauses, RX3) (List.mem_of_getElem? (i := 16) rfl)) (hts (.initialized RX1) (List.mem_of_getElem? (i := 4) rfl)) (by decide +kernel) ⟨Nat.le_of_ble_eq_true rfl, Nat.le_of_ble_eq_true rfl⟩, (hts (.instanceMethod yX1_toldClauses) (List.mem_of_getElem? (i := 3) rfl)), (hts (.selects RX1 yX1_toldClauses yX1_toldClauses) (List.mem_of_getElem? (i := 5) rfl))⟩ (k_preV (C := RX1) (T := TX1) (N := 13) hC hS hP (vO.m hX.sm) (vO.o hX.sm) rfl) rfl rfl hl.1 rfl (lv_room (Nat.le_of_ble_eq_true rfl)) dX3_core_4 ⟨Nat.zero_le _, Nat.zero_le _⟩) (fun H locs hP hS => ?_)
  refine lv_lstore_n (lv' := [(1, .long v1), (0, .ref (ad 0))]) hx hb dX3_core_7 rfl hl (by decide) rfl (fun ls hl => ?_)
  refine lv_aload_n hx hb dX3_core_8 rfl (lv_at hl 1 rfl) ?_
  refine k_get (C := RX3) (T := TX3) (N := 3) (ci := 3) (v := .ref (sA ad 5)) hx hb hts (fun _ h => List.mem_cons_of_mem _ (List.mem_append_left _ (List.mem_append_right _ h))) hown hC hP (hX.m 0 (by omega)) hX.o0 rfl 0 (by decide) (hts (.fieldLink RX3 10 "OrderedClauses" "store" "LOrderedClauses$Store;") (List.mem_of_getElem? (i := 1) rfl)) rfl dX3_core_9 ?_
  refine lv_lload_n hx hb dX3_core_12 rfl (lv_at hl 0 rfl) ?_
  obtain ⟨v3, hv3, hN⟩ := oB_spec hN
  refine k_lR hS (va_runVN (As := [.long v1]) (rest := []) ⟨hx, hb, hml, hown, hts⟩ (c_X1_valuesFulfilling l g L hL G (sA ad 5) (sR ad 5) x.1 hX.sm v1 v3 hv3) ⟨va_cnB 1 hts gX3_core_X1_valuesFulfilling_n121 rfl rfl rfl (hC.2.1.2 (RX3, 121, yX1_valuesFulfilling, RX3) (List.mem_of_getElem? (i := 18) rfl)) (hts (.initialized RX1) (List.mem_of_getElem? (i := 4) rfl)) (by decide +kernel) ⟨Nat.le_of_ble_eq_true rfl, Nat.le_of_ble_eq_true rfl⟩, (hts (.instanceMethod yX1_valuesFulfilling) (List.mem_of_getElem? (i := 18) rfl)), (hts (.selects RX1 yX1_valuesFulfilling yX1_valuesFulfilling) (List.mem_of_getElem? (i := 19) rfl))⟩ (k_preV (C := RX1) (T := TX1) (N := 13) hC hS hP (vO.m hX.sm) (vO.o hX.sm) rfl) rfl rfl hl.1 rfl (lv_room (Nat.le_of_ble_eq_true rfl)) dX3_core_13 ⟨Nat.zero_le _, Nat.zero_le _⟩) (fun H locs hP hS => ?_)
  refine lv_lconst (v := 0) hx hb dX3_core_16 (by decide) ?_
  refine W.lcmp hx hb dX3_core_17 ?_
  refine lv_if_ne (tgt := 32) hx hb dX3_core_18 (by decide) (fun c5 => ?_) (fun c5 => ?_)
  · rw [if_neg c5] at hN
    refine lv_ldc2 (v := (-1000004)) hx hb hown (hts (.constantLong RX3 140 (-1000004)) (List.mem_of_getElem? (i := 2) rfl)) dX3_core_32 ?_
    exact k_lretR hx hb hr (Option.some.inj hN) hP hS hlk dX3_core_35
  · rw [if_pos c5] at hN
    refine lv_aload_n hx hb dX3_core_21 rfl (lv_at hl 1 rfl) ?_
    refine k_get (C := RX3) (T := TX3) (N := 3) (ci := 3) (v := .ref (sA ad 5)) hx hb hts (fun _ h => List.mem_cons_of_mem _ (List.mem_append_left _ (List.mem_append_right _ h))) hown hC hP (hX.m 0 (by omega)) hX.o0 rfl 0 (by decide) (hts (.fieldLink RX3 10 "OrderedClauses" "store" "LOrderedClauses$Store;") (List.mem_of_getElem? (i := 1) rfl)) rfl dX3_core_22 ?_
    refine lv_lload_n hx hb dX3_core_25 rfl (lv_at hl 0 rfl) ?_
    obtain ⟨v6, hv6, hN⟩ := oB_spec hN
    refine k_lR hS (va_runVN (As := [.long v1]) (rest := []) ⟨hx, hb, hml, hown, hts⟩ (c_X1_fewestUnfulfillable l g L hL G (sA ad 5) (sR ad 5) x.1 hX.sm v1 v6 hv6) ⟨va_cnB 1 hts gX3_core_X1_fewestUnfulfillable_n137 rfl rfl rfl (hC.2.1.2 (RX3, 137, yX1_fewestUnfulfillable, RX3) (List.mem_of_getElem? (i := 22) rfl)) (hts (.initialized RX1) (List.mem_of_getElem? (i := 4) rfl)) (by decide +kernel) ⟨Nat.le_of_ble_eq_true rfl, Nat.le_of_ble_eq_true rfl⟩, (hts (.instanceMethod yX1_fewestUnfulfillable) (List.mem_of_getElem? (i := 27) rfl)), (hts (.selects RX1 yX1_fewestUnfulfillable yX1_fewestUnfulfillable) (List.mem_of_getElem? (i := 28) rfl))⟩ (k_preV (C := RX1) (T := TX1) (N := 13) hC hS hP (vO.m hX.sm) (vO.o hX.sm) rfl) rfl rfl hl.1 rfl (lv_room (Nat.le_of_ble_eq_true rfl)) dX3_core_26 ⟨Nat.zero_le _, Nat.zero_le _⟩) (fun H locs hP hS => ?_)
    refine lv_goto (tgt := 35) hx hb dX3_core_29 (by decide) ?_
    exact k_lretR hx hb hr (Option.some.inj hN) hP hS hlk dX3_core_35
set_option maxHeartbeats 4000000 in
set_option maxRecDepth 100000 in
theorem c_X3_follows (l : Launch) (g : Gm) (L : List Nat) {A : Nat → Prop} (hL : kL L A) (G : Nat → va_E) (ad : Nat → Nat) (x : XS) (hX : vX g L G ad x) (p0 : Int32) (v : Int32) (hF : F_X3_follows x p0 = some v) : Met l yX3_follows wsX3_follows ({ frames := 3, cells := 0, slots := 0, locals := 65 } : Room) (va_Pc [.ref (ad 0), .int p0] (kB g L A G)) (va_Qi (fun x9 (G9 : Nat → va_E) => x9 = v ∧ G9 = G) (kE g L) A) 0 0 A := by
  refine Met.ofW (cc := cX3_follows) (maxL := 4) (ret := (some .int)) (by decide) rfl ?_
  intro p e s m args below meth c s₁ B hml hv
  obtain ⟨rfl, hP, hC⟩ := hv
  have hx := B.exec
  have hb := B.bytes
  have hr := B.returns
  have hts := atoms_spec (ws := wsX3_follows) B.pre
  have hown : s.vm.findClass RX3 = some m.cls := findClass_of_methodNamed B.named
  have hlk := B.notSynchronized
  have hS : va_S A s.heap s.heap [] := va_S.rf
  have hl := lv_entry ([.ref (ad 0), .int p0]) (n := 4) (Nat.le_of_ble_eq_true rfl)
  rw [lg_entry_eq]
  generalize (lg_sl ([.ref (ad 0), .int p0]) ++ List.replicate (4 - (lg_sl ([.ref (ad 0), .int p0])).length) Slot.unset).toArray = ls at hl ⊢
  have hl : lv_has ls 4 [(0, .ref (ad 0)), (1, .int p0)] := hl
  have hN := hF
  unfold F_X3_follows at hN
  refine lv_iload_n hx hb dX3_follows_0 rfl (lv_at hl 1 rfl) ?_
  refine lv_if_lt (tgt := 11) hx hb dX3_follows_1 (by decide) (fun c1 => ?_) (fun c1 => ?_)
  · rw [if_pos c1] at hN
    refine lv_ldc (v := (-1000001)) hx hb hown (hts (.constant RX3 30 (-1000001)) (List.mem_of_getElem? (i := 1) rfl)) dX3_follows_11 ?_
    exact k_iretR hx hb hr (Option.some.inj hN) hP hS hlk dX3_follows_13
  · rw [if_neg c1] at hN
    refine lv_iload_n hx hb dX3_follows_4 rfl (lv_at hl 1 rfl) ?_
    refine lv_sipush (v := 4095) hx hb dX3_follows_5 (by decide) ?_
    refine lv_icmp_le (tgt := 14) hx hb dX3_follows_8 (by decide) (fun c2 => ?_) (fun c2 => ?_)
    · rw [if_pos c2] at hN
      refine lv_aload_n hx hb dX3_follows_14 rfl (lv_at hl 0 rfl) ?_
      refine k_get (C := RX3) (T := TX3) (N := 3) (ci := 3) (v := .ref (sA ad 5)) hx hb hts (fun _ h => List.mem_cons_of_mem _ (List.mem_append_left _ (List.mem_append_right _ h))) hown hC hP (hX.m 0 (by omega)) hX.o0 rfl 0 (by decide) (hts (.fieldLink RX3 10 "OrderedClauses" "store" "LOrderedClauses$Store;") (List.mem_of_getElem? (i := 2) rfl)) rfl dX3_follows_15 ?_
      refine lv_aload_n hx hb dX3_follows_18 rfl (lv_at hl 0 rfl) ?_
      refine k_get (C := RX3) (T := TX3) (N := 3) (ci := 3) (v := .ref (sA ad 5)) hx hb hts (fun _ h => List.mem_cons_of_mem _ (List.mem_append_left _ (List.mem_append_right _ h))) hown hC hP (hX.m 0 (by omega)) hX.o0 rfl 0 (by decide) (hts (.fieldLink RX3 10 "OrderedClauses" "store" "LOrderedClauses$Store;") (List.mem_of_getElem? (i := 2) rfl)) rfl dX3_follows_19 ?_
      obtain ⟨v3, hv3, hN⟩ := oB_spec hN
      refine k_lR hS (va_runVN (As := []) (rest := [.ref (sA ad 5)]) ⟨hx, hb, hml, hown, hts⟩ (c_X1_toldClauses l g L hL G (sA ad 5) (sR ad 5) x.1 hX.sm v3 hv3) ⟨va_cnB 0 hts gX3_follows_X1_toldClauses_n117 rfl rfl rfl (hC.2.1.2 (RX3, 117, yX1_toldClauses, RX3) (List.mem_of_getElem? (i := 16) rfl)) (hts (.initialized RX1) (List.mem_of_getElem? (i := 5) rfl)) (by decide +kernel) ⟨Nat.le_of_ble_eq_true rfl, Nat.le_of_ble_eq_true rfl⟩, (hts (.instanceMethod yX1_toldClauses) (List.mem_of_getElem? (i := 4) rfl)), (hts (.selects RX1 yX1_toldClauses yX1_toldClauses) (List.mem_of_getElem? (i := 6) rfl))⟩ (k_preV (C := RX1) (T := TX1) (N := 13) hC hS hP (vO.m hX.sm) (vO.o hX.sm) rfl) rfl rfl hl.1 rfl (lv_room (Nat.le_of_ble_eq_true rfl)) dX3_follows_22 ⟨Nat.zero_le _, Nat.zero_le _⟩) (fun H locs hP hS => ?_)
      obtain ⟨v5, hv5, hN⟩ := oB_spec hN
      refine k_lR hS (va_runVN (As := [.long v3]) (rest := []) ⟨hx, hb, hml, hown, hts⟩ (c_X1_valuesFulfilling l g L hL G (sA ad 5) (sR ad 5) x.1 hX.sm v3 v5 hv5) ⟨va_cnB 1 hts gX3_follows_X1_valuesFulfilling_n121 rfl rfl rfl (hC.2.1.2 (RX3, 121, yX1_valuesFulfilling, RX3) (List.mem_of_getElem? (i := 18) rfl)) (hts (.initialized RX1) (List.mem_of_getElem? (i := 5) rfl)) (by decide +kernel) ⟨Nat.le_of_ble_eq_true rfl, Nat.le_of_ble_eq_true rfl⟩, (hts (.instanceMethod yX1_valuesFulfilling) (List.mem_of_getElem? (i := 19) rfl)), (hts (.selects RX1 yX1_valuesFulfilling yX1_valuesFulfilling) (List.mem_of_getElem? (i := 20) rfl))⟩ (k_preV (C := RX1) (T := TX1) (N := 13) hC hS hP (vO.m hX.sm) (vO.o hX.sm) rfl) rfl rfl hl.1 rfl (lv_room (Nat.le_of_ble_eq_true rfl)) dX3_follows_25 ⟨Nat.zero_le _, Nat.zero_le _⟩) (fun H locs hP hS => ?_)
      refine lv_lstore_n (lv' := [(2, .long v5), (0, .ref (ad 0)), (1, .int p0)]) hx hb dX3_follows_28 rfl hl (by decide) rfl (fun ls hl => ?_)
      refine lv_lload_n hx hb dX3_follows_29 rfl (lv_at hl 0 rfl) ?_
      refine lv_iload_n hx hb dX3_follows_30 rfl (lv_at hl 2 rfl) ?_
      obtain ⟨v7, hv7, hN⟩ := oB_spec hN
      refine k_lR hS (va_runS (As := [.int p0]) (rest := [.long v5]) ⟨hx, hb, hml, hown, hts⟩ (c_X3_valuesOfClause l g L hL G p0 v7 hv7) (va_cwS 1 hts gX3_follows_X3_valuesOfClause rfl rfl rfl (by decide +kernel) ⟨Nat.le_of_ble_eq_true rfl, Nat.le_of_ble_eq_true rfl⟩) (k_pre hC hS hP) rfl rfl hl.1 rfl (lv_room (Nat.le_of_ble_eq_true rfl)) dX3_follows_31 ⟨Nat.zero_le _, Nat.zero_le _⟩) (fun H locs hP hS => ?_)
      refine lv_ldc2 (v := (-1)) hx hb hown (hts (.constantLong RX3 145 (-1)) (List.mem_of_getElem? (i := 3) rfl)) dX3_follows_34 ?_
      refine lv_lxor hx hb dX3_follows_37 ?_
      refine lv_land hx hb dX3_follows_38 ?_
      refine lv_lconst (v := 0) hx hb dX3_follows_39 (by decide) ?_
      refine W.lcmp hx hb dX3_follows_40 ?_
      refine lv_if_ne (tgt := 48) hx hb dX3_follows_41 (by decide) (fun c9 => ?_) (fun c9 => ?_)
      · rw [if_neg c9] at hN
        refine lv_iconst (v := 0) hx hb dX3_follows_48 (by decide) ?_
        exact k_iretR hx hb hr (Option.some.inj hN) hP hS hlk dX3_follows_49
      · rw [if_pos c9] at hN
        refine lv_iconst (v := 1) hx hb dX3_follows_44 (by decide) ?_
        refine lv_goto (tgt := 49) hx hb dX3_follows_45 (by decide) ?_
        exact k_iretR hx hb hr (Option.some.inj hN) hP hS hlk dX3_follows_49
    · rw [if_neg c2] at hN
      refine lv_ldc (v := (-1000001)) hx hb hown (hts (.constant RX3 30 (-1000001)) (List.mem_of_getElem? (i := 1) rfl)) dX3_follows_11 ?_
      exact k_iretR hx hb hr (Option.some.inj hN) hP hS hlk dX3_follows_13
set_option maxHeartbeats 4000000 in
set_option maxRecDepth 100000 in
theorem c_X3_share (l : Launch) (g : Gm) (L : List Nat) {A : Nat → Prop} (hL : kL L A) (G : Nat → va_E) (ad : Nat → Nat) (x : XS) (hX : vX g L G ad x) (p0 : Int32) (v : Int32) (hF : F_X3_share x p0 = some v) : Met l yX3_share wsX3_share ({ frames := 2, cells := 0, slots := 0, locals := 47 } : Room) (va_Pc [.ref (ad 0), .int p0] (kB g L A G)) (va_Qi (fun x9 (G9 : Nat → va_E) => x9 = v ∧ G9 = G) (kE g L) A) 0 0 A := by
  refine Met.ofW (cc := cX3_share) (maxL := 2) (ret := (some .int)) (by decide) rfl ?_
  intro p e s m args below meth c s₁ B hml hv
  obtain ⟨rfl, hP, hC⟩ := hv
  have hx := B.exec
  have hb := B.bytes
  have hr := B.returns
  have hts := atoms_spec (ws := wsX3_share) B.pre
  have hown : s.vm.findClass RX3 = some m.cls := findClass_of_methodNamed B.named
  have hlk := B.notSynchronized
  have hS : va_S A s.heap s.heap [] := va_S.rf
  have hl := lv_entry ([.ref (ad 0), .int p0]) (n := 2) (Nat.le_of_ble_eq_true rfl)
  rw [lg_entry_eq]
  generalize (lg_sl ([.ref (ad 0), .int p0]) ++ List.replicate (2 - (lg_sl ([.ref (ad 0), .int p0])).length) Slot.unset).toArray = ls at hl ⊢
  have hl : lv_has ls 2 [(0, .ref (ad 0)), (1, .int p0)] := hl
  have hN := hF
  unfold F_X3_share at hN
  refine lv_iload_n hx hb dX3_share_0 rfl (lv_at hl 1 rfl) ?_
  refine lv_if_lt (tgt := 11) hx hb dX3_share_1 (by decide) (fun c1 => ?_) (fun c1 => ?_)
  · rw [if_pos c1] at hN
    refine lv_ldc (v := (-1000001)) hx hb hown (hts (.constant RX3 30 (-1000001)) (List.mem_of_getElem? (i := 1) rfl)) dX3_share_11 ?_
    exact k_iretR hx hb hr (Option.some.inj hN) hP hS hlk dX3_share_13
  · rw [if_neg c1] at hN
    refine lv_iload_n hx hb dX3_share_4 rfl (lv_at hl 1 rfl) ?_
    refine lv_sipush (v := 4095) hx hb dX3_share_5 (by decide) ?_
    refine lv_icmp_le (tgt := 14) hx hb dX3_share_8 (by decide) (fun c2 => ?_) (fun c2 => ?_)
    · rw [if_pos c2] at hN
      refine lv_iload_n hx hb dX3_share_14 rfl (lv_at hl 1 rfl) ?_
      obtain ⟨v3, hv3, hN⟩ := oB_spec hN
      refine k_lR hS (va_runS (As := [.int p0]) (rest := []) ⟨hx, hb, hml, hown, hts⟩ (c_X3_valuesOfClause l g L hL G p0 v3 hv3) (va_cwS 1 hts gX3_share_X3_valuesOfClause rfl rfl rfl (by decide +kernel) ⟨Nat.le_of_ble_eq_true rfl, Nat.le_of_ble_eq_true rfl⟩) (k_pre hC hS hP) rfl rfl hl.1 rfl (lv_room (Nat.le_of_ble_eq_true rfl)) dX3_share_15 ⟨Nat.zero_le _, Nat.zero_le _⟩) (fun H locs hP hS => ?_)
      obtain ⟨v5, hv5, hN⟩ := oB_spec hN
      refine k_iR hS (va_runS (As := [.long v3]) (rest := []) ⟨hx, hb, hml, hown, hts⟩ (c_J13_bitCount_95d88 l g L hL G v3 v5 hv5) (va_cwS 1 hts gX3_share_J13_bitCount_95d88 rfl rfl rfl (by decide +kernel) ⟨Nat.le_of_ble_eq_true rfl, Nat.le_of_ble_eq_true rfl⟩) (k_pre hC hS hP) rfl rfl hl.1 rfl (lv_room (Nat.le_of_ble_eq_true rfl)) dX3_share_18 ⟨Nat.zero_le _, Nat.zero_le _⟩) (fun H locs hP hS => ?_)
      obtain ⟨v7, hv7, hN⟩ := oB_spec hN
      refine k_iR hS (va_runS (As := [.int v5]) (rest := []) ⟨hx, hb, hml, hown, hts⟩ (c_X3_floatBitsOf64ths l g L hL G v5 v7 hv7) (va_cwS 1 hts gX3_share_X3_floatBitsOf64ths rfl rfl rfl (by decide +kernel) ⟨Nat.le_of_ble_eq_true rfl, Nat.le_of_ble_eq_true rfl⟩) (k_pre hC hS hP) rfl rfl hl.1 rfl (lv_room (Nat.le_of_ble_eq_true rfl)) dX3_share_21 ⟨Nat.zero_le _, Nat.zero_le _⟩) (fun H locs hP hS => ?_)
      exact k_iretR hx hb hr (Option.some.inj hN) hP hS hlk dX3_share_24
    · rw [if_neg c2] at hN
      refine lv_ldc (v := (-1000001)) hx hb hown (hts (.constant RX3 30 (-1000001)) (List.mem_of_getElem? (i := 1) rfl)) dX3_share_11 ?_
      exact k_iretR hx hb hr (Option.some.inj hN) hP hS hlk dX3_share_13
set_option maxHeartbeats 4000000 in
set_option maxRecDepth 100000 in
theorem c_X3_count (l : Launch) (g : Gm) (L : List Nat) {A : Nat → Prop} (hL : kL L A) (G : Nat → va_E) (ad : Nat → Nat) (x : XS) (hX : vX g L G ad x) (p0 : Int32) (v : Int32) (hF : F_X3_count x p0 = some v) : Met l yX3_count wsX3_count ({ frames := 2, cells := 0, slots := 0, locals := 44 } : Room) (va_Pc [.ref (ad 0), .int p0] (kB g L A G)) (va_Qi (fun x9 (G9 : Nat → va_E) => x9 = v ∧ G9 = G) (kE g L) A) 0 0 A := by
  refine Met.ofW (cc := cX3_count) (maxL := 2) (ret := (some .int)) (by decide) rfl ?_
  intro p e s m args below meth c s₁ B hml hv
  obtain ⟨rfl, hP, hC⟩ := hv
  have hx := B.exec
  have hb := B.bytes
  have hr := B.returns
  have hts := atoms_spec (ws := wsX3_count) B.pre
  have hown : s.vm.findClass RX3 = some m.cls := findClass_of_methodNamed B.named
  have hlk := B.notSynchronized
  have hS : va_S A s.heap s.heap [] := va_S.rf
  have hl := lv_entry ([.ref (ad 0), .int p0]) (n := 2) (Nat.le_of_ble_eq_true rfl)
  rw [lg_entry_eq]
  generalize (lg_sl ([.ref (ad 0), .int p0]) ++ List.replicate (2 - (lg_sl ([.ref (ad 0), .int p0])).length) Slot.unset).toArray = ls at hl ⊢
  have hl : lv_has ls 2 [(0, .ref (ad 0)), (1, .int p0)] := hl
  have hN := hF
  unfold F_X3_count at hN
  refine lv_iload_n hx hb dX3_count_0 rfl (lv_at hl 1 rfl) ?_
  rcases Decidable.em (p0 = 0) with c1 | c1
  · rw [if_pos c1] at hN
    refine lv_tableIn (off := 55) (tgt := 56) hx hb dX3_count_1 (by rw [c1]; decide) (by rw [c1]; decide) (by rw [c1]; rfl) (by decide) ?_
    refine lv_aload_n hx hb dX3_count_56 rfl (lv_at hl 0 rfl) ?_
    refine k_get (C := RX3) (T := TX3) (N := 3) (ci := 3) (v := .ref (sA ad 5)) hx hb hts (fun _ h => List.mem_cons_of_mem _ (List.mem_append_left _ (List.mem_append_left _ (List.mem_append_left _ (List.mem_append_right _ h))))) hown hC hP (hX.m 0 (by omega)) hX.o0 rfl 0 (by decide) (hts (.fieldLink RX3 10 "OrderedClauses" "store" "LOrderedClauses$Store;") (List.mem_of_getElem? (i := 1) rfl)) rfl dX3_count_57 ?_
    refine k_getN (C := RX1) (T := TX1) (N := 13) (ci := 1) (v := .int (x.1.2.2 0)) hx hb hts (fun _ h => List.mem_cons_of_mem _ (List.mem_append_left _ (List.mem_append_left _ (List.mem_append_right _ h)))) hown hC hP (vO.m hX.sm) (vO.o hX.sm) rfl 8 (by decide) (hC.2.1.1 (RX3, 57, RX1, "clauses", "I", RX3) (List.mem_of_getElem? (i := 6) rfl)) rfl dX3_count_60 ?_
    exact k_iretR hx hb hr (Option.some.inj hN) hP hS hlk dX3_count_63
  · rw [if_neg c1] at hN
    rcases Decidable.em (p0 = 1) with c2 | c2
    · rw [if_pos c2] at hN
      refine lv_tableIn (off := 63) (tgt := 64) hx hb dX3_count_1 (by rw [c2]; decide) (by rw [c2]; decide) (by rw [c2]; rfl) (by decide) ?_
      refine lv_aload_n hx hb dX3_count_64 rfl (lv_at hl 0 rfl) ?_
      refine k_get (C := RX3) (T := TX3) (N := 3) (ci := 3) (v := .ref (sA ad 5)) hx hb hts (fun _ h => List.mem_cons_of_mem _ (List.mem_append_left _ (List.mem_append_left _ (List.mem_append_left _ (List.mem_append_right _ h))))) hown hC hP (hX.m 0 (by omega)) hX.o0 rfl 0 (by decide) (hts (.fieldLink RX3 10 "OrderedClauses" "store" "LOrderedClauses$Store;") (List.mem_of_getElem? (i := 1) rfl)) rfl dX3_count_65 ?_
      refine lv_iconst (v := 0) hx hb dX3_count_68 (by decide) ?_
      obtain ⟨v3, hv3, hN⟩ := oB_spec hN
      refine k_iR hS (va_runVN (As := [.int (0 : Int32)]) (rest := []) ⟨hx, hb, hml, hown, hts⟩ (c_X1_howMany l g L hL G (sA ad 5) (sR ad 5) x.1 hX.sm (0 : Int32) v3 hv3) ⟨va_cnB 1 hts gX3_count_X1_howMany_n150 rfl rfl rfl (hC.2.1.2 (RX3, 150, yX1_howMany, RX3) (List.mem_of_getElem? (i := 5) rfl)) (hts (.initialized RX1) (List.mem_of_getElem? (i := 6) rfl)) (by decide +kernel) ⟨Nat.le_of_ble_eq_true rfl, Nat.le_of_ble_eq_true rfl⟩, (hts (.instanceMethod yX1_howMany) (List.mem_of_getElem? (i := 5) rfl)), (hts (.selects RX1 yX1_howMany yX1_howMany) (List.mem_of_getElem? (i := 7) rfl))⟩ (k_preV (C := RX1) (T := TX1) (N := 13) hC hS hP (vO.m hX.sm) (vO.o hX.sm) rfl) rfl rfl hl.1 rfl (lv_room (Nat.le_of_ble_eq_true rfl)) dX3_count_69 ⟨Nat.zero_le _, Nat.zero_le _⟩) (fun H locs hP hS => ?_)
      exact k_iretR hx hb hr (Option.some.inj hN) hP hS hlk dX3_count_72
    · rw [if_neg c2] at hN
      rcases Decidable.em (p0 = 2) with c5 | c5
      · rw [if_pos c5] at hN
        refine lv_tableIn (off := 72) (tgt := 73) hx hb dX3_count_1 (by rw [c5]; decide) (by rw [c5]; decide) (by rw [c5]; rfl) (by decide) ?_
        refine lv_aload_n hx hb dX3_count_73 rfl (lv_at hl 0 rfl) ?_
        refine k_get (C := RX3) (T := TX3) (N := 3) (ci := 3) (v := .ref (sA ad 5)) hx hb hts (fun _ h => List.mem_cons_of_mem _ (List.mem_append_left _ (List.mem_append_left _ (List.mem_append_left _ (List.mem_append_right _ h))))) hown hC hP (hX.m 0 (by omega)) hX.o0 rfl 0 (by decide) (hts (.fieldLink RX3 10 "OrderedClauses" "store" "LOrderedClauses$Store;") (List.mem_of_getElem? (i := 1) rfl)) rfl dX3_count_74 ?_
        refine lv_iconst (v := 1) hx hb dX3_count_77 (by decide) ?_
        obtain ⟨v6, hv6, hN⟩ := oB_spec hN
        refine k_iR hS (va_runVN (As := [.int (1 : Int32)]) (rest := []) ⟨hx, hb, hml, hown, hts⟩ (c_X1_howMany l g L hL G (sA ad 5) (sR ad 5) x.1 hX.sm (1 : Int32) v6 hv6) ⟨va_cnB 1 hts gX3_count_X1_howMany_n150 rfl rfl rfl (hC.2.1.2 (RX3, 150, yX1_howMany, RX3) (List.mem_of_getElem? (i := 5) rfl)) (hts (.initialized RX1) (List.mem_of_getElem? (i := 6) rfl)) (by decide +kernel) ⟨Nat.le_of_ble_eq_true rfl, Nat.le_of_ble_eq_true rfl⟩, (hts (.instanceMethod yX1_howMany) (List.mem_of_getElem? (i := 5) rfl)), (hts (.selects RX1 yX1_howMany yX1_howMany) (List.mem_of_getElem? (i := 7) rfl))⟩ (k_preV (C := RX1) (T := TX1) (N := 13) hC hS hP (vO.m hX.sm) (vO.o hX.sm) rfl) rfl rfl hl.1 rfl (lv_room (Nat.le_of_ble_eq_true rfl)) dX3_count_78 ⟨Nat.zero_le _, Nat.zero_le _⟩) (fun H locs hP hS => ?_)
        exact k_iretR hx hb hr (Option.some.inj hN) hP hS hlk dX3_count_81
      · rw [if_neg c5] at hN
        rcases Decidable.em (p0 = 3) with c8 | c8
        · rw [if_pos c8] at hN
          refine lv_tableIn (off := 81) (tgt := 82) hx hb dX3_count_1 (by rw [c8]; decide) (by rw [c8]; decide) (by rw [c8]; rfl) (by decide) ?_
          refine lv_aload_n hx hb dX3_count_82 rfl (lv_at hl 0 rfl) ?_
          refine k_get (C := RX3) (T := TX3) (N := 3) (ci := 3) (v := .ref (sA ad 5)) hx hb hts (fun _ h => List.mem_cons_of_mem _ (List.mem_append_left _ (List.mem_append_left _ (List.mem_append_left _ (List.mem_append_right _ h))))) hown hC hP (hX.m 0 (by omega)) hX.o0 rfl 0 (by decide) (hts (.fieldLink RX3 10 "OrderedClauses" "store" "LOrderedClauses$Store;") (List.mem_of_getElem? (i := 1) rfl)) rfl dX3_count_83 ?_
          refine lv_iconst (v := 2) hx hb dX3_count_86 (by decide) ?_
          obtain ⟨v9, hv9, hN⟩ := oB_spec hN
          refine k_iR hS (va_runVN (As := [.int (2 : Int32)]) (rest := []) ⟨hx, hb, hml, hown, hts⟩ (c_X1_howMany l g L hL G (sA ad 5) (sR ad 5) x.1 hX.sm (2 : Int32) v9 hv9) ⟨va_cnB 1 hts gX3_count_X1_howMany_n150 rfl rfl rfl (hC.2.1.2 (RX3, 150, yX1_howMany, RX3) (List.mem_of_getElem? (i := 5) rfl)) (hts (.initialized RX1) (List.mem_of_getElem? (i := 6) rfl)) (by decide +kernel) ⟨Nat.le_of_ble_eq_true rfl, Nat.le_of_ble_eq_true rfl⟩, (hts (.instanceMethod yX1_howMany) (List.mem_of_getElem? (i := 5) rfl)), (hts (.selects RX1 yX1_howMany yX1_howMany) (List.mem_of_getElem? (i := 7) rfl))⟩ (k_preV (C := RX1) (T := TX1) (N := 13) hC hS hP (vO.m hX.sm) (vO.o hX.sm) rfl) rfl rfl hl.1 rfl (lv_room (Nat.le_of_ble_eq_true rfl)) dX3_count_87 ⟨Nat.zero_le _, Nat.zero_le _⟩) (fun H locs hP hS => ?_)
          exact k_iretR hx hb hr (Option.some.inj hN) hP hS hlk dX3_count_90
        · rw [if_neg c8] at hN
          rcases Decidable.em (p0 = 4) with c11 | c11
          · rw [if_pos c11] at hN
            refine lv_tableIn (off := 90) (tgt := 91) hx hb dX3_count_1 (by rw [c11]; decide) (by rw [c11]; decide) (by rw [c11]; rfl) (by decide) ?_
            refine lv_aload_n hx hb dX3_count_91 rfl (lv_at hl 0 rfl) ?_
            refine k_get (C := RX3) (T := TX3) (N := 3) (ci := 3) (v := .ref (sA ad 5)) hx hb hts (fun _ h => List.mem_cons_of_mem _ (List.mem_append_left _ (List.mem_append_left _ (List.mem_append_left _ (List.mem_append_right _ h))))) hown hC hP (hX.m 0 (by omega)) hX.o0 rfl 0 (by decide) (hts (.fieldLink RX3 10 "OrderedClauses" "store" "LOrderedClauses$Store;") (List.mem_of_getElem? (i := 1) rfl)) rfl dX3_count_92 ?_
            refine k_getN (C := RX1) (T := TX1) (N := 13) (ci := 1) (v := .int (x.1.2.2 1)) hx hb hts (fun _ h => List.mem_cons_of_mem _ (List.mem_append_left _ (List.mem_append_left _ (List.mem_append_right _ h)))) hown hC hP (vO.m hX.sm) (vO.o hX.sm) rfl 9 (by decide) (hC.2.1.1 (RX3, 60, RX1, "steps", "I", RX3) (List.mem_of_getElem? (i := 7) rfl)) rfl dX3_count_95 ?_
            exact k_iretR hx hb hr (Option.some.inj hN) hP hS hlk dX3_count_98
          · rw [if_neg c11] at hN
            rcases Decidable.em (p0 = 5) with c12 | c12
            · rw [if_pos c12] at hN
              refine lv_tableIn (off := 98) (tgt := 99) hx hb dX3_count_1 (by rw [c12]; decide) (by rw [c12]; decide) (by rw [c12]; rfl) (by decide) ?_
              refine lv_aload_n hx hb dX3_count_99 rfl (lv_at hl 0 rfl) ?_
              refine k_get (C := RX3) (T := TX3) (N := 3) (ci := 3) (v := .ref (sA ad 5)) hx hb hts (fun _ h => List.mem_cons_of_mem _ (List.mem_append_left _ (List.mem_append_left _ (List.mem_append_left _ (List.mem_append_right _ h))))) hown hC hP (hX.m 0 (by omega)) hX.o0 rfl 0 (by decide) (hts (.fieldLink RX3 10 "OrderedClauses" "store" "LOrderedClauses$Store;") (List.mem_of_getElem? (i := 1) rfl)) rfl dX3_count_100 ?_
              refine k_getN (C := RX1) (T := TX1) (N := 13) (ci := 1) (v := .int (x.1.2.2 2)) hx hb hts (fun _ h => List.mem_cons_of_mem _ (List.mem_append_left _ (List.mem_append_left _ (List.mem_append_right _ h)))) hown hC hP (vO.m hX.sm) (vO.o hX.sm) rfl 10 (by decide) (hC.2.1.1 (RX3, 47, RX1, "setting", "I", RX3) (List.mem_of_getElem? (i := 8) rfl)) rfl dX3_count_103 ?_
              exact k_iretR hx hb hr (Option.some.inj hN) hP hS hlk dX3_count_106
            · rw [if_neg c12] at hN
              rcases Decidable.em (p0 = 6) with c13 | c13
              · rw [if_pos c13] at hN
                refine lv_tableIn (off := 106) (tgt := 107) hx hb dX3_count_1 (by rw [c13]; decide) (by rw [c13]; decide) (by rw [c13]; rfl) (by decide) ?_
                refine lv_aload_n hx hb dX3_count_107 rfl (lv_at hl 0 rfl) ?_
                refine k_get (C := RX3) (T := TX3) (N := 3) (ci := 3) (v := .ref (sA ad 5)) hx hb hts (fun _ h => List.mem_cons_of_mem _ (List.mem_append_left _ (List.mem_append_left _ (List.mem_append_left _ (List.mem_append_right _ h))))) hown hC hP (hX.m 0 (by omega)) hX.o0 rfl 0 (by decide) (hts (.fieldLink RX3 10 "OrderedClauses" "store" "LOrderedClauses$Store;") (List.mem_of_getElem? (i := 1) rfl)) rfl dX3_count_108 ?_
                refine k_getN (C := RX1) (T := TX1) (N := 13) (ci := 1) (v := .int (x.1.2.2 3)) hx hb hts (fun _ h => List.mem_cons_of_mem _ (List.mem_append_left _ (List.mem_append_left _ (List.mem_append_right _ h)))) hown hC hP (vO.m hX.sm) (vO.o hX.sm) rfl 11 (by decide) (hC.2.1.1 (RX3, 153, RX1, "heldAlways", "I", RX3) (List.mem_of_getElem? (i := 9) rfl)) rfl dX3_count_111 ?_
                exact k_iretR hx hb hr (Option.some.inj hN) hP hS hlk dX3_count_114
              · rw [if_neg c13] at hN
                rcases Decidable.em (p0 = 7) with c14 | c14
                · rw [if_pos c14] at hN
                  refine lv_tableIn (off := 114) (tgt := 115) hx hb dX3_count_1 (by rw [c14]; decide) (by rw [c14]; decide) (by rw [c14]; rfl) (by decide) ?_
                  refine lv_aload_n hx hb dX3_count_115 rfl (lv_at hl 0 rfl) ?_
                  refine k_get (C := RX3) (T := TX3) (N := 3) (ci := 3) (v := .ref (sA ad 5)) hx hb hts (fun _ h => List.mem_cons_of_mem _ (List.mem_append_left _ (List.mem_append_left _ (List.mem_append_left _ (List.mem_append_right _ h))))) hown hC hP (hX.m 0 (by omega)) hX.o0 rfl 0 (by decide) (hts (.fieldLink RX3 10 "OrderedClauses" "store" "LOrderedClauses$Store;") (List.mem_of_getElem? (i := 1) rfl)) rfl dX3_count_116 ?_
                  refine k_getN (C := RX1) (T := TX1) (N := 13) (ci := 1) (v := .int (x.1.2.2 4)) hx hb hts (fun _ h => List.mem_cons_of_mem _ (List.mem_append_left _ (List.mem_append_left _ (List.mem_append_right _ h)))) hown hC hP (vO.m hX.sm) (vO.o hX.sm) rfl 12 (by decide) (hC.2.1.1 (RX3, 156, RX1, "hadAnotherWithin", "I", RX3) (List.mem_of_getElem? (i := 10) rfl)) rfl dX3_count_119 ?_
                  exact k_iretR hx hb hr (Option.some.inj hN) hP hS hlk dX3_count_122
                · rw [if_neg c14] at hN
                  rcases Decidable.em (p0 = 8) with c15 | c15
                  · rw [if_pos c15] at hN
                    refine lv_tableIn (off := 122) (tgt := 123) hx hb dX3_count_1 (by rw [c15]; decide) (by rw [c15]; decide) (by rw [c15]; rfl) (by decide) ?_
                    refine lv_aload_n hx hb dX3_count_123 rfl (lv_at hl 0 rfl) ?_
                    refine k_get (C := RX3) (T := TX3) (N := 3) (ci := 3) (v := .ref (ad 1)) hx hb hts (fun _ h => List.mem_cons_of_mem _ (List.mem_append_left _ (List.mem_append_left _ (List.mem_append_left _ (List.mem_append_right _ h))))) hown hC hP (hX.m 0 (by omega)) hX.o0 rfl 1 (by decide) (hts (.fieldLink RX3 19 "OrderedClauses" "history" "LOrderedClauses$History;") (List.mem_of_getElem? (i := 2) rfl)) rfl dX3_count_124 ?_
                    refine k_getN (C := RX0) (T := TX0) (N := 2) (ci := 0) (v := .int x.2.2.2.1) hx hb hts (fun _ h => List.mem_cons_of_mem _ (List.mem_append_left _ (List.mem_append_right _ h))) hown hC hP (hX.m 1 (by omega)) hX.o1 rfl 1 (by decide) (hC.2.1.1 (RX3, 159, RX0, "kept", "I", RX3) (List.mem_of_getElem? (i := 11) rfl)) rfl dX3_count_127 ?_
                    exact k_iretR hx hb hr (Option.some.inj hN) hP hS hlk dX3_count_130
                  · rw [if_neg c15] at hN
                    rcases Decidable.em (p0 = 9) with c16 | c16
                    · rw [if_pos c16] at hN
                      refine lv_tableIn (off := 130) (tgt := 131) hx hb dX3_count_1 (by rw [c16]; decide) (by rw [c16]; decide) (by rw [c16]; rfl) (by decide) ?_
                      refine lv_aload_n hx hb dX3_count_131 rfl (lv_at hl 0 rfl) ?_
                      refine k_get (C := RX3) (T := TX3) (N := 3) (ci := 3) (v := .ref (ad 3)) hx hb hts (fun _ h => List.mem_cons_of_mem _ (List.mem_append_left _ (List.mem_append_left _ (List.mem_append_left _ (List.mem_append_right _ h))))) hown hC hP (hX.m 0 (by omega)) hX.o0 rfl 2 (by decide) (hts (.fieldLink RX3 26 "OrderedClauses" "text" "LOrderedClauses$Text;") (List.mem_of_getElem? (i := 3) rfl)) rfl dX3_count_132 ?_
                      refine k_getN (C := RX2) (T := TX2) (N := 2) (ci := 2) (v := .int (x.2.2.2.2.2.2 0)) hx hb hts (fun _ h => List.mem_cons_of_mem _ (List.mem_append_right _ h)) hown hC hP (vO.m hX.t) (vO.o hX.t) rfl 1 (by decide) (hC.2.1.1 (RX3, 162, RX2, "length", "I", RX3) (List.mem_of_getElem? (i := 13) rfl)) rfl dX3_count_135 ?_
                      exact k_iretR hx hb hr (Option.some.inj hN) hP hS hlk dX3_count_138
                    · rw [if_neg c16] at hN
                      refine lv_tableOut (tgt := 139) hx hb dX3_count_1 (ts_out (n := 10) (by decide) (fun j hj => by rcases (show j = 0 ∨ j = 1 ∨ j = 2 ∨ j = 3 ∨ j = 4 ∨ j = 5 ∨ j = 6 ∨ j = 7 ∨ j = 8 ∨ j = 9 by omega) with rfl | rfl | rfl | rfl | rfl | rfl | rfl | rfl | rfl | rfl <;> first | exact c1 | exact c2 | exact c5 | exact c8 | exact c11 | exact c12 | exact c13 | exact c14 | exact c15 | exact c16)) (by decide) ?_
                      refine lv_iload_n hx hb dX3_count_139 rfl (lv_at hl 1 rfl) ?_
                      refine lv_bipush (v := 10) hx hb dX3_count_140 (by decide) ?_
                      refine lv_icmp_lt (tgt := 165) hx hb dX3_count_142 (by decide) (fun c17 => ?_) (fun c17 => ?_)
                      · rw [if_pos c17] at hN
                        refine lv_ldc (v := (-1000001)) hx hb hown (hts (.constant RX3 30 (-1000001)) (List.mem_of_getElem? (i := 4) rfl)) dX3_count_165 ?_
                        exact k_iretR hx hb hr (Option.some.inj hN) hP hS hlk dX3_count_167
                      · rw [if_neg c17] at hN
                        refine lv_iload_n hx hb dX3_count_145 rfl (lv_at hl 1 rfl) ?_
                        refine lv_bipush (v := 16) hx hb dX3_count_146 (by decide) ?_
                        refine lv_icmp_ge (tgt := 165) hx hb dX3_count_148 (by decide) (fun c18 => ?_) (fun c18 => ?_)
                        · rw [if_pos c18] at hN
                          refine lv_ldc (v := (-1000001)) hx hb hown (hts (.constant RX3 30 (-1000001)) (List.mem_of_getElem? (i := 4) rfl)) dX3_count_165 ?_
                          exact k_iretR hx hb hr (Option.some.inj hN) hP hS hlk dX3_count_167
                        · rw [if_neg c18] at hN
                          refine lv_aload_n hx hb dX3_count_151 rfl (lv_at hl 0 rfl) ?_
                          refine k_get (C := RX3) (T := TX3) (N := 3) (ci := 3) (v := .ref (sA ad 5)) hx hb hts (fun _ h => List.mem_cons_of_mem _ (List.mem_append_left _ (List.mem_append_left _ (List.mem_append_left _ (List.mem_append_right _ h))))) hown hC hP (hX.m 0 (by omega)) hX.o0 rfl 0 (by decide) (hts (.fieldLink RX3 10 "OrderedClauses" "store" "LOrderedClauses$Store;") (List.mem_of_getElem? (i := 1) rfl)) rfl dX3_count_152 ?_
                          refine lv_iload_n hx hb dX3_count_155 rfl (lv_at hl 1 rfl) ?_
                          refine lv_bipush (v := 10) hx hb dX3_count_156 (by decide) ?_
                          refine lv_isub hx hb dX3_count_158 ?_
                          obtain ⟨v19, hv19, hN⟩ := oB_spec hN
                          refine k_iR hS (va_runVN (As := [.int (p0 - (10 : Int32))]) (rest := []) ⟨hx, hb, hml, hown, hts⟩ (c_X1_rankOf l g L hL G (sA ad 5) (sR ad 5) x.1 hX.sm (p0 - (10 : Int32)) v19 hv19) ⟨va_cnB 1 hts gX3_count_X1_rankOf_n165 rfl rfl rfl (hC.2.1.2 (RX3, 165, yX1_rankOf, RX3) (List.mem_of_getElem? (i := 7) rfl)) (hts (.initialized RX1) (List.mem_of_getElem? (i := 6) rfl)) (by decide +kernel) ⟨Nat.le_of_ble_eq_true rfl, Nat.le_of_ble_eq_true rfl⟩, (hts (.instanceMethod yX1_rankOf) (List.mem_of_getElem? (i := 14) rfl)), (hts (.selects RX1 yX1_rankOf yX1_rankOf) (List.mem_of_getElem? (i := 15) rfl))⟩ (k_preV (C := RX1) (T := TX1) (N := 13) hC hS hP (vO.m hX.sm) (vO.o hX.sm) rfl) rfl rfl hl.1 rfl (lv_room (Nat.le_of_ble_eq_true rfl)) dX3_count_159 ⟨Nat.zero_le _, Nat.zero_le _⟩) (fun H locs hP hS => ?_)
                          refine lv_goto (tgt := 167) hx hb dX3_count_162 (by decide) ?_
                          exact k_iretR hx hb hr (Option.some.inj hN) hP hS hlk dX3_count_167
set_option maxHeartbeats 4000000 in
set_option maxRecDepth 100000 in
theorem c_X3_undo (l : Launch) (g : Gm) (L : List Nat) {A : Nat → Prop} (hL : kL L A) (G : Nat → va_E) (ad : Nat → Nat) (x : XS) (hX : vX g L G ad x) (v : Int32) (w : XS) (hF : F_X3_undo x = some (v, w)) : Met l yX3_undo wsX3_undo ({ frames := 4, cells := 0, slots := 0, locals := 127 } : Room) (va_Pc [.ref (ad 0)] (kB g L A G)) (va_Qi (fun x9 (G9 : Nat → va_E) => x9 = v ∧ (vX g L G9 ad w)) (kE g L) A) 0 0 A := by
  refine Met.ofW (cc := cX3_undo) (maxL := 1) (ret := (some .int)) (by decide) rfl ?_
  intro p e s m args below meth c s₁ B hml hv
  obtain ⟨rfl, hP, hC⟩ := hv
  have hx := B.exec
  have hb := B.bytes
  have hr := B.returns
  have hts := atoms_spec (ws := wsX3_undo) B.pre
  have hown : s.vm.findClass RX3 = some m.cls := findClass_of_methodNamed B.named
  have hlk := B.notSynchronized
  have hS : va_S A s.heap s.heap [] := va_S.rf
  have hl := lv_entry ([.ref (ad 0)]) (n := 1) (Nat.le_of_ble_eq_true rfl)
  rw [lg_entry_eq]
  generalize (lg_sl ([.ref (ad 0)]) ++ List.replicate (1 - (lg_sl ([.ref (ad 0)])).length) Slot.unset).toArray = ls at hl ⊢
  have hl : lv_has ls 1 [(0, .ref (ad 0))] := hl
  have hN := hF
  unfold F_X3_undo at hN
  refine lv_aload_n hx hb dX3_undo_0 rfl (lv_at hl 0 rfl) ?_
  refine k_get (C := RX3) (T := TX3) (N := 3) (ci := 3) (v := .ref (ad 1)) hx hb hts (fun _ h => List.mem_cons_of_mem _ (List.mem_append_left _ (List.mem_append_left _ (List.mem_append_right _ h)))) hown hC hP (hX.m 0 (by omega)) hX.o0 rfl 1 (by decide) (hts (.fieldLink RX3 19 "OrderedClauses" "history" "LOrderedClauses$History;") (List.mem_of_getElem? (i := 1) rfl)) rfl dX3_undo_1 ?_
  refine lv_aload_n hx hb dX3_undo_4 rfl (lv_at hl 0 rfl) ?_
  refine k_get (C := RX3) (T := TX3) (N := 3) (ci := 3) (v := .ref (sA ad 5)) hx hb hts (fun _ h => List.mem_cons_of_mem _ (List.mem_append_left _ (List.mem_append_left _ (List.mem_append_right _ h)))) hown hC hP (hX.m 0 (by omega)) hX.o0 rfl 0 (by decide) (hts (.fieldLink RX3 10 "OrderedClauses" "store" "LOrderedClauses$Store;") (List.mem_of_getElem? (i := 2) rfl)) rfl dX3_undo_5 ?_
  obtain ⟨v1, w2, hv1, hN⟩ := oB2_spec hN
  refine k_iW hS (va_runVN (As := [.ref (sA ad 5)]) (rest := []) ⟨hx, hb, hml, hown, hts⟩ (c_X0_restoreLatest l g L hL G ad (x.1, x.2.1, x.2.2.1, x.2.2.2.1, x.2.2.2.2) hX v1 w2 hv1) ⟨va_cnB 1 hts gX3_undo_X0_restoreLatest_n168 rfl rfl rfl (hC.2.1.2 (RX3, 168, yX0_restoreLatest, RX3) (List.mem_of_getElem? (i := 8) rfl)) (hts (.initialized RX0) (List.mem_of_getElem? (i := 5) rfl)) (by decide +kernel) ⟨Nat.le_of_ble_eq_true rfl, Nat.le_of_ble_eq_true rfl⟩, (hts (.instanceMethod yX0_restoreLatest) (List.mem_of_getElem? (i := 4) rfl)), (hts (.selects RX0 yX0_restoreLatest yX0_restoreLatest) (List.mem_of_getElem? (i := 6) rfl))⟩ (k_preV (C := RX0) (T := TX0) (N := 2) hC hS hP (hX.m 1 (by omega)) hX.o1 rfl) rfl rfl hl.1 rfl (lv_room (Nat.le_of_ble_eq_true rfl)) dX3_undo_8 ⟨Nat.zero_le _, Nat.zero_le _⟩) (fun G3 H locs hq hP hS => ?_)
  have hX := hq
  refine lv_if_eq (tgt := 24) hx hb dX3_undo_11 (by decide) (fun c4 => ?_) (fun c4 => ?_)
  · rw [if_pos c4] at hN
    refine lv_ldc (v := (-1000002)) hx hb hown (hts (.constant RX3 56 (-1000002)) (List.mem_of_getElem? (i := 3) rfl)) dX3_undo_24 ?_
    obtain ⟨hE, hE2⟩ := spair hN
    exact k_iretW hx hb hr hE (hE2 ▸ hX) hP hS hlk dX3_undo_26
  · rw [if_neg c4] at hN
    refine lv_aload_n hx hb dX3_undo_14 rfl (lv_at hl 0 rfl) ?_
    refine k_get (C := RX3) (T := TX3) (N := 3) (ci := 3) (v := .ref (ad 1)) hx hb hts (fun _ h => List.mem_cons_of_mem _ (List.mem_append_left _ (List.mem_append_left _ (List.mem_append_right _ h)))) hown hC hP (hX.m 0 (by omega)) hX.o0 rfl 1 (by decide) (hts (.fieldLink RX3 19 "OrderedClauses" "history" "LOrderedClauses$History;") (List.mem_of_getElem? (i := 1) rfl)) rfl dX3_undo_15 ?_
    refine k_getN (C := RX0) (T := TX0) (N := 2) (ci := 0) (v := .int w2.2.2.2.1) hx hb hts (fun _ h => List.mem_cons_of_mem _ (List.mem_append_left _ (List.mem_append_right _ h))) hown hC hP (hX.m 1 (by omega)) hX.o1 rfl 1 (by decide) (hC.2.1.1 (RX3, 159, RX0, "kept", "I", RX3) (List.mem_of_getElem? (i := 11) rfl)) rfl dX3_undo_18 ?_
    refine lv_goto (tgt := 26) hx hb dX3_undo_21 (by decide) ?_
    obtain ⟨hE, hE2⟩ := spair hN
    exact k_iretW hx hb hr hE (hE2 ▸ hX) hP hS hlk dX3_undo_26
set_option maxHeartbeats 4000000 in
set_option maxRecDepth 100000 in
theorem c_X3_type (l : Launch) (g : Gm) (L : List Nat) {A : Nat → Prop} (hL : kL L A) (G : Nat → va_E) (ad : Nat → Nat) (x : XS) (hX : vX g L G ad x) (p0 : Int32) (v : Int32) (w : XS) (hF : F_X3_type x p0 = some (v, w)) : Met l yX3_type wsX3_type ({ frames := 2, cells := 0, slots := 0, locals := 43 } : Room) (va_Pc [.ref (ad 0), .int p0] (kB g L A G)) (va_Qi (fun x9 (G9 : Nat → va_E) => x9 = v ∧ (vX g L G9 ad w)) (kE g L) A) 0 0 A := by
  refine Met.ofW (cc := cX3_type) (maxL := 2) (ret := (some .int)) (by decide) rfl ?_
  intro p e s m args below meth c s₁ B hml hv
  obtain ⟨rfl, hP, hC⟩ := hv
  have hx := B.exec
  have hb := B.bytes
  have hr := B.returns
  have hts := atoms_spec (ws := wsX3_type) B.pre
  have hown : s.vm.findClass RX3 = some m.cls := findClass_of_methodNamed B.named
  have hlk := B.notSynchronized
  have hS : va_S A s.heap s.heap [] := va_S.rf
  have hl := lv_entry ([.ref (ad 0), .int p0]) (n := 2) (Nat.le_of_ble_eq_true rfl)
  rw [lg_entry_eq]
  generalize (lg_sl ([.ref (ad 0), .int p0]) ++ List.replicate (2 - (lg_sl ([.ref (ad 0), .int p0])).length) Slot.unset).toArray = ls at hl ⊢
  have hl : lv_has ls 2 [(0, .ref (ad 0)), (1, .int p0)] := hl
  have hN := hF
  unfold F_X3_type at hN
  refine lv_iload_n hx hb dX3_type_0 rfl (lv_at hl 1 rfl) ?_
  refine lv_bipush (v := 32) hx hb dX3_type_1 (by decide) ?_
  refine lv_icmp_lt (tgt := 12) hx hb dX3_type_3 (by decide) (fun c1 => ?_) (fun c1 => ?_)
  · rw [if_pos c1] at hN
    refine lv_ldc (v := (-1000001)) hx hb hown (hts (.constant RX3 30 (-1000001)) (List.mem_of_getElem? (i := 1) rfl)) dX3_type_12 ?_
    obtain ⟨hE, hE2⟩ := spair hN
    exact k_iretW hx hb hr hE (hE2 ▸ hX) hP hS hlk dX3_type_14
  · rw [if_neg c1] at hN
    refine lv_iload_n hx hb dX3_type_6 rfl (lv_at hl 1 rfl) ?_
    refine lv_bipush (v := 126) hx hb dX3_type_7 (by decide) ?_
    refine lv_icmp_le (tgt := 15) hx hb dX3_type_9 (by decide) (fun c2 => ?_) (fun c2 => ?_)
    · rw [if_pos c2] at hN
      refine lv_aload_n hx hb dX3_type_15 rfl (lv_at hl 0 rfl) ?_
      refine k_get (C := RX3) (T := TX3) (N := 3) (ci := 3) (v := .ref (ad 3)) hx hb hts (fun _ h => List.mem_cons_of_mem _ (List.mem_append_left _ (List.mem_append_right _ h))) hown hC hP (hX.m 0 (by omega)) hX.o0 rfl 2 (by decide) (hts (.fieldLink RX3 26 "OrderedClauses" "text" "LOrderedClauses$Text;") (List.mem_of_getElem? (i := 2) rfl)) rfl dX3_type_16 ?_
      refine lv_iload_n hx hb dX3_type_19 rfl (lv_at hl 1 rfl) ?_
      obtain ⟨v3, w4, hv3, hN⟩ := oB2_spec hN
      refine k_iW hS (va_runVN (As := [.int p0]) (rest := []) ⟨hx, hb, hml, hown, hts⟩ (c_X2_add l g L hL G (ad 3) (tR ad) x.2.2.2.2 hX.t p0 v3 w4 hv3) ⟨va_cnB 1 hts gX3_type_X2_add_n172 rfl rfl rfl (hC.2.1.2 (RX3, 172, yX2_add, RX3) (List.mem_of_getElem? (i := 33) rfl)) (hts (.initialized RX2) (List.mem_of_getElem? (i := 5) rfl)) (by decide +kernel) ⟨Nat.le_of_ble_eq_true rfl, Nat.le_of_ble_eq_true rfl⟩, (hts (.instanceMethod yX2_add) (List.mem_of_getElem? (i := 4) rfl)), (hts (.selects RX2 yX2_add yX2_add) (List.mem_of_getElem? (i := 6) rfl))⟩ (k_preV (C := RX2) (T := TX2) (N := 2) hC hS hP (vO.m hX.t) (vO.o hX.t) rfl) rfl rfl hl.1 rfl (lv_room (Nat.le_of_ble_eq_true rfl)) dX3_type_20 ⟨Nat.zero_le _, Nat.zero_le _⟩) (fun G5 H locs hq hP hS => ?_)
      obtain ⟨hV1, hf1⟩ := hq
      have hX : vX g L G5 ad (x.1, x.2.1, x.2.2.1, x.2.2.2.1, w4) := vX.upT hX hV1 hf1
      refine lv_if_eq (tgt := 36) hx hb dX3_type_23 (by decide) (fun c6 => ?_) (fun c6 => ?_)
      · rw [if_pos c6] at hN
        refine lv_ldc (v := (-1000003)) hx hb hown (hts (.constant RX3 55 (-1000003)) (List.mem_of_getElem? (i := 3) rfl)) dX3_type_36 ?_
        obtain ⟨hE, hE2⟩ := spair hN
        exact k_iretW hx hb hr hE (hE2 ▸ hX) hP hS hlk dX3_type_38
      · rw [if_neg c6] at hN
        refine lv_aload_n hx hb dX3_type_26 rfl (lv_at hl 0 rfl) ?_
        refine k_get (C := RX3) (T := TX3) (N := 3) (ci := 3) (v := .ref (ad 3)) hx hb hts (fun _ h => List.mem_cons_of_mem _ (List.mem_append_left _ (List.mem_append_right _ h))) hown hC hP (hX.m 0 (by omega)) hX.o0 rfl 2 (by decide) (hts (.fieldLink RX3 26 "OrderedClauses" "text" "LOrderedClauses$Text;") (List.mem_of_getElem? (i := 2) rfl)) rfl dX3_type_27 ?_
        refine k_getN (C := RX2) (T := TX2) (N := 2) (ci := 2) (v := .int (w4.2.2 0)) hx hb hts (fun _ h => List.mem_cons_of_mem _ (List.mem_append_right _ h)) hown hC hP (vO.m hX.t) (vO.o hX.t) rfl 1 (by decide) (hC.2.1.1 (RX3, 162, RX2, "length", "I", RX3) (List.mem_of_getElem? (i := 13) rfl)) rfl dX3_type_30 ?_
        refine lv_goto (tgt := 38) hx hb dX3_type_33 (by decide) ?_
        obtain ⟨hE, hE2⟩ := spair hN
        exact k_iretW hx hb hr hE (hE2 ▸ hX) hP hS hlk dX3_type_38
    · rw [if_neg c2] at hN
      refine lv_ldc (v := (-1000001)) hx hb hown (hts (.constant RX3 30 (-1000001)) (List.mem_of_getElem? (i := 1) rfl)) dX3_type_12 ?_
      obtain ⟨hE, hE2⟩ := spair hN
      exact k_iretW hx hb hr hE (hE2 ▸ hX) hP hS hlk dX3_type_14
set_option maxHeartbeats 4000000 in
set_option maxRecDepth 100000 in
theorem c_X3_clearText (l : Launch) (g : Gm) (L : List Nat) {A : Nat → Prop} (hL : kL L A) (G : Nat → va_E) (ad : Nat → Nat) (x : XS) (hX : vX g L G ad x) (v : Int32) (w : XS) (hF : F_X3_clearText x = some (v, w)) : Met l yX3_clearText wsX3_clearText ({ frames := 0, cells := 0, slots := 0, locals := 0 } : Room) (va_Pc [.ref (ad 0)] (kB g L A G)) (va_Qi (fun x9 (G9 : Nat → va_E) => x9 = v ∧ (vX g L G9 ad w)) (kE g L) A) 0 0 A := by
  refine Met.ofW (cc := cX3_clearText) (maxL := 2) (ret := (some .int)) (by decide) rfl ?_
  intro p e s m args below meth c s₁ B hml hv
  obtain ⟨rfl, hP, hC⟩ := hv
  have hx := B.exec
  have hb := B.bytes
  have hr := B.returns
  have hts := atoms_spec (ws := wsX3_clearText) B.pre
  have hown : s.vm.findClass RX3 = some m.cls := findClass_of_methodNamed B.named
  have hlk := B.notSynchronized
  have hS : va_S A s.heap s.heap [] := va_S.rf
  have hl := lv_entry ([.ref (ad 0)]) (n := 2) (Nat.le_of_ble_eq_true rfl)
  rw [lg_entry_eq]
  generalize (lg_sl ([.ref (ad 0)]) ++ List.replicate (2 - (lg_sl ([.ref (ad 0)])).length) Slot.unset).toArray = ls at hl ⊢
  have hl : lv_has ls 2 [(0, .ref (ad 0))] := hl
  have hN := hF
  unfold F_X3_clearText at hN
  refine lv_aload_n hx hb dX3_clearText_0 rfl (lv_at hl 0 rfl) ?_
  refine k_get (C := RX3) (T := TX3) (N := 3) (ci := 3) (v := .ref (ad 3)) hx hb hts (fun _ h => List.mem_cons_of_mem _ (List.mem_append_left _ (List.mem_append_right _ h))) hown hC hP (hX.m 0 (by omega)) hX.o0 rfl 2 (by decide) (hts (.fieldLink RX3 26 "OrderedClauses" "text" "LOrderedClauses$Text;") (List.mem_of_getElem? (i := 1) rfl)) rfl dX3_clearText_1 ?_
  refine k_getN (C := RX2) (T := TX2) (N := 2) (ci := 2) (v := .int (x.2.2.2.2.2.2 0)) hx hb hts (fun _ h => List.mem_cons_of_mem _ (List.mem_append_right _ h)) hown hC hP (vO.m hX.t) (vO.o hX.t) rfl 1 (by decide) (hC.2.1.1 (RX3, 162, RX2, "length", "I", RX3) (List.mem_of_getElem? (i := 13) rfl)) rfl dX3_clearText_4 ?_
  refine lv_istore_n (lv' := [(1, .int (x.2.2.2.2.2.2 0)), (0, .ref (ad 0))]) hx hb dX3_clearText_7 rfl hl (by decide) rfl (fun ls hl => ?_)
  refine lv_aload_n hx hb dX3_clearText_8 rfl (lv_at hl 1 rfl) ?_
  refine k_get (C := RX3) (T := TX3) (N := 3) (ci := 3) (v := .ref (ad 3)) hx hb hts (fun _ h => List.mem_cons_of_mem _ (List.mem_append_left _ (List.mem_append_right _ h))) hown hC hP (hX.m 0 (by omega)) hX.o0 rfl 2 (by decide) (hts (.fieldLink RX3 26 "OrderedClauses" "text" "LOrderedClauses$Text;") (List.mem_of_getElem? (i := 1) rfl)) rfl dX3_clearText_9 ?_
  refine lv_iconst (v := 0) hx hb dX3_clearText_12 (by decide) ?_
  refine k_putNE (C := RX2) (T := TX2) (N := 2) (ci := 2) hx hb hts (fun _ h => List.mem_cons_of_mem _ (List.mem_append_right _ h)) tyX2 tyX2_ok nmX2 hown hL hC hP hS (vO.m hX.t) (vO.o hX.t) rfl 1 (by decide) (hC.2.1.1 (RX3, 162, RX2, "length", "I", RX3) (List.mem_of_getElem? (i := 13) rfl)) (by decide +kernel) (by decide +kernel) (Nat.le_of_ble_eq_true rfl) dX3_clearText_13 (fun G1 H locs hq hP hS => ?_)
  have hV1 : vT g L G1 (ad 3) (tR ad) (x.2.2.2.2.1, x.2.2.2.2.2.1, va_up x.2.2.2.2.2.2 0 (0 : Int32)) := by rw [hq]; exact vO.setK (f := x.2.2.2.2.1) (gg := x.2.2.2.2.2.1) (k := x.2.2.2.2.2.2) hX.t rfl
  have hf1 : frS (ad 3) (tR ad) 1 G G1 := by rw [hq]; exact vO.frK frS.rf _
  have hX : vX g L G1 ad (x.1, x.2.1, x.2.2.1, x.2.2.2.1, (x.2.2.2.2.1, x.2.2.2.2.2.1, va_up x.2.2.2.2.2.2 0 (0 : Int32))) := vX.upT hX hV1 hf1
  refine lv_iload_n hx hb dX3_clearText_16 rfl (lv_at hl 0 rfl) ?_
  obtain ⟨hE, hE2⟩ := spair hN
  exact k_iretW hx hb hr hE (hE2 ▸ hX) hP hS hlk dX3_clearText_17
set_option maxHeartbeats 4000000 in
set_option maxRecDepth 100000 in
theorem c_X3_fault (l : Launch) (g : Gm) (L : List Nat) {A : Nat → Prop} (hL : kL L A) (G : Nat → va_E) (ad : Nat → Nat) (x : XS) (hX : vX g L G ad x) (p0 : Int32) (v : Int32) (hF : F_X3_fault x p0 = some v) : Met l yX3_fault wsX3_fault ({ frames := 2, cells := 0, slots := 0, locals := 45 } : Room) (va_Pc [.ref (ad 0), .int p0] (kB g L A G)) (va_Qi (fun x9 (G9 : Nat → va_E) => x9 = v ∧ G9 = G) (kE g L) A) 0 0 A := by
  refine Met.ofW (cc := cX3_fault) (maxL := 4) (ret := (some .int)) (by decide) rfl ?_
  intro p e s m args below meth c s₁ B hml hv
  obtain ⟨rfl, hP, hC⟩ := hv
  have hx := B.exec
  have hb := B.bytes
  have hr := B.returns
  have hts := atoms_spec (ws := wsX3_fault) B.pre
  have hown : s.vm.findClass RX3 = some m.cls := findClass_of_methodNamed B.named
  have hlk := B.notSynchronized
  have hS : va_S A s.heap s.heap [] := va_S.rf
  have hl := lv_entry ([.ref (ad 0), .int p0]) (n := 4) (Nat.le_of_ble_eq_true rfl)
  rw [lg_entry_eq]
  generalize (lg_sl ([.ref (ad 0), .int p0]) ++ List.replicate (4 - (lg_sl ([.ref (ad 0), .int p0])).length) Slot.unset).toArray = ls at hl ⊢
  have hl : lv_has ls 4 [(0, .ref (ad 0)), (1, .int p0)] := hl
  have hN := hF
  unfold F_X3_fault at hN
  refine lv_iload_n hx hb dX3_fault_0 rfl (lv_at hl 1 rfl) ?_
  refine lv_if_lt (tgt := 9) hx hb dX3_fault_1 (by decide) (fun c1 => ?_) (fun c1 => ?_)
  · rw [if_pos c1] at hN
    refine lv_ldc (v := (-1000001)) hx hb hown (hts (.constant RX3 30 (-1000001)) (List.mem_of_getElem? (i := 1) rfl)) dX3_fault_9 ?_
    exact k_iretR hx hb hr (Option.some.inj hN) hP hS hlk dX3_fault_11
  · rw [if_neg c1] at hN
    refine lv_iload_n hx hb dX3_fault_4 rfl (lv_at hl 1 rfl) ?_
    refine lv_iconst (v := 1) hx hb dX3_fault_5 (by decide) ?_
    refine lv_icmp_le (tgt := 12) hx hb dX3_fault_6 (by decide) (fun c2 => ?_) (fun c2 => ?_)
    · rw [if_pos c2] at hN
      refine lv_aload_n hx hb dX3_fault_12 rfl (lv_at hl 0 rfl) ?_
      refine k_get (C := RX3) (T := TX3) (N := 3) (ci := 3) (v := .ref (ad 3)) hx hb hts (fun _ h => List.mem_cons_of_mem _ (List.mem_append_left _ (List.mem_append_right _ h))) hown hC hP (hX.m 0 (by omega)) hX.o0 rfl 2 (by decide) (hts (.fieldLink RX3 26 "OrderedClauses" "text" "LOrderedClauses$Text;") (List.mem_of_getElem? (i := 2) rfl)) rfl dX3_fault_13 ?_
      obtain ⟨v3, hv3, hN⟩ := oB_spec hN
      refine k_iR hS (va_runVN (As := []) (rest := []) ⟨hx, hb, hml, hown, hts⟩ (c_X2_whereItBreaksOff l g L hL G (ad 3) (tR ad) x.2.2.2.2 hX.t v3 hv3) ⟨va_cnB 0 hts gX3_fault_X2_whereItBreaksOff_n175 rfl rfl rfl (hC.2.1.2 (RX3, 175, yX2_whereItBreaksOff, RX3) (List.mem_of_getElem? (i := 35) rfl)) (hts (.initialized RX2) (List.mem_of_getElem? (i := 5) rfl)) (by decide +kernel) ⟨Nat.le_of_ble_eq_true rfl, Nat.le_of_ble_eq_true rfl⟩, (hts (.instanceMethod yX2_whereItBreaksOff) (List.mem_of_getElem? (i := 4) rfl)), (hts (.selects RX2 yX2_whereItBreaksOff yX2_whereItBreaksOff) (List.mem_of_getElem? (i := 6) rfl))⟩ (k_preV (C := RX2) (T := TX2) (N := 2) hC hS hP (vO.m hX.t) (vO.o hX.t) rfl) rfl rfl hl.1 rfl (lv_room (Nat.le_of_ble_eq_true rfl)) dX3_fault_16 ⟨Nat.zero_le _, Nat.zero_le _⟩) (fun H locs hP hS => ?_)
      refine lv_istore_n (lv' := [(2, .int v3), (0, .ref (ad 0)), (1, .int p0)]) hx hb dX3_fault_19 rfl hl (by decide) rfl (fun ls hl => ?_)
      refine lv_iload_n hx hb dX3_fault_20 rfl (lv_at hl 0 rfl) ?_
      refine lv_iconst (v := (-1)) hx hb dX3_fault_21 (by decide) ?_
      refine lv_icmp_ne (tgt := 28) hx hb dX3_fault_22 (by decide) (fun c5 => ?_) (fun c5 => ?_)
      · rw [if_neg c5] at hN
        refine lv_aload_n hx hb dX3_fault_28 rfl (lv_at hl 1 rfl) ?_
        refine k_get (C := RX3) (T := TX3) (N := 3) (ci := 3) (v := .ref (ad 3)) hx hb hts (fun _ h => List.mem_cons_of_mem _ (List.mem_append_left _ (List.mem_append_right _ h))) hown hC hP (hX.m 0 (by omega)) hX.o0 rfl 2 (by decide) (hts (.fieldLink RX3 26 "OrderedClauses" "text" "LOrderedClauses$Text;") (List.mem_of_getElem? (i := 2) rfl)) rfl dX3_fault_29 ?_
        refine lv_iload_n hx hb dX3_fault_32 rfl (lv_at hl 0 rfl) ?_
        obtain ⟨v6, hv6, hN⟩ := oB_spec hN
        refine k_iR hS (va_runVN (As := [.int v3]) (rest := []) ⟨hx, hb, hml, hown, hts⟩ (c_X2_startOfClause l g L hL G (ad 3) (tR ad) x.2.2.2.2 hX.t v3 v6 hv6) ⟨va_cnB 1 hts gX3_fault_X2_startOfClause_n178 rfl rfl rfl (hC.2.1.2 (RX3, 178, yX2_startOfClause, RX3) (List.mem_of_getElem? (i := 37) rfl)) (hts (.initialized RX2) (List.mem_of_getElem? (i := 5) rfl)) (by decide +kernel) ⟨Nat.le_of_ble_eq_true rfl, Nat.le_of_ble_eq_true rfl⟩, (hts (.instanceMethod yX2_startOfClause) (List.mem_of_getElem? (i := 13) rfl)), (hts (.selects RX2 yX2_startOfClause yX2_startOfClause) (List.mem_of_getElem? (i := 14) rfl))⟩ (k_preV (C := RX2) (T := TX2) (N := 2) hC hS hP (vO.m hX.t) (vO.o hX.t) rfl) rfl rfl hl.1 rfl (lv_room (Nat.le_of_ble_eq_true rfl)) dX3_fault_33 ⟨Nat.zero_le _, Nat.zero_le _⟩) (fun H locs hP hS => ?_)
        refine lv_istore_n (lv' := [(3, .int v6), (2, .int v3), (0, .ref (ad 0)), (1, .int p0)]) hx hb dX3_fault_36 rfl hl (by decide) rfl (fun ls hl => ?_)
        refine lv_iload_n hx hb dX3_fault_37 rfl (lv_at hl 3 rfl) ?_
        refine lv_if_ne (tgt := 45) hx hb dX3_fault_38 (by decide) (fun c8 => ?_) (fun c8 => ?_)
        · rw [if_neg c8] at hN
          refine lv_iload_n hx hb dX3_fault_45 rfl (lv_at hl 1 rfl) ?_
          refine lv_iload_n hx hb dX3_fault_46 rfl (lv_at hl 0 rfl) ?_
          refine lv_isub hx hb dX3_fault_47 ?_
          exact k_iretR hx hb hr (Option.some.inj hN) hP hS hlk dX3_fault_48
        · rw [if_pos c8] at hN
          refine lv_iload_n hx hb dX3_fault_41 rfl (lv_at hl 0 rfl) ?_
          refine lv_goto (tgt := 48) hx hb dX3_fault_42 (by decide) ?_
          exact k_iretR hx hb hr (Option.some.inj hN) hP hS hlk dX3_fault_48
      · rw [if_pos c5] at hN
        refine lv_ldc (v := (-1000004)) hx hb hown (hts (.constant RX3 133 (-1000004)) (List.mem_of_getElem? (i := 3) rfl)) dX3_fault_25 ?_
        exact k_iretR hx hb hr (Option.some.inj hN) hP hS hlk dX3_fault_27
    · rw [if_neg c2] at hN
      refine lv_ldc (v := (-1000001)) hx hb hown (hts (.constant RX3 30 (-1000001)) (List.mem_of_getElem? (i := 1) rfl)) dX3_fault_9 ?_
      exact k_iretR hx hb hr (Option.some.inj hN) hP hS hlk dX3_fault_11
set_option maxHeartbeats 4000000 in
set_option maxRecDepth 100000 in
theorem c_X3_bringText (l : Launch) (g : Gm) (L : List Nat) {A : Nat → Prop} (hL : kL L A) (G : Nat → va_E) (ad : Nat → Nat) (x : XS) (hX : vX g L G ad x) (v : Int32) (w : XS) (hF : F_X3_bringText x = some (v, w)) : Met l yX3_bringText wsX3_bringText ({ frames := 4, cells := 0, slots := 0, locals := 97 } : Room) (va_Pc [.ref (ad 0)] (kB g L A G)) (va_Qi (fun x9 (G9 : Nat → va_E) => x9 = v ∧ (vX g L G9 ad w)) (kE g L) A) 0 0 A := by
  refine Met.ofW (cc := cX3_bringText) (maxL := 7) (ret := (some .int)) (by decide) rfl ?_
  intro p e s m args below meth c s₁ B hml hv
  obtain ⟨rfl, hP, hC⟩ := hv
  have hx := B.exec
  have hb := B.bytes
  have hr := B.returns
  have hts := atoms_spec (ws := wsX3_bringText) B.pre
  have hown : s.vm.findClass RX3 = some m.cls := findClass_of_methodNamed B.named
  have hlk := B.notSynchronized
  have hS : va_S A s.heap s.heap [] := va_S.rf
  have lp9 : ∀ (n : Nat) (x : XS) (x1 : Int32) (x2 : Int32) (x3 : Int32) (x4 : Int32) (G1 : Nat → va_E) (H : Heap) (locs : List Loc) (ls : Array Slot), vX g L G1 ad x → va_P g.1 vwCl (va_pl L G1) H → va_S A s.heap H locs → lv_has ls 7 [(0, .ref (ad 0)), (1, .int x1), (2, .int x2), (3, .int x3), (4, .int x4)] → FL_X3_bringText_9  n x x1 x2 x3 x4 = some (v, w) → W p l e (headSpec wsX3_bringText ({ frames := 4, cells := 0, slots := 0, locals := 97 } : Room)).room s m ([.ref (ad 0)] : List Value).toArray below meth c H locs 0 0 (MQ below (va_Qi (fun x9 (G9 : Nat → va_E) => x9 = v ∧ (vX g L G9 ad w)) (kE g L) A) ([.ref (ad 0)] : List Value).toArray s 0 0 A) (F0 m 9 ls []) := by
    intro n
    induction n with
    | zero =>
      intro x x1 x2 x3 x4 G1 H locs ls hX hP hS hl hN
      exact absurd hN (by simp [FL_X3_bringText_9])
    | succ n ih =>
      intro x x1 x2 x3 x4 G1 H locs ls hX hP hS hl hN
      rw [FL_X3_bringText_9] at hN
      refine lv_iload hx hb dX3_bringText_9 (lv_at hl 4 rfl) ?_
      refine lv_aload_n hx hb dX3_bringText_11 rfl (lv_at hl 0 rfl) ?_
      refine k_get (C := RX3) (T := TX3) (N := 3) (ci := 3) (v := .ref (ad 3)) hx hb hts (fun _ h => List.mem_cons_of_mem _ (List.mem_append_left _ (List.mem_append_left _ (List.mem_append_right _ h)))) hown hC hP (hX.m 0 (by omega)) hX.o0 rfl 2 (by decide) (hts (.fieldLink RX3 26 "OrderedClauses" "text" "LOrderedClauses$Text;") (List.mem_of_getElem? (i := 1) rfl)) rfl dX3_bringText_12 ?_
      refine k_getN (C := RX2) (T := TX2) (N := 2) (ci := 2) (v := .int (x.2.2.2.2.2.2 0)) hx hb hts (fun _ h => List.mem_cons_of_mem _ (List.mem_append_left _ (List.mem_append_right _ h))) hown hC hP (vO.m hX.t) (vO.o hX.t) rfl 1 (by decide) (hC.2.1.1 (RX3, 162, RX2, "length", "I", RX3) (List.mem_of_getElem? (i := 13) rfl)) rfl dX3_bringText_15 ?_
      refine lv_icmp_ge (tgt := 117) hx hb dX3_bringText_18 (by decide) (fun c1 => ?_) (fun c1 => ?_)
      · rw [if_pos c1] at hN
        refine lv_iload_n hx hb dX3_bringText_117 rfl (lv_at hl 1 rfl) ?_
        obtain ⟨hE, hE2⟩ := spair hN
        exact k_iretW hx hb hr hE (hE2 ▸ hX) hP hS hlk dX3_bringText_118
      · rw [if_neg c1] at hN
        refine lv_aload_n hx hb dX3_bringText_21 rfl (lv_at hl 0 rfl) ?_
        refine k_get (C := RX3) (T := TX3) (N := 3) (ci := 3) (v := .ref (ad 3)) hx hb hts (fun _ h => List.mem_cons_of_mem _ (List.mem_append_left _ (List.mem_append_left _ (List.mem_append_right _ h)))) hown hC hP (hX.m 0 (by omega)) hX.o0 rfl 2 (by decide) (hts (.fieldLink RX3 26 "OrderedClauses" "text" "LOrderedClauses$Text;") (List.mem_of_getElem? (i := 1) rfl)) rfl dX3_bringText_22 ?_
        refine k_getN (C := RX2) (T := TX2) (N := 2) (ci := 2) (v := .ref (tR ad 0)) hx hb hts (fun _ h => List.mem_cons_of_mem _ (List.mem_append_left _ (List.mem_append_right _ h))) hown hC hP (vO.m hX.t) (vO.o hX.t) rfl 0 (by decide) (hC.2.1.1 (RX3, 190, RX2, "characters", "[I", RX3) (List.mem_of_getElem? (i := 12) rfl)) rfl dX3_bringText_25 ?_
        refine lv_iload hx hb dX3_bringText_28 (lv_at hl 4 rfl) ?_
        obtain ⟨v2, hv2, hN⟩ := oB_spec hN
        refine k_iR hS (va_runS (As := [.ref (tR ad 0), .int x4]) (rest := []) ⟨hx, hb, hml, hown, hts⟩ (c_X3_at l g L hL G1 (tR ad 0) (x.2.2.2.2.1 0) (lnT 0) (vO.rm hX.t 0 (by decide)) (vO.ri hX.t 0 (by decide)) x4 v2 hv2) (va_cwS 2 hts gX3_bringText_X3_at rfl rfl rfl (by decide +kernel) ⟨Nat.le_of_ble_eq_true rfl, Nat.le_of_ble_eq_true rfl⟩) (k_pre hC hS hP) rfl rfl hl.1 rfl (lv_room (Nat.le_of_ble_eq_true rfl)) dX3_bringText_30 ⟨Nat.zero_le _, Nat.zero_le _⟩) (fun H locs hP hS => ?_)
        refine lv_istore (lv' := [(5, .int v2), (0, .ref (ad 0)), (1, .int x1), (2, .int x2), (3, .int x3), (4, .int x4)]) hx hb dX3_bringText_33 hl (by decide) rfl (fun ls hl => ?_)
        refine lv_iload hx hb dX3_bringText_35 (lv_at hl 0 rfl) ?_
        refine lv_bipush (v := 59) hx hb dX3_bringText_37 (by decide) ?_
        refine lv_icmp_ne (tgt := 83) hx hb dX3_bringText_39 (by decide) (fun c4 => ?_) (fun c4 => ?_)
        · rw [if_neg c4] at hN
          refine lv_iload hx hb dX3_bringText_83 (lv_at hl 0 rfl) ?_
          refine lv_bipush (v := 45) hx hb dX3_bringText_85 (by decide) ?_
          refine lv_icmp_ne (tgt := 95) hx hb dX3_bringText_87 (by decide) (fun c5 => ?_) (fun c5 => ?_)
          · rw [if_neg c5] at hN
            refine lv_iload_n hx hb dX3_bringText_95 rfl (lv_at hl 3 rfl) ?_
            refine lv_iconst (v := 1) hx hb dX3_bringText_96 (by decide) ?_
            refine lv_iconst (v := 2) hx hb dX3_bringText_97 (by decide) ?_
            refine lv_iload hx hb dX3_bringText_98 (lv_at hl 0 rfl) ?_
            refine lv_bipush (v := 97) hx hb dX3_bringText_100 (by decide) ?_
            refine lv_isub hx hb dX3_bringText_102 ?_
            refine lv_imul hx hb dX3_bringText_103 ?_
            refine lv_iload_n hx hb dX3_bringText_104 rfl (lv_at hl 4 rfl) ?_
            refine lv_iadd hx hb dX3_bringText_105 ?_
            refine lv_ishl hx hb dX3_bringText_106 ?_
            refine lv_ior hx hb dX3_bringText_107 ?_
            refine lv_istore_n (lv' := [(2, .int (x2 ||| ((1 : Int32) <<< ((((2 : Int32) * (v2 - (97 : Int32))) + x3) &&& 31)))), (5, .int v2), (0, .ref (ad 0)), (1, .int x1), (3, .int x3), (4, .int x4)]) hx hb dX3_bringText_108 rfl hl (by decide) rfl (fun ls hl => ?_)
            refine lv_iconst (v := 0) hx hb dX3_bringText_109 (by decide) ?_
            refine lv_istore_n (lv' := [(3, .int (0 : Int32)), (2, .int (x2 ||| ((1 : Int32) <<< ((((2 : Int32) * (v2 - (97 : Int32))) + x3) &&& 31)))), (5, .int v2), (0, .ref (ad 0)), (1, .int x1), (4, .int x4)]) hx hb dX3_bringText_110 rfl hl (by decide) rfl (fun ls hl => ?_)
            refine lv_iinc (v := (x4 + 1)) (lv' := [(4, .int (x4 + 1)), (3, .int (0 : Int32)), (2, .int (x2 ||| ((1 : Int32) <<< ((((2 : Int32) * (v2 - (97 : Int32))) + x3) &&& 31)))), (5, .int v2), (0, .ref (ad 0)), (1, .int x1)]) hx hb dX3_bringText_111 hl (k := 5) rfl rfl (by decide) rfl (fun ls hl => ?_)
            refine lv_goto (tgt := 9) hx hb dX3_bringText_114 (by decide) ?_
            exact ih (x.1, x.2.1, x.2.2.1, x.2.2.2.1, x.2.2.2.2) x1 (x2 ||| ((1 : Int32) <<< ((((2 : Int32) * (v2 - (97 : Int32))) + x3) &&& 31))) (0 : Int32) (x4 + 1)  _ _ _ _ hX hP hS (lv_sub hl [4, 5, 2, 1, 0] rfl) hN
          · rw [if_pos c5] at hN
            refine lv_iconst (v := 1) hx hb dX3_bringText_90 (by decide) ?_
            refine lv_istore_n (lv' := [(3, .int (1 : Int32)), (5, .int v2), (0, .ref (ad 0)), (1, .int x1), (2, .int x2), (4, .int x4)]) hx hb dX3_bringText_91 rfl hl (by decide) rfl (fun ls hl => ?_)
            refine lv_goto (tgt := 111) hx hb dX3_bringText_92 (by decide) ?_
            refine lv_iinc (v := (x4 + 1)) (lv' := [(4, .int (x4 + 1)), (3, .int (1 : Int32)), (5, .int v2), (0, .ref (ad 0)), (1, .int x1), (2, .int x2)]) hx hb dX3_bringText_111 hl (k := 5) rfl rfl (by decide) rfl (fun ls hl => ?_)
            refine lv_goto (tgt := 9) hx hb dX3_bringText_114 (by decide) ?_
            exact ih (x.1, x.2.1, x.2.2.1, x.2.2.2.1, x.2.2.2.2) x1 x2 (1 : Int32) (x4 + 1)  _ _ _ _ hX hP hS (lv_sub hl [3, 4, 5, 1, 0] rfl) hN
        · rw [if_pos c4] at hN
          refine lv_aload_n hx hb dX3_bringText_42 rfl (lv_at hl 1 rfl) ?_
          refine k_get (C := RX3) (T := TX3) (N := 3) (ci := 3) (v := .ref (sA ad 5)) hx hb hts (fun _ h => List.mem_cons_of_mem _ (List.mem_append_left _ (List.mem_append_left _ (List.mem_append_right _ h)))) hown hC hP (hX.m 0 (by omega)) hX.o0 rfl 0 (by decide) (hts (.fieldLink RX3 10 "OrderedClauses" "store" "LOrderedClauses$Store;") (List.mem_of_getElem? (i := 2) rfl)) rfl dX3_bringText_43 ?_
          refine lv_iload_n hx hb dX3_bringText_46 rfl (lv_at hl 3 rfl) ?_
          refine lv_iconst (v := (-1)) hx hb dX3_bringText_47 (by decide) ?_
          refine lv_iconst (v := (-1)) hx hb dX3_bringText_48 (by decide) ?_
          refine lv_iconst (v := (-1)) hx hb dX3_bringText_49 (by decide) ?_
          obtain ⟨v6, w7, hv6, hN⟩ := oB2_spec hN
          refine k_iW hS (va_runVN (As := [.int x2, .int ((-1) : Int32), .int ((-1) : Int32), .int ((-1) : Int32)]) (rest := []) ⟨hx, hb, hml, hown, hts⟩ (c_X1_bring l g L hL G1 (sA ad 5) (sR ad 5) x.1 hX.sm x2 ((-1) : Int32) ((-1) : Int32) ((-1) : Int32) v6 w7 hv6) ⟨va_cnB 4 hts gX3_bringText_X1_bring_n35 rfl rfl rfl (hC.2.1.2 (RX3, 35, yX1_bring, RX3) (List.mem_of_getElem? (i := 24) rfl)) (hts (.initialized RX1) (List.mem_of_getElem? (i := 9) rfl)) (by decide +kernel) ⟨Nat.le_of_ble_eq_true rfl, Nat.le_of_ble_eq_true rfl⟩, (hts (.instanceMethod yX1_bring) (List.mem_of_getElem? (i := 8) rfl)), (hts (.selects RX1 yX1_bring yX1_bring) (List.mem_of_getElem? (i := 10) rfl))⟩ (k_preV (C := RX1) (T := TX1) (N := 13) hC hS hP (vO.m hX.sm) (vO.o hX.sm) rfl) rfl rfl hl.1 rfl (lv_room (Nat.le_of_ble_eq_true rfl)) dX3_bringText_50 ⟨Nat.zero_le _, Nat.zero_le _⟩) (fun G8 H locs hq hP hS => ?_)
          obtain ⟨hV1, hf1⟩ := hq
          have hX : vX g L G8 ad (w7, x.2.1, x.2.2.1, x.2.2.2.1, x.2.2.2.2) := vX.upM hX hV1 hf1
          refine lv_istore (lv' := [(6, .int v6), (5, .int v2), (0, .ref (ad 0)), (1, .int x1), (2, .int x2), (3, .int x3), (4, .int x4)]) hx hb dX3_bringText_53 hl (by decide) rfl (fun ls hl => ?_)
          refine lv_iload hx hb dX3_bringText_55 (lv_at hl 0 rfl) ?_
          refine lv_ldc (v := (-1000003)) hx hb hown (hts (.constant RX3 55 (-1000003)) (List.mem_of_getElem? (i := 3) rfl)) dX3_bringText_57 ?_
          refine lv_icmp_ne (tgt := 65) hx hb dX3_bringText_59 (by decide) (fun c9 => ?_) (fun c9 => ?_)
          · rw [if_neg c9] at hN
            refine lv_iload_n hx hb dX3_bringText_65 rfl (lv_at hl 3 rfl) ?_
            refine lv_iload hx hb dX3_bringText_66 (lv_at hl 0 rfl) ?_
            refine lv_if_lt (tgt := 75) hx hb dX3_bringText_68 (by decide) (fun c10 => ?_) (fun c10 => ?_)
            · rw [if_pos c10] at hN
              refine lv_iconst (v := 0) hx hb dX3_bringText_75 (by decide) ?_
              refine lv_iadd hx hb dX3_bringText_76 ?_
              refine lv_istore_n (lv' := [(1, .int (x1 + (0 : Int32))), (6, .int v6), (5, .int v2), (0, .ref (ad 0)), (2, .int x2), (3, .int x3), (4, .int x4)]) hx hb dX3_bringText_77 rfl hl (by decide) rfl (fun ls hl => ?_)
              refine lv_iconst (v := 0) hx hb dX3_bringText_78 (by decide) ?_
              refine lv_istore_n (lv' := [(2, .int (0 : Int32)), (1, .int (x1 + (0 : Int32))), (6, .int v6), (5, .int v2), (0, .ref (ad 0)), (3, .int x3), (4, .int x4)]) hx hb dX3_bringText_79 rfl hl (by decide) rfl (fun ls hl => ?_)
              refine lv_goto (tgt := 111) hx hb dX3_bringText_80 (by decide) ?_
              refine lv_iinc (v := (x4 + 1)) (lv' := [(4, .int (x4 + 1)), (2, .int (0 : Int32)), (1, .int (x1 + (0 : Int32))), (6, .int v6), (5, .int v2), (0, .ref (ad 0)), (3, .int x3)]) hx hb dX3_bringText_111 hl (k := 6) rfl rfl (by decide) rfl (fun ls hl => ?_)
              refine lv_goto (tgt := 9) hx hb dX3_bringText_114 (by decide) ?_
              exact ih (w7, x.2.1, x.2.2.1, x.2.2.2.1, x.2.2.2.2) (x1 + (0 : Int32)) (0 : Int32) x3 (x4 + 1)  _ _ _ _ hX hP hS (lv_sub hl [5, 2, 1, 6, 0] rfl) hN
            · rw [if_neg c10] at hN
              refine lv_iconst (v := 1) hx hb dX3_bringText_71 (by decide) ?_
              refine lv_goto (tgt := 76) hx hb dX3_bringText_72 (by decide) ?_
              refine lv_iadd hx hb dX3_bringText_76 ?_
              refine lv_istore_n (lv' := [(1, .int (x1 + (1 : Int32))), (6, .int v6), (5, .int v2), (0, .ref (ad 0)), (2, .int x2), (3, .int x3), (4, .int x4)]) hx hb dX3_bringText_77 rfl hl (by decide) rfl (fun ls hl => ?_)
              refine lv_iconst (v := 0) hx hb dX3_bringText_78 (by decide) ?_
              refine lv_istore_n (lv' := [(2, .int (0 : Int32)), (1, .int (x1 + (1 : Int32))), (6, .int v6), (5, .int v2), (0, .ref (ad 0)), (3, .int x3), (4, .int x4)]) hx hb dX3_bringText_79 rfl hl (by decide) rfl (fun ls hl => ?_)
              refine lv_goto (tgt := 111) hx hb dX3_bringText_80 (by decide) ?_
              refine lv_iinc (v := (x4 + 1)) (lv' := [(4, .int (x4 + 1)), (2, .int (0 : Int32)), (1, .int (x1 + (1 : Int32))), (6, .int v6), (5, .int v2), (0, .ref (ad 0)), (3, .int x3)]) hx hb dX3_bringText_111 hl (k := 6) rfl rfl (by decide) rfl (fun ls hl => ?_)
              refine lv_goto (tgt := 9) hx hb dX3_bringText_114 (by decide) ?_
              exact ih (w7, x.2.1, x.2.2.1, x.2.2.2.1, x.2.2.2.2) (x1 + (1 : Int32)) (0 : Int32) x3 (x4 + 1)  _ _ _ _ hX hP hS (lv_sub hl [5, 2, 1, 6, 0] rfl) hN
          · rw [if_pos c9] at hN
            refine lv_ldc (v := (-1000003)) hx hb hown (hts (.constant RX3 55 (-1000003)) (List.mem_of_getElem? (i := 3) rfl)) dX3_bringText_62 ?_
            obtain ⟨hE, hE2⟩ := spair hN
            exact k_iretW hx hb hr hE (hE2 ▸ hX) hP hS hlk dX3_bringText_64
  have hl := lv_entry ([.ref (ad 0)]) (n := 7) (Nat.le_of_ble_eq_true rfl)
  rw [lg_entry_eq]
  generalize (lg_sl ([.ref (ad 0)]) ++ List.replicate (7 - (lg_sl ([.ref (ad 0)])).length) Slot.unset).toArray = ls at hl ⊢
  have hl : lv_has ls 7 [(0, .ref (ad 0))] := hl
  have hN := hF
  unfold F_X3_bringText at hN
  refine lv_iconst (v := 0) hx hb dX3_bringText_0 (by decide) ?_
  refine lv_istore_n (lv' := [(1, .int (0 : Int32)), (0, .ref (ad 0))]) hx hb dX3_bringText_1 rfl hl (by decide) rfl (fun ls hl => ?_)
  refine lv_iconst (v := 0) hx hb dX3_bringText_2 (by decide) ?_
  refine lv_istore_n (lv' := [(2, .int (0 : Int32)), (1, .int (0 : Int32)), (0, .ref (ad 0))]) hx hb dX3_bringText_3 rfl hl (by decide) rfl (fun ls hl => ?_)
  refine lv_iconst (v := 0) hx hb dX3_bringText_4 (by decide) ?_
  refine lv_istore_n (lv' := [(3, .int (0 : Int32)), (2, .int (0 : Int32)), (1, .int (0 : Int32)), (0, .ref (ad 0))]) hx hb dX3_bringText_5 rfl hl (by decide) rfl (fun ls hl => ?_)
  refine lv_iconst (v := 0) hx hb dX3_bringText_6 (by decide) ?_
  refine lv_istore (lv' := [(4, .int (0 : Int32)), (3, .int (0 : Int32)), (2, .int (0 : Int32)), (1, .int (0 : Int32)), (0, .ref (ad 0))]) hx hb dX3_bringText_7 hl (by decide) rfl (fun ls hl => ?_)
  exact lp9 fuel (x.1, x.2.1, x.2.2.1, x.2.2.2.1, x.2.2.2.2) (0 : Int32) (0 : Int32) (0 : Int32) (0 : Int32)  _ _ _ _ hX hP hS (lv_sub hl [4, 3, 2, 1, 0] rfl) hN
set_option maxHeartbeats 4000000 in
set_option maxRecDepth 100000 in
theorem c_X3_play (l : Launch) (g : Gm) (L : List Nat) {A : Nat → Prop} (hL : kL L A) (G : Nat → va_E) (ad : Nat → Nat) (x : XS) (hX : vX g L G ad x) (v : Int32) (w : XS) (hF : F_X3_play x = some (v, w)) : Met l yX3_play wsX3_play ({ frames := 5, cells := 0, slots := 0, locals := 148 } : Room) (va_Pc [.ref (ad 0)] (kB g L A G)) (va_Qi (fun x9 (G9 : Nat → va_E) => x9 = v ∧ (vX g L G9 ad w)) (kE g L) A) 0 0 A := by
  refine Met.ofW (cc := cX3_play) (maxL := 1) (ret := (some .int)) (by decide) rfl ?_
  intro p e s m args below meth c s₁ B hml hv
  obtain ⟨rfl, hP, hC⟩ := hv
  have hx := B.exec
  have hb := B.bytes
  have hr := B.returns
  have hts := atoms_spec (ws := wsX3_play) B.pre
  have hown : s.vm.findClass RX3 = some m.cls := findClass_of_methodNamed B.named
  have hlk := B.notSynchronized
  have hS : va_S A s.heap s.heap [] := va_S.rf
  have hl := lv_entry ([.ref (ad 0)]) (n := 1) (Nat.le_of_ble_eq_true rfl)
  rw [lg_entry_eq]
  generalize (lg_sl ([.ref (ad 0)]) ++ List.replicate (1 - (lg_sl ([.ref (ad 0)])).length) Slot.unset).toArray = ls at hl ⊢
  have hl : lv_has ls 1 [(0, .ref (ad 0))] := hl
  have hN := hF
  unfold F_X3_play at hN
  refine lv_aload_n hx hb dX3_play_0 rfl (lv_at hl 0 rfl) ?_
  refine k_get (C := RX3) (T := TX3) (N := 3) (ci := 3) (v := .ref (ad 3)) hx hb hts (fun _ h => List.mem_cons_of_mem _ (List.mem_append_left _ (List.mem_append_left _ (List.mem_append_left _ (List.mem_append_right _ h))))) hown hC hP (hX.m 0 (by omega)) hX.o0 rfl 2 (by decide) (hts (.fieldLink RX3 26 "OrderedClauses" "text" "LOrderedClauses$Text;") (List.mem_of_getElem? (i := 1) rfl)) rfl dX3_play_1 ?_
  obtain ⟨v1, hv1, hN⟩ := oB_spec hN
  refine k_iR hS (va_runVN (As := []) (rest := []) ⟨hx, hb, hml, hown, hts⟩ (c_X2_whereItBreaksOff l g L hL G (ad 3) (tR ad) x.2.2.2.2 hX.t v1 hv1) ⟨va_cnB 0 hts gX3_play_X2_whereItBreaksOff_n175 rfl rfl rfl (hC.2.1.2 (RX3, 175, yX2_whereItBreaksOff, RX3) (List.mem_of_getElem? (i := 35) rfl)) (hts (.initialized RX2) (List.mem_of_getElem? (i := 6) rfl)) (by decide +kernel) ⟨Nat.le_of_ble_eq_true rfl, Nat.le_of_ble_eq_true rfl⟩, (hts (.instanceMethod yX2_whereItBreaksOff) (List.mem_of_getElem? (i := 5) rfl)), (hts (.selects RX2 yX2_whereItBreaksOff yX2_whereItBreaksOff) (List.mem_of_getElem? (i := 7) rfl))⟩ (k_preV (C := RX2) (T := TX2) (N := 2) hC hS hP (vO.m hX.t) (vO.o hX.t) rfl) rfl rfl hl.1 rfl (lv_room (Nat.le_of_ble_eq_true rfl)) dX3_play_4 ⟨Nat.zero_le _, Nat.zero_le _⟩) (fun H locs hP hS => ?_)
  refine lv_iconst (v := (-1)) hx hb dX3_play_7 (by decide) ?_
  refine lv_icmp_eq (tgt := 14) hx hb dX3_play_8 (by decide) (fun c3 => ?_) (fun c3 => ?_)
  · rw [if_pos c3] at hN
    refine lv_aload_n hx hb dX3_play_14 rfl (lv_at hl 0 rfl) ?_
    refine k_get (C := RX3) (T := TX3) (N := 3) (ci := 3) (v := .ref (ad 1)) hx hb hts (fun _ h => List.mem_cons_of_mem _ (List.mem_append_left _ (List.mem_append_left _ (List.mem_append_left _ (List.mem_append_right _ h))))) hown hC hP (hX.m 0 (by omega)) hX.o0 rfl 1 (by decide) (hts (.fieldLink RX3 19 "OrderedClauses" "history" "LOrderedClauses$History;") (List.mem_of_getElem? (i := 3) rfl)) rfl dX3_play_15 ?_
    refine lv_aload_n hx hb dX3_play_18 rfl (lv_at hl 0 rfl) ?_
    refine k_get (C := RX3) (T := TX3) (N := 3) (ci := 3) (v := .ref (sA ad 5)) hx hb hts (fun _ h => List.mem_cons_of_mem _ (List.mem_append_left _ (List.mem_append_left _ (List.mem_append_left _ (List.mem_append_right _ h))))) hown hC hP (hX.m 0 (by omega)) hX.o0 rfl 0 (by decide) (hts (.fieldLink RX3 10 "OrderedClauses" "store" "LOrderedClauses$Store;") (List.mem_of_getElem? (i := 4) rfl)) rfl dX3_play_19 ?_
    obtain ⟨w5, hw5, hN⟩ := oB_spec hN
    refine k_v hS (va_runVN (As := [.ref (sA ad 5)]) (rest := []) ⟨hx, hb, hml, hown, hts⟩ (c_X0_putAside l g L hL G ad (x.1, x.2.1, x.2.2.1, x.2.2.2.1, x.2.2.2.2) hX w5 hw5) ⟨va_cnB 1 hts gX3_play_X0_putAside_n31 rfl rfl rfl (hC.2.1.2 (RX3, 31, yX0_putAside, RX3) (List.mem_of_getElem? (i := 23) rfl)) (hts (.initialized RX0) (List.mem_of_getElem? (i := 15) rfl)) (by decide +kernel) ⟨Nat.le_of_ble_eq_true rfl, Nat.le_of_ble_eq_true rfl⟩, (hts (.instanceMethod yX0_putAside) (List.mem_of_getElem? (i := 14) rfl)), (hts (.selects RX0 yX0_putAside yX0_putAside) (List.mem_of_getElem? (i := 16) rfl))⟩ (k_preV (C := RX0) (T := TX0) (N := 2) hC hS hP (hX.m 1 (by omega)) hX.o1 rfl) rfl rfl hl.1 rfl (lv_room (Nat.le_of_ble_eq_true rfl)) dX3_play_22 ⟨Nat.zero_le _, Nat.zero_le _⟩) (fun G6 H locs hq hP hS => ?_)
    have hX := hq
    refine lv_aload_n hx hb dX3_play_25 rfl (lv_at hl 0 rfl) ?_
    refine lv_aload_n hx hb dX3_play_26 rfl (lv_at hl 0 rfl) ?_
    obtain ⟨v7, w8, hv7, hN⟩ := oB2_spec hN
    refine k_iW hS (va_runV (As := []) (rest := [.ref (ad 0)]) ⟨hx, hb, hml, hown, hts⟩ (c_X3_bringText l g L hL G6 ad (w5.1, w5.2.1, w5.2.2.1, w5.2.2.2.1, w5.2.2.2.2) hX v7 w8 hv7) (cwV 0 hts gX3_play_X3_bringText rfl rfl rfl (by decide +kernel) ⟨Nat.le_of_ble_eq_true rfl, Nat.le_of_ble_eq_true rfl⟩) (k_preV (C := RX3) (T := TX3) (N := 3) hC hS hP (hX.m 0 (by omega)) hX.o0 rfl) rfl rfl hl.1 rfl (lv_room (Nat.le_of_ble_eq_true rfl)) dX3_play_27 ⟨Nat.zero_le _, Nat.zero_le _⟩) (fun G9 H locs hq hP hS => ?_)
    have hX := hq
    obtain ⟨v10, w11, hv10, hN⟩ := oB2_spec hN
    refine k_iW hS (va_runV (As := [.int v7]) (rest := []) ⟨hx, hb, hml, hown, hts⟩ (c_X3_settle l g L hL G9 ad (w8.1, w8.2.1, w8.2.2.1, w8.2.2.2.1, w8.2.2.2.2) hX v7 v10 w11 hv10) (cwV 1 hts gX3_play_X3_settle rfl rfl rfl (by decide +kernel) ⟨Nat.le_of_ble_eq_true rfl, Nat.le_of_ble_eq_true rfl⟩) (k_preV (C := RX3) (T := TX3) (N := 3) hC hS hP (hX.m 0 (by omega)) hX.o0 rfl) rfl rfl hl.1 rfl (lv_room (Nat.le_of_ble_eq_true rfl)) dX3_play_30 ⟨Nat.zero_le _, Nat.zero_le _⟩) (fun G12 H locs hq hP hS => ?_)
    have hX := hq
    obtain ⟨hE, hE2⟩ := spair hN
    exact k_iretW hx hb hr hE (hE2 ▸ hX) hP hS hlk dX3_play_33
  · rw [if_neg c3] at hN
    refine lv_ldc (v := (-1000002)) hx hb hown (hts (.constant RX3 56 (-1000002)) (List.mem_of_getElem? (i := 2) rfl)) dX3_play_11 ?_
    obtain ⟨hE, hE2⟩ := spair hN
    exact k_iretW hx hb hr hE (hE2 ▸ hX) hP hS hlk dX3_play_13
