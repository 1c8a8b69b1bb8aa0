/-! Each method meets its partial function: printed by program (wip/p25/gen.py) -/
set_option maxHeartbeats 4000000 in
set_option maxRecDepth 100000 in
theorem c_X0_stateAt (l : Launch) (g : Gm) (L : List Nat) {A : Nat → Prop} (hL : kL L A) (G : Nat → va_E) (ad : Nat → Nat) (x : XS) (hX : vX g L G ad x) (p0 : Int32) (v : Option Nat) (hF : F_X0_stateAt x p0 = some v) : Met l yX0_stateAt wsX0_stateAt ({ frames := 0, cells := 0, slots := 0, locals := 0 } : Room) (va_Pc [.ref (ad 1), .int p0] (kB g L A G)) (va_Qq (fun x9 (G9 : Nat → va_E) => x9 = v.map (sA ad) ∧ G9 = G) (kE g L) A) 0 0 A := by
  refine Met.ofW (cc := cX0_stateAt) (maxL := 2) (ret := (some (.object "OrderedClauses$Store"))) (by decide) rfl ?_
  intro p e s m args below meth c s₁ B hml hv
  obtain ⟨rfl, hP, hC⟩ := hv
  have hx := B.exec
  have hb := B.bytes
  have hr := B.returns
  have hts := atoms_spec (ws := wsX0_stateAt) B.pre
  have hown : s.vm.findClass RX0 = some m.cls := findClass_of_methodNamed B.named
  have hlk := B.notSynchronized
  have hS : va_S A s.heap s.heap [] := va_S.rf
  have hl := lv_entry ([.ref (ad 1), .int p0]) (n := 2) (Nat.le_of_ble_eq_true rfl)
  rw [lg_entry_eq]
  generalize (lg_sl ([.ref (ad 1), .int p0]) ++ List.replicate (2 - (lg_sl ([.ref (ad 1), .int p0])).length) Slot.unset).toArray = ls at hl ⊢
  have hl : lv_has ls 2 [(0, .ref (ad 1)), (1, .int p0)] := hl
  have hN := hF
  unfold F_X0_stateAt at hN
  refine lv_iload_n hx hb dX0_stateAt_0 rfl (lv_at hl 1 rfl) ?_
  refine lv_if_lt (tgt := 22) hx hb dX0_stateAt_1 (by decide) (fun c1 => ?_) (fun c1 => ?_)
  · rw [if_pos c1] at hN
    refine lv_null hx hb dX0_stateAt_22 ?_
    exact k_qretR hx hb hr (by rw [← Option.some.inj hN]; rfl) hP hS hlk dX0_stateAt_23
  · rw [if_neg c1] at hN
    refine lv_iload_n hx hb dX0_stateAt_4 rfl (lv_at hl 1 rfl) ?_
    refine lv_aload_n hx hb dX0_stateAt_5 rfl (lv_at hl 0 rfl) ?_
    refine k_get (C := RX0) (T := TX0) (N := 2) (ci := 0) (v := .ref (ad 2)) hx hb hts (fun _ h => List.mem_cons_of_mem _ (List.mem_append_right _ h)) hown hC hP (hX.m 1 (by omega)) hX.o1 rfl 0 (by decide) (hts (.fieldLink RX0 11 "OrderedClauses$History" "states" "[LOrderedClauses$Store;") (List.mem_of_getElem? (i := 1) rfl)) rfl dX0_stateAt_6 ?_
    refine k_lenr hx hb hC hP (hX.m 2 (by omega)) hX.o2 dX0_stateAt_9 ?_
    refine lv_icmp_ge (tgt := 22) hx hb dX0_stateAt_10 (by decide) (fun c2 => ?_) (fun c2 => ?_)
    · rw [if_pos c2] at hN
      refine lv_null hx hb dX0_stateAt_22 ?_
      exact k_qretR hx hb hr (by rw [← Option.some.inj hN]; rfl) hP hS hlk dX0_stateAt_23
    · rw [if_neg c2] at hN
      refine lv_aload_n hx hb dX0_stateAt_13 rfl (lv_at hl 0 rfl) ?_
      refine k_get (C := RX0) (T := TX0) (N := 2) (ci := 0) (v := .ref (ad 2)) hx hb hts (fun _ h => List.mem_cons_of_mem _ (List.mem_append_right _ h)) hown hC hP (hX.m 1 (by omega)) hX.o1 rfl 0 (by decide) (hts (.fieldLink RX0 11 "OrderedClauses$History" "states" "[LOrderedClauses$Store;") (List.mem_of_getElem? (i := 1) rfl)) rfl dX0_stateAt_14 ?_
      refine lv_iload_n hx hb dX0_stateAt_17 rfl (lv_at hl 1 rfl) ?_
      obtain ⟨q3, hq3, hN⟩ := oB_spec hN
      refine k_rldE hx hb hC hP hX hq3 dX0_stateAt_18 (fun y4 hy4 => ?_)
      refine lv_goto (tgt := 23) hx hb dX0_stateAt_19 (by decide) ?_
      exact k_qretR hx hb hr (by rw [← Option.some.inj hN, hy4]; rfl) hP hS hlk dX0_stateAt_23
set_option maxHeartbeats 4000000 in
set_option maxRecDepth 100000 in
theorem c_X0_putAside (l : Launch) (g : Gm) (L : List Nat) {A : Nat → Prop} (hL : kL L A) (G : Nat → va_E) (ad : Nat → Nat) (x : XS) (hX : vX g L G ad x) (w : XS) (hF : F_X0_putAside x = some w) : Met l yX0_putAside wsX0_putAside ({ frames := 3, cells := 0, slots := 0, locals := 106 } : Room) (va_Pc [.ref (ad 1), .ref (sA ad 5)] (kB g L A G)) (va_Qv (fun G9 : Nat → va_E => (vX g L G9 ad w)) (kE g L) A) 0 0 A := by
  refine Met.ofW (cc := cX0_putAside) (maxL := 3) (ret := none) (by decide) rfl ?_
  intro p e s m args below meth c s₁ B hml hv
  obtain ⟨rfl, hP, hC⟩ := hv
  have hx := B.exec
  have hb := B.bytes
  have hr := B.returns
  have hts := atoms_spec (ws := wsX0_putAside) B.pre
  have hown : s.vm.findClass RX0 = some m.cls := findClass_of_methodNamed B.named
  have hlk := B.notSynchronized
  have hS : va_S A s.heap s.heap [] := va_S.rf
  have hl := lv_entry ([.ref (ad 1), .ref (sA ad 5)]) (n := 3) (Nat.le_of_ble_eq_true rfl)
  rw [lg_entry_eq]
  generalize (lg_sl ([.ref (ad 1), .ref (sA ad 5)]) ++ List.replicate (3 - (lg_sl ([.ref (ad 1), .ref (sA ad 5)])).length) Slot.unset).toArray = ls at hl ⊢
  have hl : lv_has ls 3 [(0, .ref (ad 1)), (1, .ref (sA ad 5))] := hl
  have hN := hF
  unfold F_X0_putAside at hN
  refine lv_aload_n hx hb dX0_putAside_0 rfl (lv_at hl 0 rfl) ?_
  refine lv_aload_n hx hb dX0_putAside_1 rfl (lv_at hl 0 rfl) ?_
  refine k_get (C := RX0) (T := TX0) (N := 2) (ci := 0) (v := .int x.2.2.2.1) hx hb hts (fun _ h => List.mem_cons_of_mem _ (List.mem_append_left _ (List.mem_append_right _ h))) hown hC hP (hX.m 1 (by omega)) hX.o1 rfl 1 (by decide) (hts (.fieldLink RX0 17 "OrderedClauses$History" "kept" "I") (List.mem_of_getElem? (i := 1) rfl)) rfl dX0_putAside_2 ?_
  obtain ⟨v1, hv1, hN⟩ := oB_spec hN
  refine k_qR hS (va_runV (As := [.int x.2.2.2.1]) (rest := []) ⟨hx, hb, hml, hown, hts⟩ (c_X0_stateAt l g L hL G ad (x.1, x.2.1, x.2.2.1, x.2.2.2.1, x.2.2.2.2) hX x.2.2.2.1 v1 hv1) (cwV 1 hts gX0_putAside_X0_stateAt rfl rfl rfl (by decide +kernel) ⟨Nat.le_of_ble_eq_true rfl, Nat.le_of_ble_eq_true rfl⟩) (k_preV (C := RX0) (T := TX0) (N := 2) hC hS hP (hX.m 1 (by omega)) hX.o1 rfl) rfl rfl hl.1 rfl (lv_room (Nat.le_of_ble_eq_true rfl)) dX0_putAside_5 ⟨Nat.zero_le _, Nat.zero_le _⟩) (fun H locs hP hS => ?_)
  rcases v1 with _ | p3
  · exact absurd hN (by simp [oM])
  · obtain ⟨hp3, hN⟩ := oM_some hN
    refine lv_astore_n (lv' := [(2, .ref (sA ad p3)), (0, .ref (ad 1)), (1, .ref (sA ad 5))]) hx hb dX0_putAside_8 rfl hl (by decide) rfl (fun ls hl => ?_)
    refine lv_aload_n hx hb dX0_putAside_9 rfl (lv_at hl 0 rfl) ?_
    refine lv_ifnull hx hb dX0_putAside_10 ?_
    refine lv_aload_n hx hb dX0_putAside_13 rfl (lv_at hl 0 rfl) ?_
    refine lv_aload_n hx hb dX0_putAside_14 rfl (lv_at hl 2 rfl) ?_
    obtain ⟨w5, hw5, hN⟩ := oB_spec hN
    refine k_v hS (va_runVN (As := [.ref (sA ad 5)]) (rest := []) ⟨hx, hb, hml, hown, hts⟩ (c_X1_copyFrom l g L hL G (sA ad p3) (sR ad p3) (x.2.1 p3) (hX.sc hp3) (sA ad 5) (sR ad 5) x.1 hX.sm (hX.apC hp3) w5 hw5) ⟨va_cnB 1 hts gX0_putAside_X1_copyFrom_n26 rfl rfl rfl (hC.2.1.2 (RX0, 26, yX1_copyFrom, RX3) (List.mem_of_getElem? (i := 9) rfl)) (hts (.initialized RX1) (List.mem_of_getElem? (i := 9) rfl)) (by decide +kernel) ⟨Nat.le_of_ble_eq_true rfl, Nat.le_of_ble_eq_true rfl⟩, (hts (.instanceMethod yX1_copyFrom) (List.mem_of_getElem? (i := 8) rfl)), (hts (.selects RX1 yX1_copyFrom yX1_copyFrom) (List.mem_of_getElem? (i := 10) rfl))⟩ (k_preV (C := RX1) (T := TX1) (N := 13) hC hS hP (vO.m (hX.sc hp3)) (vO.o (hX.sc hp3)) rfl) rfl rfl hl.1 rfl (lv_room (Nat.le_of_ble_eq_true rfl)) dX0_putAside_15 ⟨Nat.zero_le _, Nat.zero_le _⟩) (fun G6 H locs hq hP hS => ?_)
    obtain ⟨hV1, hf1⟩ := hq
    have hX : vX g L G6 ad (x.1, (va_up x.2.1 p3 w5), x.2.2.1, x.2.2.2.1, x.2.2.2.2) := vX.upC hX hp3 hV1 hf1
    have hE := Option.some.inj hN
    exact k_vretW hx hb hr (hE ▸ hX) hP hS hlk dX0_putAside_18
set_option maxHeartbeats 4000000 in
set_option maxRecDepth 100000 in
theorem c_X0_takeBack (l : Launch) (g : Gm) (L : List Nat) {A : Nat → Prop} (hL : kL L A) (G : Nat → va_E) (ad : Nat → Nat) (x : XS) (hX : vX g L G ad x) (w : XS) (hF : F_X0_takeBack x = some w) : Met l yX0_takeBack wsX0_takeBack ({ frames := 3, cells := 0, slots := 0, locals := 106 } : Room) (va_Pc [.ref (ad 1), .ref (sA ad 5)] (kB g L A G)) (va_Qv (fun G9 : Nat → va_E => (vX g L G9 ad w)) (kE g L) A) 0 0 A := by
  refine Met.ofW (cc := cX0_takeBack) (maxL := 2) (ret := none) (by decide) rfl ?_
  intro p e s m args below meth c s₁ B hml hv
  obtain ⟨rfl, hP, hC⟩ := hv
  have hx := B.exec
  have hb := B.bytes
  have hr := B.returns
  have hts := atoms_spec (ws := wsX0_takeBack) B.pre
  have hown : s.vm.findClass RX0 = some m.cls := findClass_of_methodNamed B.named
  have hlk := B.notSynchronized
  have hS : va_S A s.heap s.heap [] := va_S.rf
  have hl := lv_entry ([.ref (ad 1), .ref (sA ad 5)]) (n := 2) (Nat.le_of_ble_eq_true rfl)
  rw [lg_entry_eq]
  generalize (lg_sl ([.ref (ad 1), .ref (sA ad 5)]) ++ List.replicate (2 - (lg_sl ([.ref (ad 1), .ref (sA ad 5)])).length) Slot.unset).toArray = ls at hl ⊢
  have hl : lv_has ls 2 [(0, .ref (ad 1)), (1, .ref (sA ad 5))] := hl
  have hN := hF
  unfold F_X0_takeBack at hN
  refine lv_aload_n hx hb dX0_takeBack_0 rfl (lv_at hl 1 rfl) ?_
  refine lv_aload_n hx hb dX0_takeBack_1 rfl (lv_at hl 0 rfl) ?_
  refine lv_aload_n hx hb dX0_takeBack_2 rfl (lv_at hl 0 rfl) ?_
  refine k_get (C := RX0) (T := TX0) (N := 2) (ci := 0) (v := .int x.2.2.2.1) hx hb hts (fun _ h => List.mem_cons_of_mem _ (List.mem_append_left _ (List.mem_append_right _ h))) hown hC hP (hX.m 1 (by omega)) hX.o1 rfl 1 (by decide) (hts (.fieldLink RX0 17 "OrderedClauses$History" "kept" "I") (List.mem_of_getElem? (i := 1) rfl)) rfl dX0_takeBack_3 ?_
  obtain ⟨v1, hv1, hN⟩ := oB_spec hN
  refine k_qR hS (va_runV (As := [.int x.2.2.2.1]) (rest := [.ref (sA ad 5)]) ⟨hx, hb, hml, hown, hts⟩ (c_X0_stateAt l g L hL G ad (x.1, x.2.1, x.2.2.1, x.2.2.2.1, x.2.2.2.2) hX x.2.2.2.1 v1 hv1) (cwV 1 hts gX0_takeBack_X0_stateAt rfl rfl rfl (by decide +kernel) ⟨Nat.le_of_ble_eq_true rfl, Nat.le_of_ble_eq_true rfl⟩) (k_preV (C := RX0) (T := TX0) (N := 2) hC hS hP (hX.m 1 (by omega)) hX.o1 rfl) rfl rfl hl.1 rfl (lv_room (Nat.le_of_ble_eq_true rfl)) dX0_takeBack_6 ⟨Nat.zero_le _, Nat.zero_le _⟩) (fun H locs hP hS => ?_)
  rcases v1 with _ | p3
  · exact absurd hN (by simp [oM])
  · obtain ⟨hp3, hN⟩ := oM_some hN
    obtain ⟨w5, hw5, hN⟩ := oB_spec hN
    refine k_v hS (va_runVN (As := [.ref (sA ad p3)]) (rest := []) ⟨hx, hb, hml, hown, hts⟩ (c_X1_copyFrom l g L hL G (sA ad 5) (sR ad 5) x.1 hX.sm (sA ad p3) (sR ad p3) (x.2.1 p3) (hX.sc hp3) (hX.apM hp3) w5 hw5) ⟨va_cnB 1 hts gX0_takeBack_X1_copyFrom_n26 rfl rfl rfl (hC.2.1.2 (RX0, 26, yX1_copyFrom, RX3) (List.mem_of_getElem? (i := 9) rfl)) (hts (.initialized RX1) (List.mem_of_getElem? (i := 9) rfl)) (by decide +kernel) ⟨Nat.le_of_ble_eq_true rfl, Nat.le_of_ble_eq_true rfl⟩, (hts (.instanceMethod yX1_copyFrom) (List.mem_of_getElem? (i := 8) rfl)), (hts (.selects RX1 yX1_copyFrom yX1_copyFrom) (List.mem_of_getElem? (i := 10) rfl))⟩ (k_preV (C := RX1) (T := TX1) (N := 13) hC hS hP (vO.m hX.sm) (vO.o hX.sm) rfl) rfl rfl hl.1 rfl (lv_room (Nat.le_of_ble_eq_true rfl)) dX0_takeBack_9 ⟨Nat.zero_le _, Nat.zero_le _⟩) (fun G6 H locs hq hP hS => ?_)
    obtain ⟨hV1, hf1⟩ := hq
    have hX : vX g L G6 ad (w5, x.2.1, x.2.2.1, x.2.2.2.1, x.2.2.2.2) := vX.upM hX hV1 hf1
    have hE := Option.some.inj hN
    exact k_vretW hx hb hr (hE ▸ hX) hP hS hlk dX0_takeBack_12
set_option maxHeartbeats 4000000 in
set_option maxRecDepth 100000 in
theorem c_X0_dropOldest (l : Launch) (g : Gm) (L : List Nat) {A : Nat → Prop} (hL : kL L A) (G : Nat → va_E) (ad : Nat → Nat) (x : XS) (hX : vX g L G ad x) (w : XS) (hF : F_X0_dropOldest x = some w) : Met l yX0_dropOldest wsX0_dropOldest ({ frames := 1, cells := 0, slots := 0, locals := 21 } : Room) (va_Pc [.ref (ad 1)] (kB g L A G)) (va_Qv (fun G9 : Nat → va_E => (vX g L G9 ad w)) (kE g L) A) 0 0 A := by
  refine Met.ofW (cc := cX0_dropOldest) (maxL := 4) (ret := none) (by decide) rfl ?_
  intro p e s m args below meth c s₁ B hml hv
  obtain ⟨rfl, hP, hC⟩ := hv
  have hx := B.exec
  have hb := B.bytes
  have hr := B.returns
  have hts := atoms_spec (ws := wsX0_dropOldest) B.pre
  have hown : s.vm.findClass RX0 = some m.cls := findClass_of_methodNamed B.named
  have hlk := B.notSynchronized
  have hS : va_S A s.heap s.heap [] := va_S.rf
  have lp16 : ∀ (n : Nat) (x : XS) (x1 : Nat) (x2 : Int32) (x3 : Int32) (hx1 : x1 < 5) (G1 : Nat → va_E) (H : Heap) (locs : List Loc) (ls : Array Slot), vX g L G1 ad x → va_P g.1 vwCl (va_pl L G1) H → va_S A s.heap H locs → lv_has ls 4 [(0, .ref (ad 1)), (1, .ref (sA ad x1)), (2, .int x2), (3, .int x3)] → FL_X0_dropOldest_16  n x x1 x2 x3 = some w → W p l e (headSpec wsX0_dropOldest ({ frames := 1, cells := 0, slots := 0, locals := 21 } : Room)).room s m ([.ref (ad 1)] : List Value).toArray below meth c H locs 0 0 (MQ below (va_Qv (fun G9 : Nat → va_E => (vX g L G9 ad w)) (kE g L) A) ([.ref (ad 1)] : List Value).toArray s 0 0 A) (F0 m 16 ls []) := by
    intro n
    induction n with
    | zero =>
      intro x x1 x2 x3 hx1 G1 H locs ls hX hP hS hl hN
      exact absurd hN (by simp [FL_X0_dropOldest_16])
    | succ n ih =>
      intro x x1 x2 x3 hx1 G1 H locs ls hX hP hS hl hN
      rw [FL_X0_dropOldest_16] at hN
      refine lv_iload_n hx hb dX0_dropOldest_16 rfl (lv_at hl 3 rfl) ?_
      refine lv_iload_n hx hb dX0_dropOldest_17 rfl (lv_at hl 2 rfl) ?_
      refine lv_icmp_ge (tgt := 40) hx hb dX0_dropOldest_18 (by decide) (fun c4 => ?_) (fun c4 => ?_)
      · rw [if_pos c4] at hN
        refine lv_iload_n hx hb dX0_dropOldest_40 rfl (lv_at hl 2 rfl) ?_
        refine lv_if_lt (tgt := 51) hx hb dX0_dropOldest_41 (by decide) (fun c5 => ?_) (fun c5 => ?_)
        · rw [if_pos c5] at hN
          have hE := Option.some.inj hN
          exact k_vretW hx hb hr (hE ▸ hX) hP hS hlk dX0_dropOldest_51
        · rw [if_neg c5] at hN
          refine lv_aload_n hx hb dX0_dropOldest_44 rfl (lv_at hl 0 rfl) ?_
          refine k_get (C := RX0) (T := TX0) (N := 2) (ci := 0) (v := .ref (ad 2)) hx hb hts (fun _ h => List.mem_cons_of_mem _ (List.mem_append_right _ h)) hown hC hP (hX.m 1 (by omega)) hX.o1 rfl 0 (by decide) (hts (.fieldLink RX0 11 "OrderedClauses$History" "states" "[LOrderedClauses$Store;") (List.mem_of_getElem? (i := 1) rfl)) rfl dX0_dropOldest_45 ?_
          refine lv_iload_n hx hb dX0_dropOldest_48 rfl (lv_at hl 2 rfl) ?_
          refine lv_aload_n hx hb dX0_dropOldest_49 rfl (lv_at hl 1 rfl) ?_
          obtain ⟨pi6, hpi6, hN⟩ := oB_spec hN
          refine k_rstE hx hb hL hC hP hS hX hx1 hpi6 dX0_dropOldest_50 (fun G7 H locs hX hP hS => ?_)
          have hE := Option.some.inj hN
          exact k_vretW hx hb hr (hE ▸ hX) hP hS hlk dX0_dropOldest_51
      · rw [if_neg c4] at hN
        refine lv_aload_n hx hb dX0_dropOldest_21 rfl (lv_at hl 0 rfl) ?_
        refine k_get (C := RX0) (T := TX0) (N := 2) (ci := 0) (v := .ref (ad 2)) hx hb hts (fun _ h => List.mem_cons_of_mem _ (List.mem_append_right _ h)) hown hC hP (hX.m 1 (by omega)) hX.o1 rfl 0 (by decide) (hts (.fieldLink RX0 11 "OrderedClauses$History" "states" "[LOrderedClauses$Store;") (List.mem_of_getElem? (i := 1) rfl)) rfl dX0_dropOldest_22 ?_
        refine lv_iload_n hx hb dX0_dropOldest_25 rfl (lv_at hl 3 rfl) ?_
        refine lv_aload_n hx hb dX0_dropOldest_26 rfl (lv_at hl 0 rfl) ?_
        refine lv_iload_n hx hb dX0_dropOldest_27 rfl (lv_at hl 3 rfl) ?_
        refine lv_iconst (v := 1) hx hb dX0_dropOldest_28 (by decide) ?_
        refine lv_iadd hx hb dX0_dropOldest_29 ?_
        obtain ⟨v8, hv8, hN⟩ := oB_spec hN
        refine k_qR hS (va_runV (As := [.int (x3 + (1 : Int32))]) (rest := [.int x3, .ref (ad 2)]) ⟨hx, hb, hml, hown, hts⟩ (c_X0_stateAt l g L hL G1 ad (x.1, x.2.1, x.2.2.1, x.2.2.2.1, x.2.2.2.2) hX (x3 + (1 : Int32)) v8 hv8) (cwV 1 hts gX0_dropOldest_X0_stateAt rfl rfl rfl (by decide +kernel) ⟨Nat.le_of_ble_eq_true rfl, Nat.le_of_ble_eq_true rfl⟩) (k_preV (C := RX0) (T := TX0) (N := 2) hC hS hP (hX.m 1 (by omega)) hX.o1 rfl) rfl rfl hl.1 rfl (lv_room (Nat.le_of_ble_eq_true rfl)) dX0_dropOldest_30 ⟨Nat.zero_le _, Nat.zero_le _⟩) (fun H locs hP hS => ?_)
        rcases v8 with _ | p10
        · exact absurd hN (by simp [oM])
        · obtain ⟨hp10, hN⟩ := oM_some hN
          obtain ⟨pi11, hpi11, hN⟩ := oB_spec hN
          refine k_rstE hx hb hL hC hP hS hX hp10 hpi11 dX0_dropOldest_33 (fun G12 H locs hX hP hS => ?_)
          refine lv_iinc (v := (x3 + 1)) (lv' := [(3, .int (x3 + 1)), (0, .ref (ad 1)), (1, .ref (sA ad x1)), (2, .int x2)]) hx hb dX0_dropOldest_34 hl (k := 3) rfl rfl (by decide) rfl (fun ls hl => ?_)
          refine lv_goto (tgt := 16) hx hb dX0_dropOldest_37 (by decide) ?_
          exact ih (x.1, x.2.1, pi11, x.2.2.2.1, x.2.2.2.2) x1 x2 (x3 + 1) hx1 _ _ _ _ hX hP hS (lv_sub hl [1, 2, 3, 0] rfl) hN
  have hl := lv_entry ([.ref (ad 1)]) (n := 4) (Nat.le_of_ble_eq_true rfl)
  rw [lg_entry_eq]
  generalize (lg_sl ([.ref (ad 1)]) ++ List.replicate (4 - (lg_sl ([.ref (ad 1)])).length) Slot.unset).toArray = ls at hl ⊢
  have hl : lv_has ls 4 [(0, .ref (ad 1))] := hl
  have hN := hF
  unfold F_X0_dropOldest at hN
  refine lv_aload_n hx hb dX0_dropOldest_0 rfl (lv_at hl 0 rfl) ?_
  refine lv_iconst (v := 0) hx hb dX0_dropOldest_1 (by decide) ?_
  obtain ⟨v1, hv1, hN⟩ := oB_spec hN
  refine k_qR hS (va_runV (As := [.int (0 : Int32)]) (rest := []) ⟨hx, hb, hml, hown, hts⟩ (c_X0_stateAt l g L hL G ad (x.1, x.2.1, x.2.2.1, x.2.2.2.1, x.2.2.2.2) hX (0 : Int32) v1 hv1) (cwV 1 hts gX0_dropOldest_X0_stateAt rfl rfl rfl (by decide +kernel) ⟨Nat.le_of_ble_eq_true rfl, Nat.le_of_ble_eq_true rfl⟩) (k_preV (C := RX0) (T := TX0) (N := 2) hC hS hP (hX.m 1 (by omega)) hX.o1 rfl) rfl rfl hl.1 rfl (lv_room (Nat.le_of_ble_eq_true rfl)) dX0_dropOldest_2 ⟨Nat.zero_le _, Nat.zero_le _⟩) (fun H locs hP hS => ?_)
  rcases v1 with _ | p3
  · exact absurd hN (by simp [oM])
  · obtain ⟨hp3, hN⟩ := oM_some hN
    refine lv_astore_n (lv' := [(1, .ref (sA ad p3)), (0, .ref (ad 1))]) hx hb dX0_dropOldest_5 rfl hl (by decide) rfl (fun ls hl => ?_)
    refine lv_aload_n hx hb dX0_dropOldest_6 rfl (lv_at hl 1 rfl) ?_
    refine k_get (C := RX0) (T := TX0) (N := 2) (ci := 0) (v := .ref (ad 2)) hx hb hts (fun _ h => List.mem_cons_of_mem _ (List.mem_append_right _ h)) hown hC hP (hX.m 1 (by omega)) hX.o1 rfl 0 (by decide) (hts (.fieldLink RX0 11 "OrderedClauses$History" "states" "[LOrderedClauses$Store;") (List.mem_of_getElem? (i := 1) rfl)) rfl dX0_dropOldest_7 ?_
    refine k_lenr hx hb hC hP (hX.m 2 (by omega)) hX.o2 dX0_dropOldest_10 ?_
    refine lv_iconst (v := 1) hx hb dX0_dropOldest_11 (by decide) ?_
    refine lv_isub hx hb dX0_dropOldest_12 ?_
    refine lv_istore_n (lv' := [(2, .int ((Int32.ofNat 5) - (1 : Int32))), (1, .ref (sA ad p3)), (0, .ref (ad 1))]) hx hb dX0_dropOldest_13 rfl hl (by decide) rfl (fun ls hl => ?_)
    refine lv_iconst (v := 0) hx hb dX0_dropOldest_14 (by decide) ?_
    refine lv_istore_n (lv' := [(3, .int (0 : Int32)), (2, .int ((Int32.ofNat 5) - (1 : Int32))), (1, .ref (sA ad p3)), (0, .ref (ad 1))]) hx hb dX0_dropOldest_15 rfl hl (by decide) rfl (fun ls hl => ?_)
    exact lp16 fuel (x.1, x.2.1, x.2.2.1, x.2.2.2.1, x.2.2.2.2) p3 ((Int32.ofNat 5) - (1 : Int32)) (0 : Int32) hp3 _ _ _ _ hX hP hS (lv_sub hl [3, 2, 1, 0] rfl) hN
set_option maxHeartbeats 4000000 in
set_option maxRecDepth 100000 in
theorem c_X0_keep (l : Launch) (g : Gm) (L : List Nat) {A : Nat → Prop} (hL : kL L A) (G : Nat → va_E) (ad : Nat → Nat) (x : XS) (hX : vX g L G ad x) (w : XS) (hF : F_X0_keep x = some w) : Met l yX0_keep wsX0_keep ({ frames := 2, cells := 0, slots := 0, locals := 44 } : Room) (va_Pc [.ref (ad 1)] (kB g L A G)) (va_Qv (fun G9 : Nat → va_E => (vX g L G9 ad w)) (kE g L) A) 0 0 A := by
  refine Met.ofW (cc := cX0_keep) (maxL := 1) (ret := none) (by decide) rfl ?_
  intro p e s m args below meth c s₁ B hml hv
  obtain ⟨rfl, hP, hC⟩ := hv
  have hx := B.exec
  have hb := B.bytes
  have hr := B.returns
  have hts := atoms_spec (ws := wsX0_keep) B.pre
  have hown : s.vm.findClass RX0 = some m.cls := findClass_of_methodNamed B.named
  have hlk := B.notSynchronized
  have hS : va_S A s.heap s.heap [] := va_S.rf
  have hl := lv_entry ([.ref (ad 1)]) (n := 1) (Nat.le_of_ble_eq_true rfl)
  rw [lg_entry_eq]
  generalize (lg_sl ([.ref (ad 1)]) ++ List.replicate (1 - (lg_sl ([.ref (ad 1)])).length) Slot.unset).toArray = ls at hl ⊢
  have hl : lv_has ls 1 [(0, .ref (ad 1))] := hl
  have hN := hF
  unfold F_X0_keep at hN
  refine lv_aload_n hx hb dX0_keep_0 rfl (lv_at hl 0 rfl) ?_
  refine k_get (C := RX0) (T := TX0) (N := 2) (ci := 0) (v := .int x.2.2.2.1) hx hb hts (fun _ h => List.mem_cons_of_mem _ (List.mem_append_right _ h)) hown hC hP (hX.m 1 (by omega)) hX.o1 rfl 1 (by decide) (hts (.fieldLink RX0 17 "OrderedClauses$History" "kept" "I") (List.mem_of_getElem? (i := 1) rfl)) rfl dX0_keep_1 ?_
  refine lv_iconst (v := 4) hx hb dX0_keep_4 (by decide) ?_
  refine lv_icmp_ge (tgt := 21) hx hb dX0_keep_5 (by decide) (fun c1 => ?_) (fun c1 => ?_)
  · rw [if_pos c1] at hN
    refine lv_aload_n hx hb dX0_keep_21 rfl (lv_at hl 0 rfl) ?_
    obtain ⟨w3, hw3, hN⟩ := oB_spec hN
    refine k_v hS (va_runV (As := []) (rest := []) ⟨hx, hb, hml, hown, hts⟩ (c_X0_dropOldest l g L hL G ad (x.1, x.2.1, x.2.2.1, x.2.2.2.1, x.2.2.2.2) hX w3 hw3) (cwV 0 hts gX0_keep_X0_dropOldest rfl rfl rfl (by decide +kernel) ⟨Nat.le_of_ble_eq_true rfl, Nat.le_of_ble_eq_true rfl⟩) (k_preV (C := RX0) (T := TX0) (N := 2) hC hS hP (hX.m 1 (by omega)) hX.o1 rfl) rfl rfl hl.1 rfl (lv_room (Nat.le_of_ble_eq_true rfl)) dX0_keep_22 ⟨Nat.zero_le _, Nat.zero_le _⟩) (fun G4 H locs hq hP hS => ?_)
    have hX := hq
    have hE := Option.some.inj hN
    exact k_vretW hx hb hr (hE ▸ hX) hP hS hlk dX0_keep_25
  · rw [if_neg c1] at hN
    refine lv_aload_n hx hb dX0_keep_8 rfl (lv_at hl 0 rfl) ?_
    refine lv_dup hx hb dX0_keep_9 rfl ?_
    refine k_get (C := RX0) (T := TX0) (N := 2) (ci := 0) (v := .int x.2.2.2.1) hx hb hts (fun _ h => List.mem_cons_of_mem _ (List.mem_append_right _ h)) hown hC hP (hX.m 1 (by omega)) hX.o1 rfl 1 (by decide) (hts (.fieldLink RX0 17 "OrderedClauses$History" "kept" "I") (List.mem_of_getElem? (i := 1) rfl)) rfl dX0_keep_10 ?_
    refine lv_iconst (v := 1) hx hb dX0_keep_13 (by decide) ?_
    refine lv_iadd hx hb dX0_keep_14 ?_
    refine k_putE (C := RX0) (T := TX0) (N := 2) (ci := 0) hx hb hts (fun _ h => List.mem_cons_of_mem _ (List.mem_append_right _ h)) tyX0 tyX0_ok nmX0 hown hL hC hP hS (hX.m 1 (by omega)) hX.o1 rfl 1 (by decide) (hts (.fieldLink RX0 17 "OrderedClauses$History" "kept" "I") (List.mem_of_getElem? (i := 1) rfl)) (by decide +kernel) (by decide +kernel) (Nat.le_of_ble_eq_true rfl) dX0_keep_15 (fun G5 H locs hq hP hS => ?_)
    have hX : vX g L G5 ad (x.1, x.2.1, x.2.2.1, (x.2.2.2.1 + (1 : Int32)), x.2.2.2.2) := by rw [hq]; exact vX.upK (M := x.1) (C := x.2.1) (pi := x.2.2.1) (k := x.2.2.2.1) (T := x.2.2.2.2) hX
    refine lv_goto (tgt := 25) hx hb dX0_keep_18 (by decide) ?_
    have hE := Option.some.inj hN
    exact k_vretW hx hb hr (hE ▸ hX) hP hS hlk dX0_keep_25
set_option maxHeartbeats 4000000 in
set_option maxRecDepth 100000 in
theorem c_X0_restoreLatest (l : Launch) (g : Gm) (L : List Nat) {A : Nat → Prop} (hL : kL L A) (G : Nat → va_E) (ad : Nat → Nat) (x : XS) (hX : vX g L G ad x) (v : Int32) (w : XS) (hF : F_X0_restoreLatest x = some (v, w)) : Met l yX0_restoreLatest wsX0_restoreLatest ({ frames := 3, cells := 0, slots := 0, locals := 106 } : Room) (va_Pc [.ref (ad 1), .ref (sA ad 5)] (kB g L A G)) (va_Qi (fun x9 (G9 : Nat → va_E) => x9 = v ∧ (vX g L G9 ad w)) (kE g L) A) 0 0 A := by
  refine Met.ofW (cc := cX0_restoreLatest) (maxL := 2) (ret := (some .boolean)) (by decide) rfl ?_
  intro p e s m args below meth c s₁ B hml hv
  obtain ⟨rfl, hP, hC⟩ := hv
  have hx := B.exec
  have hb := B.bytes
  have hr := B.returns
  have hts := atoms_spec (ws := wsX0_restoreLatest) B.pre
  have hown : s.vm.findClass RX0 = some m.cls := findClass_of_methodNamed B.named
  have hlk := B.notSynchronized
  have hS : va_S A s.heap s.heap [] := va_S.rf
  have hl := lv_entry ([.ref (ad 1), .ref (sA ad 5)]) (n := 2) (Nat.le_of_ble_eq_true rfl)
  rw [lg_entry_eq]
  generalize (lg_sl ([.ref (ad 1), .ref (sA ad 5)]) ++ List.replicate (2 - (lg_sl ([.ref (ad 1), .ref (sA ad 5)])).length) Slot.unset).toArray = ls at hl ⊢
  have hl : lv_has ls 2 [(0, .ref (ad 1)), (1, .ref (sA ad 5))] := hl
  have hN := hF
  unfold F_X0_restoreLatest at hN
  refine lv_aload_n hx hb dX0_restoreLatest_0 rfl (lv_at hl 0 rfl) ?_
  refine k_get (C := RX0) (T := TX0) (N := 2) (ci := 0) (v := .int x.2.2.2.1) hx hb hts (fun _ h => List.mem_cons_of_mem _ (List.mem_append_left _ (List.mem_append_right _ h))) hown hC hP (hX.m 1 (by omega)) hX.o1 rfl 1 (by decide) (hts (.fieldLink RX0 17 "OrderedClauses$History" "kept" "I") (List.mem_of_getElem? (i := 1) rfl)) rfl dX0_restoreLatest_1 ?_
  refine lv_if_gt (tgt := 9) hx hb dX0_restoreLatest_4 (by decide) (fun c1 => ?_) (fun c1 => ?_)
  · rw [if_pos c1] at hN
    refine lv_aload_n hx hb dX0_restoreLatest_9 rfl (lv_at hl 0 rfl) ?_
    refine lv_dup hx hb dX0_restoreLatest_10 rfl ?_
    refine k_get (C := RX0) (T := TX0) (N := 2) (ci := 0) (v := .int x.2.2.2.1) hx hb hts (fun _ h => List.mem_cons_of_mem _ (List.mem_append_left _ (List.mem_append_right _ h))) hown hC hP (hX.m 1 (by omega)) hX.o1 rfl 1 (by decide) (hts (.fieldLink RX0 17 "OrderedClauses$History" "kept" "I") (List.mem_of_getElem? (i := 1) rfl)) rfl dX0_restoreLatest_11 ?_
    refine lv_iconst (v := 1) hx hb dX0_restoreLatest_14 (by decide) ?_
    refine lv_isub hx hb dX0_restoreLatest_15 ?_
    refine k_putE (C := RX0) (T := TX0) (N := 2) (ci := 0) hx hb hts (fun _ h => List.mem_cons_of_mem _ (List.mem_append_left _ (List.mem_append_right _ h))) tyX0 tyX0_ok nmX0 hown hL hC hP hS (hX.m 1 (by omega)) hX.o1 rfl 1 (by decide) (hts (.fieldLink RX0 17 "OrderedClauses$History" "kept" "I") (List.mem_of_getElem? (i := 1) rfl)) (by decide +kernel) (by decide +kernel) (Nat.le_of_ble_eq_true rfl) dX0_restoreLatest_16 (fun G2 H locs hq hP hS => ?_)
    have hX : vX g L G2 ad (x.1, x.2.1, x.2.2.1, (x.2.2.2.1 - (1 : Int32)), x.2.2.2.2) := by rw [hq]; exact vX.upK (M := x.1) (C := x.2.1) (pi := x.2.2.1) (k := x.2.2.2.1) (T := x.2.2.2.2) hX
    refine lv_aload_n hx hb dX0_restoreLatest_19 rfl (lv_at hl 1 rfl) ?_
    refine lv_aload_n hx hb dX0_restoreLatest_20 rfl (lv_at hl 0 rfl) ?_
    refine lv_aload_n hx hb dX0_restoreLatest_21 rfl (lv_at hl 0 rfl) ?_
    refine k_get (C := RX0) (T := TX0) (N := 2) (ci := 0) (v := .int (x.2.2.2.1 - (1 : Int32))) hx hb hts (fun _ h => List.mem_cons_of_mem _ (List.mem_append_left _ (List.mem_append_right _ h))) hown hC hP (hX.m 1 (by omega)) hX.o1 rfl 1 (by decide) (hts (.fieldLink RX0 17 "OrderedClauses$History" "kept" "I") (List.mem_of_getElem? (i := 1) rfl)) rfl dX0_restoreLatest_22 ?_
    obtain ⟨v3, hv3, hN⟩ := oB_spec hN
    refine k_qR hS (va_runV (As := [.int (x.2.2.2.1 - (1 : Int32))]) (rest := [.ref (sA ad 5)]) ⟨hx, hb, hml, hown, hts⟩ (c_X0_stateAt l g L hL G2 ad (x.1, x.2.1, x.2.2.1, (x.2.2.2.1 - (1 : Int32)), x.2.2.2.2) hX (x.2.2.2.1 - (1 : Int32)) v3 hv3) (cwV 1 hts gX0_restoreLatest_X0_stateAt rfl rfl rfl (by decide +kernel) ⟨Nat.le_of_ble_eq_true rfl, Nat.le_of_ble_eq_true rfl⟩) (k_preV (C := RX0) (T := TX0) (N := 2) hC hS hP (hX.m 1 (by omega)) hX.o1 rfl) rfl rfl hl.1 rfl (lv_room (Nat.le_of_ble_eq_true rfl)) dX0_restoreLatest_25 ⟨Nat.zero_le _, Nat.zero_le _⟩) (fun H locs hP hS => ?_)
    rcases v3 with _ | p5
    · exact absurd hN (by simp [oM])
    · obtain ⟨hp5, hN⟩ := oM_some hN
      obtain ⟨w7, hw7, hN⟩ := oB_spec hN
      refine k_v hS (va_runVN (As := [.ref (sA ad p5)]) (rest := []) ⟨hx, hb, hml, hown, hts⟩ (c_X1_copyFrom l g L hL G2 (sA ad 5) (sR ad 5) x.1 hX.sm (sA ad p5) (sR ad p5) (x.2.1 p5) (hX.sc hp5) (hX.apM hp5) w7 hw7) ⟨va_cnB 1 hts gX0_restoreLatest_X1_copyFrom_n26 rfl rfl rfl (hC.2.1.2 (RX0, 26, yX1_copyFrom, RX3) (List.mem_of_getElem? (i := 9) rfl)) (hts (.initialized RX1) (List.mem_of_getElem? (i := 9) rfl)) (by decide +kernel) ⟨Nat.le_of_ble_eq_true rfl, Nat.le_of_ble_eq_true rfl⟩, (hts (.instanceMethod yX1_copyFrom) (List.mem_of_getElem? (i := 8) rfl)), (hts (.selects RX1 yX1_copyFrom yX1_copyFrom) (List.mem_of_getElem? (i := 10) rfl))⟩ (k_preV (C := RX1) (T := TX1) (N := 13) hC hS hP (vO.m hX.sm) (vO.o hX.sm) rfl) rfl rfl hl.1 rfl (lv_room (Nat.le_of_ble_eq_true rfl)) dX0_restoreLatest_28 ⟨Nat.zero_le _, Nat.zero_le _⟩) (fun G8 H locs hq hP hS => ?_)
      obtain ⟨hV1, hf1⟩ := hq
      have hX : vX g L G8 ad (w7, x.2.1, x.2.2.1, (x.2.2.2.1 - (1 : Int32)), x.2.2.2.2) := vX.upM hX hV1 hf1
      refine lv_iconst (v := 1) hx hb dX0_restoreLatest_31 (by decide) ?_
      obtain ⟨hE, hE2⟩ := spair hN
      exact k_zretW hx hb hr (by decide) hE (hE2 ▸ hX) hP hS hlk dX0_restoreLatest_32
  · rw [if_neg c1] at hN
    refine lv_iconst (v := 0) hx hb dX0_restoreLatest_7 (by decide) ?_
    obtain ⟨hE, hE2⟩ := spair hN
    exact k_zretW hx hb hr (by decide) hE (hE2 ▸ hX) hP hS hlk dX0_restoreLatest_8
