/-! Each method meets its partial function: printed by program (wip/p25/gen.py) -/
set_option maxHeartbeats 4000000 in
set_option maxRecDepth 100000 in
theorem c_X1_copyFrom (l : Launch) (g : Gm) (L : List Nat) {A : Nat → Prop} (hL : kL L A) (G : Nat → va_E) (h0 : Nat) (r : Nat → Nat) (u : St) (hV : vS g L G h0 r u) (h1 : Nat) (r1 : Nat → Nat) (v : St) (hV1 : vS g L G h1 r1 v) (hap : ∀ q, ownS h1 r1 8 q → ¬ ownS h0 r 8 q) (w : St) (hF : F_X1_copyFrom u v = some w) : Met l yX1_copyFrom wsX1_copyFrom ({ frames := 2, cells := 0, slots := 0, locals := 85 } : Room) (va_Pc [.ref h0, .ref h1] (kB g L A G)) (va_Qv (fun G9 : Nat → va_E => (vS g L G9 h0 r w ∧ frS h0 r 8 G G9)) (kE g L) A) 0 0 A := by
  refine Met.ofW (cc := cX1_copyFrom) (maxL := 2) (ret := none) (by decide) rfl ?_
  intro p e s m args below meth c s₁ B hml hv
  obtain ⟨rfl, hP, hC⟩ := hv
  have hx := B.exec
  have hb := B.bytes
  have hr := B.returns
  have hts := atoms_spec (ws := wsX1_copyFrom) B.pre
  have hown : s.vm.findClass RX1 = some m.cls := findClass_of_methodNamed B.named
  have hlk := B.notSynchronized
  have hS : va_S A s.heap s.heap [] := va_S.rf
  have hV0 := hV
  have hfr : frS h0 r 8 G G := frS.rf
  have hV10 := hV1
  have hl := lv_entry ([.ref h0, .ref h1]) (n := 2) (Nat.le_of_ble_eq_true rfl)
  rw [lg_entry_eq]
  generalize (lg_sl ([.ref h0, .ref h1]) ++ List.replicate (2 - (lg_sl ([.ref h0, .ref h1])).length) Slot.unset).toArray = ls at hl ⊢
  have hl : lv_has ls 2 [(0, .ref h0), (1, .ref h1)] := hl
  have hN := hF
  unfold F_X1_copyFrom at hN
  refine lv_aload_n hx hb dX1_copyFrom_0 rfl (lv_at hl 1 rfl) ?_
  refine lv_ifnonnull (tgt := 5) hx hb dX1_copyFrom_1 (by decide) ?_
  refine lv_aload_n hx hb dX1_copyFrom_5 rfl (lv_at hl 1 rfl) ?_
  refine k_get (C := RX1) (T := TX1) (N := 13) (ci := 1) (v := .ref (r1 0)) hx hb hts (fun _ h => List.mem_cons_of_mem _ (List.mem_append_right _ h)) hown hC hP (vO.m hV1) (vO.o hV1) rfl 0 (by decide) (hts (.fieldLink RX1 9 "OrderedClauses$Store" "atomOfRank" "[I") (List.mem_of_getElem? (i := 1) rfl)) rfl dX1_copyFrom_6 ?_
  refine lv_aload_n hx hb dX1_copyFrom_9 rfl (lv_at hl 0 rfl) ?_
  refine k_get (C := RX1) (T := TX1) (N := 13) (ci := 1) (v := .ref (r 0)) hx hb hts (fun _ h => List.mem_cons_of_mem _ (List.mem_append_right _ h)) hown hC hP (vO.m hV) (vO.o hV) rfl 0 (by decide) (hts (.fieldLink RX1 9 "OrderedClauses$Store" "atomOfRank" "[I") (List.mem_of_getElem? (i := 1) rfl)) rfl dX1_copyFrom_10 ?_
  obtain ⟨w2, hw2, hN⟩ := oB_spec hN
  refine k_v hS (va_runSN (As := [.ref (r1 0), .ref (r 0)]) (rest := []) ⟨hx, hb, hml, hown, hts⟩ (c_X3_copyRow l g L hL G (r1 0) (v.1 0) (lnS 0) (vO.rm hV1 0 (by decide)) (vO.ri hV1 0 (by decide)) (r 0) (u.1 0) (lnS 0) (vO.rm hV 0 (by decide)) (vO.ri hV 0 (by decide)) w2 hw2) ⟨va_cnB 2 hts gX1_copyFrom_X3_copyRow_n57 rfl rfl rfl (hC.2.1.2 (RX1, 57, yX3_copyRow, RX3) (List.mem_of_getElem? (i := 10) rfl)) (hts (.initialized RX3) (List.mem_of_getElem? (i := 15) rfl)) (by decide +kernel) ⟨Nat.le_of_ble_eq_true rfl, Nat.le_of_ble_eq_true rfl⟩, (hts (.static yX3_copyRow) (List.mem_of_getElem? (i := 14) rfl)), trivial⟩ (k_pre hC hS hP) rfl rfl hl.1 rfl (lv_room (Nat.le_of_ble_eq_true rfl)) dX1_copyFrom_13 ⟨Nat.zero_le _, Nat.zero_le _⟩) (fun G3 H locs hq hP hS => ?_)
  have hV : vS g L G3 h0 r ((va_up u.1 0 w2), u.2.1, u.2.2) := by rw [hq]; exact vO.setI (f := u.1) (gg := u.2.1) (k := u.2.2) hV (by decide) 0 (by decide) _
  have hfr : frS h0 r 8 G G3 := by rw [hq]; exact vO.frI hfr 0 (by decide) _
  have hV1 : vS g L G3 h1 r1 v := vO.keep hV10 (by decide) (fun q hq9 => hfr q (hap q hq9))
  refine lv_aload_n hx hb dX1_copyFrom_16 rfl (lv_at hl 1 rfl) ?_
  refine k_get (C := RX1) (T := TX1) (N := 13) (ci := 1) (v := .ref (r1 1)) hx hb hts (fun _ h => List.mem_cons_of_mem _ (List.mem_append_right _ h)) hown hC hP (vO.m hV1) (vO.o hV1) rfl 1 (by decide) (hts (.fieldLink RX1 15 "OrderedClauses$Store" "literals" "[I") (List.mem_of_getElem? (i := 2) rfl)) rfl dX1_copyFrom_17 ?_
  refine lv_aload_n hx hb dX1_copyFrom_20 rfl (lv_at hl 0 rfl) ?_
  refine k_get (C := RX1) (T := TX1) (N := 13) (ci := 1) (v := .ref (r 1)) hx hb hts (fun _ h => List.mem_cons_of_mem _ (List.mem_append_right _ h)) hown hC hP (vO.m hV) (vO.o hV) rfl 1 (by decide) (hts (.fieldLink RX1 15 "OrderedClauses$Store" "literals" "[I") (List.mem_of_getElem? (i := 2) rfl)) rfl dX1_copyFrom_21 ?_
  obtain ⟨w5, hw5, hN⟩ := oB_spec hN
  refine k_v hS (va_runSN (As := [.ref (r1 1), .ref (r 1)]) (rest := []) ⟨hx, hb, hml, hown, hts⟩ (c_X3_copyRow l g L hL G3 (r1 1) (v.1 1) (lnS 1) (vO.rm hV1 1 (by decide)) (vO.ri hV1 1 (by decide)) (r 1) ((va_up u.1 0 w2) 1) (lnS 1) (vO.rm hV 1 (by decide)) (vO.ri hV 1 (by decide)) w5 hw5) ⟨va_cnB 2 hts gX1_copyFrom_X3_copyRow_n57 rfl rfl rfl (hC.2.1.2 (RX1, 57, yX3_copyRow, RX3) (List.mem_of_getElem? (i := 10) rfl)) (hts (.initialized RX3) (List.mem_of_getElem? (i := 15) rfl)) (by decide +kernel) ⟨Nat.le_of_ble_eq_true rfl, Nat.le_of_ble_eq_true rfl⟩, (hts (.static yX3_copyRow) (List.mem_of_getElem? (i := 14) rfl)), trivial⟩ (k_pre hC hS hP) rfl rfl hl.1 rfl (lv_room (Nat.le_of_ble_eq_true rfl)) dX1_copyFrom_24 ⟨Nat.zero_le _, Nat.zero_le _⟩) (fun G6 H locs hq hP hS => ?_)
  have hV : vS g L G6 h0 r ((va_up (va_up u.1 0 w2) 1 w5), u.2.1, u.2.2) := by rw [hq]; exact vO.setI (f := (va_up u.1 0 w2)) (gg := u.2.1) (k := u.2.2) hV (by decide) 1 (by decide) _
  have hfr : frS h0 r 8 G G6 := by rw [hq]; exact vO.frI hfr 1 (by decide) _
  have hV1 : vS g L G6 h1 r1 v := vO.keep hV10 (by decide) (fun q hq9 => hfr q (hap q hq9))
  refine lv_aload_n hx hb dX1_copyFrom_27 rfl (lv_at hl 1 rfl) ?_
  refine k_get (C := RX1) (T := TX1) (N := 13) (ci := 1) (v := .ref (r1 2)) hx hb hts (fun _ h => List.mem_cons_of_mem _ (List.mem_append_right _ h)) hown hC hP (vO.m hV1) (vO.o hV1) rfl 2 (by decide) (hts (.fieldLink RX1 18 "OrderedClauses$Store" "status" "[I") (List.mem_of_getElem? (i := 3) rfl)) rfl dX1_copyFrom_28 ?_
  refine lv_aload_n hx hb dX1_copyFrom_31 rfl (lv_at hl 0 rfl) ?_
  refine k_get (C := RX1) (T := TX1) (N := 13) (ci := 1) (v := .ref (r 2)) hx hb hts (fun _ h => List.mem_cons_of_mem _ (List.mem_append_right _ h)) hown hC hP (vO.m hV) (vO.o hV) rfl 2 (by decide) (hts (.fieldLink RX1 18 "OrderedClauses$Store" "status" "[I") (List.mem_of_getElem? (i := 3) rfl)) rfl dX1_copyFrom_32 ?_
  obtain ⟨w8, hw8, hN⟩ := oB_spec hN
  refine k_v hS (va_runSN (As := [.ref (r1 2), .ref (r 2)]) (rest := []) ⟨hx, hb, hml, hown, hts⟩ (c_X3_copyRow l g L hL G6 (r1 2) (v.1 2) (lnS 2) (vO.rm hV1 2 (by decide)) (vO.ri hV1 2 (by decide)) (r 2) ((va_up (va_up u.1 0 w2) 1 w5) 2) (lnS 2) (vO.rm hV 2 (by decide)) (vO.ri hV 2 (by decide)) w8 hw8) ⟨va_cnB 2 hts gX1_copyFrom_X3_copyRow_n57 rfl rfl rfl (hC.2.1.2 (RX1, 57, yX3_copyRow, RX3) (List.mem_of_getElem? (i := 10) rfl)) (hts (.initialized RX3) (List.mem_of_getElem? (i := 15) rfl)) (by decide +kernel) ⟨Nat.le_of_ble_eq_true rfl, Nat.le_of_ble_eq_true rfl⟩, (hts (.static yX3_copyRow) (List.mem_of_getElem? (i := 14) rfl)), trivial⟩ (k_pre hC hS hP) rfl rfl hl.1 rfl (lv_room (Nat.le_of_ble_eq_true rfl)) dX1_copyFrom_35 ⟨Nat.zero_le _, Nat.zero_le _⟩) (fun G9 H locs hq hP hS => ?_)
  have hV : vS g L G9 h0 r ((va_up (va_up (va_up u.1 0 w2) 1 w5) 2 w8), u.2.1, u.2.2) := by rw [hq]; exact vO.setI (f := (va_up (va_up u.1 0 w2) 1 w5)) (gg := u.2.1) (k := u.2.2) hV (by decide) 2 (by decide) _
  have hfr : frS h0 r 8 G G9 := by rw [hq]; exact vO.frI hfr 2 (by decide) _
  have hV1 : vS g L G9 h1 r1 v := vO.keep hV10 (by decide) (fun q hq9 => hfr q (hap q hq9))
  refine lv_aload_n hx hb dX1_copyFrom_38 rfl (lv_at hl 1 rfl) ?_
  refine k_get (C := RX1) (T := TX1) (N := 13) (ci := 1) (v := .ref (r1 3)) hx hb hts (fun _ h => List.mem_cons_of_mem _ (List.mem_append_right _ h)) hown hC hP (vO.m hV1) (vO.o hV1) rfl 3 (by decide) (hts (.fieldLink RX1 21 "OrderedClauses$Store" "holdingParent" "[I") (List.mem_of_getElem? (i := 4) rfl)) rfl dX1_copyFrom_39 ?_
  refine lv_aload_n hx hb dX1_copyFrom_42 rfl (lv_at hl 0 rfl) ?_
  refine k_get (C := RX1) (T := TX1) (N := 13) (ci := 1) (v := .ref (r 3)) hx hb hts (fun _ h => List.mem_cons_of_mem _ (List.mem_append_right _ h)) hown hC hP (vO.m hV) (vO.o hV) rfl 3 (by decide) (hts (.fieldLink RX1 21 "OrderedClauses$Store" "holdingParent" "[I") (List.mem_of_getElem? (i := 4) rfl)) rfl dX1_copyFrom_43 ?_
  obtain ⟨w11, hw11, hN⟩ := oB_spec hN
  refine k_v hS (va_runSN (As := [.ref (r1 3), .ref (r 3)]) (rest := []) ⟨hx, hb, hml, hown, hts⟩ (c_X3_copyRow l g L hL G9 (r1 3) (v.1 3) (lnS 3) (vO.rm hV1 3 (by decide)) (vO.ri hV1 3 (by decide)) (r 3) ((va_up (va_up (va_up u.1 0 w2) 1 w5) 2 w8) 3) (lnS 3) (vO.rm hV 3 (by decide)) (vO.ri hV 3 (by decide)) w11 hw11) ⟨va_cnB 2 hts gX1_copyFrom_X3_copyRow_n57 rfl rfl rfl (hC.2.1.2 (RX1, 57, yX3_copyRow, RX3) (List.mem_of_getElem? (i := 10) rfl)) (hts (.initialized RX3) (List.mem_of_getElem? (i := 15) rfl)) (by decide +kernel) ⟨Nat.le_of_ble_eq_true rfl, Nat.le_of_ble_eq_true rfl⟩, (hts (.static yX3_copyRow) (List.mem_of_getElem? (i := 14) rfl)), trivial⟩ (k_pre hC hS hP) rfl rfl hl.1 rfl (lv_room (Nat.le_of_ble_eq_true rfl)) dX1_copyFrom_46 ⟨Nat.zero_le _, Nat.zero_le _⟩) (fun G12 H locs hq hP hS => ?_)
  have hV : vS g L G12 h0 r ((va_up (va_up (va_up (va_up u.1 0 w2) 1 w5) 2 w8) 3 w11), u.2.1, u.2.2) := by rw [hq]; exact vO.setI (f := (va_up (va_up (va_up u.1 0 w2) 1 w5) 2 w8)) (gg := u.2.1) (k := u.2.2) hV (by decide) 3 (by decide) _
  have hfr : frS h0 r 8 G G12 := by rw [hq]; exact vO.frI hfr 3 (by decide) _
  have hV1 : vS g L G12 h1 r1 v := vO.keep hV10 (by decide) (fun q hq9 => hfr q (hap q hq9))
  refine lv_aload_n hx hb dX1_copyFrom_49 rfl (lv_at hl 1 rfl) ?_
  refine k_get (C := RX1) (T := TX1) (N := 13) (ci := 1) (v := .ref (r1 4)) hx hb hts (fun _ h => List.mem_cons_of_mem _ (List.mem_append_right _ h)) hown hC hP (vO.m hV1) (vO.o hV1) rfl 4 (by decide) (hts (.fieldLink RX1 24 "OrderedClauses$Store" "otherParent" "[I") (List.mem_of_getElem? (i := 5) rfl)) rfl dX1_copyFrom_50 ?_
  refine lv_aload_n hx hb dX1_copyFrom_53 rfl (lv_at hl 0 rfl) ?_
  refine k_get (C := RX1) (T := TX1) (N := 13) (ci := 1) (v := .ref (r 4)) hx hb hts (fun _ h => List.mem_cons_of_mem _ (List.mem_append_right _ h)) hown hC hP (vO.m hV) (vO.o hV) rfl 4 (by decide) (hts (.fieldLink RX1 24 "OrderedClauses$Store" "otherParent" "[I") (List.mem_of_getElem? (i := 5) rfl)) rfl dX1_copyFrom_54 ?_
  obtain ⟨w14, hw14, hN⟩ := oB_spec hN
  refine k_v hS (va_runSN (As := [.ref (r1 4), .ref (r 4)]) (rest := []) ⟨hx, hb, hml, hown, hts⟩ (c_X3_copyRow l g L hL G12 (r1 4) (v.1 4) (lnS 4) (vO.rm hV1 4 (by decide)) (vO.ri hV1 4 (by decide)) (r 4) ((va_up (va_up (va_up (va_up u.1 0 w2) 1 w5) 2 w8) 3 w11) 4) (lnS 4) (vO.rm hV 4 (by decide)) (vO.ri hV 4 (by decide)) w14 hw14) ⟨va_cnB 2 hts gX1_copyFrom_X3_copyRow_n57 rfl rfl rfl (hC.2.1.2 (RX1, 57, yX3_copyRow, RX3) (List.mem_of_getElem? (i := 10) rfl)) (hts (.initialized RX3) (List.mem_of_getElem? (i := 15) rfl)) (by decide +kernel) ⟨Nat.le_of_ble_eq_true rfl, Nat.le_of_ble_eq_true rfl⟩, (hts (.static yX3_copyRow) (List.mem_of_getElem? (i := 14) rfl)), trivial⟩ (k_pre hC hS hP) rfl rfl hl.1 rfl (lv_room (Nat.le_of_ble_eq_true rfl)) dX1_copyFrom_57 ⟨Nat.zero_le _, Nat.zero_le _⟩) (fun G15 H locs hq hP hS => ?_)
  have hV : vS g L G15 h0 r ((va_up (va_up (va_up (va_up (va_up u.1 0 w2) 1 w5) 2 w8) 3 w11) 4 w14), u.2.1, u.2.2) := by rw [hq]; exact vO.setI (f := (va_up (va_up (va_up (va_up u.1 0 w2) 1 w5) 2 w8) 3 w11)) (gg := u.2.1) (k := u.2.2) hV (by decide) 4 (by decide) _
  have hfr : frS h0 r 8 G G15 := by rw [hq]; exact vO.frI hfr 4 (by decide) _
  have hV1 : vS g L G15 h1 r1 v := vO.keep hV10 (by decide) (fun q hq9 => hfr q (hap q hq9))
  refine lv_aload_n hx hb dX1_copyFrom_60 rfl (lv_at hl 1 rfl) ?_
  refine k_get (C := RX1) (T := TX1) (N := 13) (ci := 1) (v := .ref (r1 5)) hx hb hts (fun _ h => List.mem_cons_of_mem _ (List.mem_append_right _ h)) hown hC hP (vO.m hV1) (vO.o hV1) rfl 5 (by decide) (hts (.fieldLink RX1 27 "OrderedClauses$Store" "atomMadeBy" "[I") (List.mem_of_getElem? (i := 6) rfl)) rfl dX1_copyFrom_61 ?_
  refine lv_aload_n hx hb dX1_copyFrom_64 rfl (lv_at hl 0 rfl) ?_
  refine k_get (C := RX1) (T := TX1) (N := 13) (ci := 1) (v := .ref (r 5)) hx hb hts (fun _ h => List.mem_cons_of_mem _ (List.mem_append_right _ h)) hown hC hP (vO.m hV) (vO.o hV) rfl 5 (by decide) (hts (.fieldLink RX1 27 "OrderedClauses$Store" "atomMadeBy" "[I") (List.mem_of_getElem? (i := 6) rfl)) rfl dX1_copyFrom_65 ?_
  obtain ⟨w17, hw17, hN⟩ := oB_spec hN
  refine k_v hS (va_runSN (As := [.ref (r1 5), .ref (r 5)]) (rest := []) ⟨hx, hb, hml, hown, hts⟩ (c_X3_copyRow l g L hL G15 (r1 5) (v.1 5) (lnS 5) (vO.rm hV1 5 (by decide)) (vO.ri hV1 5 (by decide)) (r 5) ((va_up (va_up (va_up (va_up (va_up u.1 0 w2) 1 w5) 2 w8) 3 w11) 4 w14) 5) (lnS 5) (vO.rm hV 5 (by decide)) (vO.ri hV 5 (by decide)) w17 hw17) ⟨va_cnB 2 hts gX1_copyFrom_X3_copyRow_n57 rfl rfl rfl (hC.2.1.2 (RX1, 57, yX3_copyRow, RX3) (List.mem_of_getElem? (i := 10) rfl)) (hts (.initialized RX3) (List.mem_of_getElem? (i := 15) rfl)) (by decide +kernel) ⟨Nat.le_of_ble_eq_true rfl, Nat.le_of_ble_eq_true rfl⟩, (hts (.static yX3_copyRow) (List.mem_of_getElem? (i := 14) rfl)), trivial⟩ (k_pre hC hS hP) rfl rfl hl.1 rfl (lv_room (Nat.le_of_ble_eq_true rfl)) dX1_copyFrom_68 ⟨Nat.zero_le _, Nat.zero_le _⟩) (fun G18 H locs hq hP hS => ?_)
  have hV : vS g L G18 h0 r ((va_up (va_up (va_up (va_up (va_up (va_up u.1 0 w2) 1 w5) 2 w8) 3 w11) 4 w14) 5 w17), u.2.1, u.2.2) := by rw [hq]; exact vO.setI (f := (va_up (va_up (va_up (va_up (va_up u.1 0 w2) 1 w5) 2 w8) 3 w11) 4 w14)) (gg := u.2.1) (k := u.2.2) hV (by decide) 5 (by decide) _
  have hfr : frS h0 r 8 G G18 := by rw [hq]; exact vO.frI hfr 5 (by decide) _
  have hV1 : vS g L G18 h1 r1 v := vO.keep hV10 (by decide) (fun q hq9 => hfr q (hap q hq9))
  refine lv_aload_n hx hb dX1_copyFrom_71 rfl (lv_at hl 1 rfl) ?_
  refine k_get (C := RX1) (T := TX1) (N := 13) (ci := 1) (v := .ref (r1 6)) hx hb hts (fun _ h => List.mem_cons_of_mem _ (List.mem_append_right _ h)) hown hC hP (vO.m hV1) (vO.o hV1) rfl 6 (by decide) (hts (.fieldLink RX1 30 "OrderedClauses$Store" "depth" "[I") (List.mem_of_getElem? (i := 7) rfl)) rfl dX1_copyFrom_72 ?_
  refine lv_aload_n hx hb dX1_copyFrom_75 rfl (lv_at hl 0 rfl) ?_
  refine k_get (C := RX1) (T := TX1) (N := 13) (ci := 1) (v := .ref (r 6)) hx hb hts (fun _ h => List.mem_cons_of_mem _ (List.mem_append_right _ h)) hown hC hP (vO.m hV) (vO.o hV) rfl 6 (by decide) (hts (.fieldLink RX1 30 "OrderedClauses$Store" "depth" "[I") (List.mem_of_getElem? (i := 7) rfl)) rfl dX1_copyFrom_76 ?_
  obtain ⟨w20, hw20, hN⟩ := oB_spec hN
  refine k_v hS (va_runSN (As := [.ref (r1 6), .ref (r 6)]) (rest := []) ⟨hx, hb, hml, hown, hts⟩ (c_X3_copyRow l g L hL G18 (r1 6) (v.1 6) (lnS 6) (vO.rm hV1 6 (by decide)) (vO.ri hV1 6 (by decide)) (r 6) ((va_up (va_up (va_up (va_up (va_up (va_up u.1 0 w2) 1 w5) 2 w8) 3 w11) 4 w14) 5 w17) 6) (lnS 6) (vO.rm hV 6 (by decide)) (vO.ri hV 6 (by decide)) w20 hw20) ⟨va_cnB 2 hts gX1_copyFrom_X3_copyRow_n57 rfl rfl rfl (hC.2.1.2 (RX1, 57, yX3_copyRow, RX3) (List.mem_of_getElem? (i := 10) rfl)) (hts (.initialized RX3) (List.mem_of_getElem? (i := 15) rfl)) (by decide +kernel) ⟨Nat.le_of_ble_eq_true rfl, Nat.le_of_ble_eq_true rfl⟩, (hts (.static yX3_copyRow) (List.mem_of_getElem? (i := 14) rfl)), trivial⟩ (k_pre hC hS hP) rfl rfl hl.1 rfl (lv_room (Nat.le_of_ble_eq_true rfl)) dX1_copyFrom_79 ⟨Nat.zero_le _, Nat.zero_le _⟩) (fun G21 H locs hq hP hS => ?_)
  have hV : vS g L G21 h0 r ((va_up (va_up (va_up (va_up (va_up (va_up (va_up u.1 0 w2) 1 w5) 2 w8) 3 w11) 4 w14) 5 w17) 6 w20), u.2.1, u.2.2) := by rw [hq]; exact vO.setI (f := (va_up (va_up (va_up (va_up (va_up (va_up u.1 0 w2) 1 w5) 2 w8) 3 w11) 4 w14) 5 w17)) (gg := u.2.1) (k := u.2.2) hV (by decide) 6 (by decide) _
  have hfr : frS h0 r 8 G G21 := by rw [hq]; exact vO.frI hfr 6 (by decide) _
  have hV1 : vS g L G21 h1 r1 v := vO.keep hV10 (by decide) (fun q hq9 => hfr q (hap q hq9))
  refine lv_aload_n hx hb dX1_copyFrom_82 rfl (lv_at hl 1 rfl) ?_
  refine k_get (C := RX1) (T := TX1) (N := 13) (ci := 1) (v := .ref (r1 7)) hx hb hts (fun _ h => List.mem_cons_of_mem _ (List.mem_append_right _ h)) hown hC hP (vO.m hV1) (vO.o hV1) rfl 7 (by decide) (hts (.fieldLink RX1 33 "OrderedClauses$Store" "fulfilledBy" "[J") (List.mem_of_getElem? (i := 8) rfl)) rfl dX1_copyFrom_83 ?_
  refine lv_aload_n hx hb dX1_copyFrom_86 rfl (lv_at hl 0 rfl) ?_
  refine k_get (C := RX1) (T := TX1) (N := 13) (ci := 1) (v := .ref (r 7)) hx hb hts (fun _ h => List.mem_cons_of_mem _ (List.mem_append_right _ h)) hown hC hP (vO.m hV) (vO.o hV) rfl 7 (by decide) (hts (.fieldLink RX1 33 "OrderedClauses$Store" "fulfilledBy" "[J") (List.mem_of_getElem? (i := 8) rfl)) rfl dX1_copyFrom_87 ?_
  obtain ⟨w23, hw23, hN⟩ := oB_spec hN
  refine k_v hS (va_runSN (As := [.ref (r1 7), .ref (r 7)]) (rest := []) ⟨hx, hb, hml, hown, hts⟩ (c_X3_copyLongRow l g L hL G21 (r1 7) v.2.1 (lnS 7) (vO.rm hV1 7 (by decide)) (vO.rl hV1 7 (by decide) (by decide)) (r 7) u.2.1 (lnS 7) (vO.rm hV 7 (by decide)) (vO.rl hV 7 (by decide) (by decide)) w23 hw23) ⟨va_cnB 2 hts gX1_copyFrom_X3_copyLongRow_n61 rfl rfl rfl (hC.2.1.2 (RX1, 61, yX3_copyLongRow, RX3) (List.mem_of_getElem? (i := 11) rfl)) (hts (.initialized RX3) (List.mem_of_getElem? (i := 15) rfl)) (by decide +kernel) ⟨Nat.le_of_ble_eq_true rfl, Nat.le_of_ble_eq_true rfl⟩, (hts (.static yX3_copyLongRow) (List.mem_of_getElem? (i := 25) rfl)), trivial⟩ (k_pre hC hS hP) rfl rfl hl.1 rfl (lv_room (Nat.le_of_ble_eq_true rfl)) dX1_copyFrom_90 ⟨Nat.zero_le _, Nat.zero_le _⟩) (fun G24 H locs hq hP hS => ?_)
  have hV : vS g L G24 h0 r ((va_up (va_up (va_up (va_up (va_up (va_up (va_up u.1 0 w2) 1 w5) 2 w8) 3 w11) 4 w14) 5 w17) 6 w20), w23, u.2.2) := by rw [hq]; exact vO.setL (f := (va_up (va_up (va_up (va_up (va_up (va_up (va_up u.1 0 w2) 1 w5) 2 w8) 3 w11) 4 w14) 5 w17) 6 w20)) (gg := u.2.1) (k := u.2.2) hV rfl _
  have hfr : frS h0 r 8 G G24 := by rw [hq]; exact vO.frI hfr 7 (by decide) _
  have hV1 : vS g L G24 h1 r1 v := vO.keep hV10 (by decide) (fun q hq9 => hfr q (hap q hq9))
  refine lv_aload_n hx hb dX1_copyFrom_93 rfl (lv_at hl 0 rfl) ?_
  refine lv_aload_n hx hb dX1_copyFrom_94 rfl (lv_at hl 1 rfl) ?_
  refine k_get (C := RX1) (T := TX1) (N := 13) (ci := 1) (v := .int (v.2.2 0)) hx hb hts (fun _ h => List.mem_cons_of_mem _ (List.mem_append_right _ h)) hown hC hP (vO.m hV1) (vO.o hV1) rfl 8 (by decide) (hts (.fieldLink RX1 37 "OrderedClauses$Store" "clauses" "I") (List.mem_of_getElem? (i := 9) rfl)) rfl dX1_copyFrom_95 ?_
  refine k_putE (C := RX1) (T := TX1) (N := 13) (ci := 1) hx hb hts (fun _ h => List.mem_cons_of_mem _ (List.mem_append_right _ h)) tyX1 tyX1_ok nmX1 hown hL hC hP hS (vO.m hV) (vO.o hV) rfl 8 (by decide) (hts (.fieldLink RX1 37 "OrderedClauses$Store" "clauses" "I") (List.mem_of_getElem? (i := 9) rfl)) (by decide +kernel) (by decide +kernel) (Nat.le_of_ble_eq_true rfl) dX1_copyFrom_98 (fun G25 H locs hq hP hS => ?_)
  have hV : vS g L G25 h0 r ((va_up (va_up (va_up (va_up (va_up (va_up (va_up u.1 0 w2) 1 w5) 2 w8) 3 w11) 4 w14) 5 w17) 6 w20), w23, (va_up u.2.2 0 (v.2.2 0))) := by rw [hq]; exact vO.setK (f := (va_up (va_up (va_up (va_up (va_up (va_up (va_up u.1 0 w2) 1 w5) 2 w8) 3 w11) 4 w14) 5 w17) 6 w20)) (gg := w23) (k := u.2.2) hV rfl
  have hfr : frS h0 r 8 G G25 := by rw [hq]; exact vO.frK hfr _
  have hV1 : vS g L G25 h1 r1 v := vO.keep hV10 (by decide) (fun q hq9 => hfr q (hap q hq9))
  refine lv_aload_n hx hb dX1_copyFrom_101 rfl (lv_at hl 0 rfl) ?_
  refine lv_aload_n hx hb dX1_copyFrom_102 rfl (lv_at hl 1 rfl) ?_
  refine k_get (C := RX1) (T := TX1) (N := 13) (ci := 1) (v := .int (v.2.2 1)) hx hb hts (fun _ h => List.mem_cons_of_mem _ (List.mem_append_right _ h)) hown hC hP (vO.m hV1) (vO.o hV1) rfl 9 (by decide) (hts (.fieldLink RX1 41 "OrderedClauses$Store" "steps" "I") (List.mem_of_getElem? (i := 10) rfl)) rfl dX1_copyFrom_103 ?_
  refine k_putE (C := RX1) (T := TX1) (N := 13) (ci := 1) hx hb hts (fun _ h => List.mem_cons_of_mem _ (List.mem_append_right _ h)) tyX1 tyX1_ok nmX1 hown hL hC hP hS (vO.m hV) (vO.o hV) rfl 9 (by decide) (hts (.fieldLink RX1 41 "OrderedClauses$Store" "steps" "I") (List.mem_of_getElem? (i := 10) rfl)) (by decide +kernel) (by decide +kernel) (Nat.le_of_ble_eq_true rfl) dX1_copyFrom_106 (fun G26 H locs hq hP hS => ?_)
  have hV : vS g L G26 h0 r ((va_up (va_up (va_up (va_up (va_up (va_up (va_up u.1 0 w2) 1 w5) 2 w8) 3 w11) 4 w14) 5 w17) 6 w20), w23, (va_up (va_up u.2.2 0 (v.2.2 0)) 1 (v.2.2 1))) := by rw [hq]; exact vO.setK (f := (va_up (va_up (va_up (va_up (va_up (va_up (va_up u.1 0 w2) 1 w5) 2 w8) 3 w11) 4 w14) 5 w17) 6 w20)) (gg := w23) (k := (va_up u.2.2 0 (v.2.2 0))) hV rfl
  have hfr : frS h0 r 8 G G26 := by rw [hq]; exact vO.frK hfr _
  have hV1 : vS g L G26 h1 r1 v := vO.keep hV10 (by decide) (fun q hq9 => hfr q (hap q hq9))
  refine lv_aload_n hx hb dX1_copyFrom_109 rfl (lv_at hl 0 rfl) ?_
  refine lv_aload_n hx hb dX1_copyFrom_110 rfl (lv_at hl 1 rfl) ?_
  refine k_get (C := RX1) (T := TX1) (N := 13) (ci := 1) (v := .int (v.2.2 2)) hx hb hts (fun _ h => List.mem_cons_of_mem _ (List.mem_append_right _ h)) hown hC hP (vO.m hV1) (vO.o hV1) rfl 10 (by decide) (hts (.fieldLink RX1 44 "OrderedClauses$Store" "setting" "I") (List.mem_of_getElem? (i := 11) rfl)) rfl dX1_copyFrom_111 ?_
  refine k_putE (C := RX1) (T := TX1) (N := 13) (ci := 1) hx hb hts (fun _ h => List.mem_cons_of_mem _ (List.mem_append_right _ h)) tyX1 tyX1_ok nmX1 hown hL hC hP hS (vO.m hV) (vO.o hV) rfl 10 (by decide) (hts (.fieldLink RX1 44 "OrderedClauses$Store" "setting" "I") (List.mem_of_getElem? (i := 11) rfl)) (by decide +kernel) (by decide +kernel) (Nat.le_of_ble_eq_true rfl) dX1_copyFrom_114 (fun G27 H locs hq hP hS => ?_)
  have hV : vS g L G27 h0 r ((va_up (va_up (va_up (va_up (va_up (va_up (va_up u.1 0 w2) 1 w5) 2 w8) 3 w11) 4 w14) 5 w17) 6 w20), w23, (va_up (va_up (va_up u.2.2 0 (v.2.2 0)) 1 (v.2.2 1)) 2 (v.2.2 2))) := by rw [hq]; exact vO.setK (f := (va_up (va_up (va_up (va_up (va_up (va_up (va_up u.1 0 w2) 1 w5) 2 w8) 3 w11) 4 w14) 5 w17) 6 w20)) (gg := w23) (k := (va_up (va_up u.2.2 0 (v.2.2 0)) 1 (v.2.2 1))) hV rfl
  have hfr : frS h0 r 8 G G27 := by rw [hq]; exact vO.frK hfr _
  have hV1 : vS g L G27 h1 r1 v := vO.keep hV10 (by decide) (fun q hq9 => hfr q (hap q hq9))
  refine lv_aload_n hx hb dX1_copyFrom_117 rfl (lv_at hl 0 rfl) ?_
  refine lv_aload_n hx hb dX1_copyFrom_118 rfl (lv_at hl 1 rfl) ?_
  refine k_get (C := RX1) (T := TX1) (N := 13) (ci := 1) (v := .int (v.2.2 3)) hx hb hts (fun _ h => List.mem_cons_of_mem _ (List.mem_append_right _ h)) hown hC hP (vO.m hV1) (vO.o hV1) rfl 11 (by decide) (hts (.fieldLink RX1 47 "OrderedClauses$Store" "heldAlways" "I") (List.mem_of_getElem? (i := 12) rfl)) rfl dX1_copyFrom_119 ?_
  refine k_putE (C := RX1) (T := TX1) (N := 13) (ci := 1) hx hb hts (fun _ h => List.mem_cons_of_mem _ (List.mem_append_right _ h)) tyX1 tyX1_ok nmX1 hown hL hC hP hS (vO.m hV) (vO.o hV) rfl 11 (by decide) (hts (.fieldLink RX1 47 "OrderedClauses$Store" "heldAlways" "I") (List.mem_of_getElem? (i := 12) rfl)) (by decide +kernel) (by decide +kernel) (Nat.le_of_ble_eq_true rfl) dX1_copyFrom_122 (fun G28 H locs hq hP hS => ?_)
  have hV : vS g L G28 h0 r ((va_up (va_up (va_up (va_up (va_up (va_up (va_up u.1 0 w2) 1 w5) 2 w8) 3 w11) 4 w14) 5 w17) 6 w20), w23, (va_up (va_up (va_up (va_up u.2.2 0 (v.2.2 0)) 1 (v.2.2 1)) 2 (v.2.2 2)) 3 (v.2.2 3))) := by rw [hq]; exact vO.setK (f := (va_up (va_up (va_up (va_up (va_up (va_up (va_up u.1 0 w2) 1 w5) 2 w8) 3 w11) 4 w14) 5 w17) 6 w20)) (gg := w23) (k := (va_up (va_up (va_up u.2.2 0 (v.2.2 0)) 1 (v.2.2 1)) 2 (v.2.2 2))) hV rfl
  have hfr : frS h0 r 8 G G28 := by rw [hq]; exact vO.frK hfr _
  have hV1 : vS g L G28 h1 r1 v := vO.keep hV10 (by decide) (fun q hq9 => hfr q (hap q hq9))
  refine lv_aload_n hx hb dX1_copyFrom_125 rfl (lv_at hl 0 rfl) ?_
  refine lv_aload_n hx hb dX1_copyFrom_126 rfl (lv_at hl 1 rfl) ?_
  refine k_get (C := RX1) (T := TX1) (N := 13) (ci := 1) (v := .int (v.2.2 4)) hx hb hts (fun _ h => List.mem_cons_of_mem _ (List.mem_append_right _ h)) hown hC hP (vO.m hV1) (vO.o hV1) rfl 12 (by decide) (hts (.fieldLink RX1 50 "OrderedClauses$Store" "hadAnotherWithin" "I") (List.mem_of_getElem? (i := 13) rfl)) rfl dX1_copyFrom_127 ?_
  refine k_putE (C := RX1) (T := TX1) (N := 13) (ci := 1) hx hb hts (fun _ h => List.mem_cons_of_mem _ (List.mem_append_right _ h)) tyX1 tyX1_ok nmX1 hown hL hC hP hS (vO.m hV) (vO.o hV) rfl 12 (by decide) (hts (.fieldLink RX1 50 "OrderedClauses$Store" "hadAnotherWithin" "I") (List.mem_of_getElem? (i := 13) rfl)) (by decide +kernel) (by decide +kernel) (Nat.le_of_ble_eq_true rfl) dX1_copyFrom_130 (fun G29 H locs hq hP hS => ?_)
  have hV : vS g L G29 h0 r ((va_up (va_up (va_up (va_up (va_up (va_up (va_up u.1 0 w2) 1 w5) 2 w8) 3 w11) 4 w14) 5 w17) 6 w20), w23, (va_up (va_up (va_up (va_up (va_up u.2.2 0 (v.2.2 0)) 1 (v.2.2 1)) 2 (v.2.2 2)) 3 (v.2.2 3)) 4 (v.2.2 4))) := by rw [hq]; exact vO.setK (f := (va_up (va_up (va_up (va_up (va_up (va_up (va_up u.1 0 w2) 1 w5) 2 w8) 3 w11) 4 w14) 5 w17) 6 w20)) (gg := w23) (k := (va_up (va_up (va_up (va_up u.2.2 0 (v.2.2 0)) 1 (v.2.2 1)) 2 (v.2.2 2)) 3 (v.2.2 3))) hV rfl
  have hfr : frS h0 r 8 G G29 := by rw [hq]; exact vO.frK hfr _
  have hV1 : vS g L G29 h1 r1 v := vO.keep hV10 (by decide) (fun q hq9 => hfr q (hap q hq9))
  have hE := Option.some.inj hN
  exact k_vretW hx hb hr ⟨hE ▸ hV, hfr⟩ hP hS hlk dX1_copyFrom_133
set_option maxHeartbeats 4000000 in
set_option maxRecDepth 100000 in
theorem c_X1_has (l : Launch) (g : Gm) (L : List Nat) {A : Nat → Prop} (hL : kL L A) (G : Nat → va_E) (h0 : Nat) (r : Nat → Nat) (u : St) (hV : vS g L G h0 r u) (p0 : Int32) (v : Int32) (hF : F_X1_has u p0 = some v) : Met l yX1_has wsX1_has ({ frames := 0, cells := 0, slots := 0, locals := 0 } : Room) (va_Pc [.ref h0, .int p0] (kB g L A G)) (va_Qi (fun x9 (G9 : Nat → va_E) => x9 = v ∧ G9 = G) (kE g L) A) 0 0 A := by
  refine Met.ofW (cc := cX1_has) (maxL := 2) (ret := (some .boolean)) (by decide) rfl ?_
  intro p e s m args below meth c s₁ B hml hv
  obtain ⟨rfl, hP, hC⟩ := hv
  have hx := B.exec
  have hb := B.bytes
  have hr := B.returns
  have hts := atoms_spec (ws := wsX1_has) B.pre
  have hown : s.vm.findClass RX1 = some m.cls := findClass_of_methodNamed B.named
  have hlk := B.notSynchronized
  have hS : va_S A s.heap s.heap [] := va_S.rf
  have hl := lv_entry ([.ref h0, .int p0]) (n := 2) (Nat.le_of_ble_eq_true rfl)
  rw [lg_entry_eq]
  generalize (lg_sl ([.ref h0, .int p0]) ++ List.replicate (2 - (lg_sl ([.ref h0, .int p0])).length) Slot.unset).toArray = ls at hl ⊢
  have hl : lv_has ls 2 [(0, .ref h0), (1, .int p0)] := hl
  have hN := hF
  unfold F_X1_has at hN
  refine lv_iload_n hx hb dX1_has_0 rfl (lv_at hl 1 rfl) ?_
  refine lv_if_lt (tgt := 16) hx hb dX1_has_1 (by decide) (fun c1 => ?_) (fun c1 => ?_)
  · rw [if_pos c1] at hN
    refine lv_iconst (v := 0) hx hb dX1_has_16 (by decide) ?_
    exact k_zretR hx hb hr (by decide) (Option.some.inj hN) hP hS hlk dX1_has_17
  · rw [if_neg c1] at hN
    refine lv_iload_n hx hb dX1_has_4 rfl (lv_at hl 1 rfl) ?_
    refine lv_aload_n hx hb dX1_has_5 rfl (lv_at hl 0 rfl) ?_
    refine k_get (C := RX1) (T := TX1) (N := 13) (ci := 1) (v := .int (u.2.2 0)) hx hb hts (fun _ h => List.mem_cons_of_mem _ (List.mem_append_right _ h)) hown hC hP (vO.m hV) (vO.o hV) rfl 8 (by decide) (hts (.fieldLink RX1 37 "OrderedClauses$Store" "clauses" "I") (List.mem_of_getElem? (i := 1) rfl)) rfl dX1_has_6 ?_
    refine lv_icmp_ge (tgt := 16) hx hb dX1_has_9 (by decide) (fun c2 => ?_) (fun c2 => ?_)
    · rw [if_pos c2] at hN
      refine lv_iconst (v := 0) hx hb dX1_has_16 (by decide) ?_
      exact k_zretR hx hb hr (by decide) (Option.some.inj hN) hP hS hlk dX1_has_17
    · rw [if_neg c2] at hN
      refine lv_iconst (v := 1) hx hb dX1_has_12 (by decide) ?_
      refine lv_goto (tgt := 17) hx hb dX1_has_13 (by decide) ?_
      exact k_zretR hx hb hr (by decide) (Option.some.inj hN) hP hS hlk dX1_has_17
set_option maxHeartbeats 4000000 in
set_option maxRecDepth 100000 in
theorem c_X1_isDropped (l : Launch) (g : Gm) (L : List Nat) {A : Nat → Prop} (hL : kL L A) (G : Nat → va_E) (h0 : Nat) (r : Nat → Nat) (u : St) (hV : vS g L G h0 r u) (p0 : Int32) (v : Int32) (hF : F_X1_isDropped u p0 = some v) : Met l yX1_isDropped wsX1_isDropped ({ frames := 1, cells := 0, slots := 0, locals := 21 } : Room) (va_Pc [.ref h0, .int p0] (kB g L A G)) (va_Qi (fun x9 (G9 : Nat → va_E) => x9 = v ∧ G9 = G) (kE g L) A) 0 0 A := by
  refine Met.ofW (cc := cX1_isDropped) (maxL := 2) (ret := (some .boolean)) (by decide) rfl ?_
  intro p e s m args below meth c s₁ B hml hv
  obtain ⟨rfl, hP, hC⟩ := hv
  have hx := B.exec
  have hb := B.bytes
  have hr := B.returns
  have hts := atoms_spec (ws := wsX1_isDropped) B.pre
  have hown : s.vm.findClass RX1 = some m.cls := findClass_of_methodNamed B.named
  have hlk := B.notSynchronized
  have hS : va_S A s.heap s.heap [] := va_S.rf
  have hl := lv_entry ([.ref h0, .int p0]) (n := 2) (Nat.le_of_ble_eq_true rfl)
  rw [lg_entry_eq]
  generalize (lg_sl ([.ref h0, .int p0]) ++ List.replicate (2 - (lg_sl ([.ref h0, .int p0])).length) Slot.unset).toArray = ls at hl ⊢
  have hl : lv_has ls 2 [(0, .ref h0), (1, .int p0)] := hl
  have hN := hF
  unfold F_X1_isDropped at hN
  refine lv_aload_n hx hb dX1_isDropped_0 rfl (lv_at hl 0 rfl) ?_
  refine k_get (C := RX1) (T := TX1) (N := 13) (ci := 1) (v := .ref (r 2)) hx hb hts (fun _ h => List.mem_cons_of_mem _ (List.mem_append_right _ h)) hown hC hP (vO.m hV) (vO.o hV) rfl 2 (by decide) (hts (.fieldLink RX1 18 "OrderedClauses$Store" "status" "[I") (List.mem_of_getElem? (i := 1) rfl)) rfl dX1_isDropped_1 ?_
  refine lv_iload_n hx hb dX1_isDropped_4 rfl (lv_at hl 1 rfl) ?_
  obtain ⟨v1, hv1, hN⟩ := oB_spec hN
  refine k_iR hS (va_runSN (As := [.ref (r 2), .int p0]) (rest := []) ⟨hx, hb, hml, hown, hts⟩ (c_X3_at l g L hL G (r 2) (u.1 2) (lnS 2) (vO.rm hV 2 (by decide)) (vO.ri hV 2 (by decide)) p0 v1 hv1) ⟨va_cnB 2 hts gX1_isDropped_X3_at_n65 rfl rfl rfl (hC.2.1.2 (RX1, 65, yX3_at, RX3) (List.mem_of_getElem? (i := 6) rfl)) (hts (.initialized RX3) (List.mem_of_getElem? (i := 3) rfl)) (by decide +kernel) ⟨Nat.le_of_ble_eq_true rfl, Nat.le_of_ble_eq_true rfl⟩, (hts (.static yX3_at) (List.mem_of_getElem? (i := 2) rfl)), trivial⟩ (k_pre hC hS hP) rfl rfl hl.1 rfl (lv_room (Nat.le_of_ble_eq_true rfl)) dX1_isDropped_5 ⟨Nat.zero_le _, Nat.zero_le _⟩) (fun H locs hP hS => ?_)
  refine lv_iconst (v := 2) hx hb dX1_isDropped_8 (by decide) ?_
  refine lv_icmp_ne (tgt := 16) hx hb dX1_isDropped_9 (by decide) (fun c3 => ?_) (fun c3 => ?_)
  · rw [if_neg c3] at hN
    refine lv_iconst (v := 0) hx hb dX1_isDropped_16 (by decide) ?_
    exact k_zretR hx hb hr (by decide) (Option.some.inj hN) hP hS hlk dX1_isDropped_17
  · rw [if_pos c3] at hN
    refine lv_iconst (v := 1) hx hb dX1_isDropped_12 (by decide) ?_
    refine lv_goto (tgt := 17) hx hb dX1_isDropped_13 (by decide) ?_
    exact k_zretR hx hb hr (by decide) (Option.some.inj hN) hP hS hlk dX1_isDropped_17
set_option maxHeartbeats 4000000 in
set_option maxRecDepth 100000 in
theorem c_X1_wasTold (l : Launch) (g : Gm) (L : List Nat) {A : Nat → Prop} (hL : kL L A) (G : Nat → va_E) (h0 : Nat) (r : Nat → Nat) (u : St) (hV : vS g L G h0 r u) (p0 : Int32) (v : Int32) (hF : F_X1_wasTold u p0 = some v) : Met l yX1_wasTold wsX1_wasTold ({ frames := 1, cells := 0, slots := 0, locals := 21 } : Room) (va_Pc [.ref h0, .int p0] (kB g L A G)) (va_Qi (fun x9 (G9 : Nat → va_E) => x9 = v ∧ G9 = G) (kE g L) A) 0 0 A := by
  refine Met.ofW (cc := cX1_wasTold) (maxL := 2) (ret := (some .boolean)) (by decide) rfl ?_
  intro p e s m args below meth c s₁ B hml hv
  obtain ⟨rfl, hP, hC⟩ := hv
  have hx := B.exec
  have hb := B.bytes
  have hr := B.returns
  have hts := atoms_spec (ws := wsX1_wasTold) B.pre
  have hown : s.vm.findClass RX1 = some m.cls := findClass_of_methodNamed B.named
  have hlk := B.notSynchronized
  have hS : va_S A s.heap s.heap [] := va_S.rf
  have hl := lv_entry ([.ref h0, .int p0]) (n := 2) (Nat.le_of_ble_eq_true rfl)
  rw [lg_entry_eq]
  generalize (lg_sl ([.ref h0, .int p0]) ++ List.replicate (2 - (lg_sl ([.ref h0, .int p0])).length) Slot.unset).toArray = ls at hl ⊢
  have hl : lv_has ls 2 [(0, .ref h0), (1, .int p0)] := hl
  have hN := hF
  unfold F_X1_wasTold at hN
  refine lv_aload_n hx hb dX1_wasTold_0 rfl (lv_at hl 0 rfl) ?_
  refine k_get (C := RX1) (T := TX1) (N := 13) (ci := 1) (v := .ref (r 3)) hx hb hts (fun _ h => List.mem_cons_of_mem _ (List.mem_append_right _ h)) hown hC hP (vO.m hV) (vO.o hV) rfl 3 (by decide) (hts (.fieldLink RX1 21 "OrderedClauses$Store" "holdingParent" "[I") (List.mem_of_getElem? (i := 1) rfl)) rfl dX1_wasTold_1 ?_
  refine lv_iload_n hx hb dX1_wasTold_4 rfl (lv_at hl 1 rfl) ?_
  obtain ⟨v1, hv1, hN⟩ := oB_spec hN
  refine k_iR hS (va_runSN (As := [.ref (r 3), .int p0]) (rest := []) ⟨hx, hb, hml, hown, hts⟩ (c_X3_at l g L hL G (r 3) (u.1 3) (lnS 3) (vO.rm hV 3 (by decide)) (vO.ri hV 3 (by decide)) p0 v1 hv1) ⟨va_cnB 2 hts gX1_wasTold_X3_at_n65 rfl rfl rfl (hC.2.1.2 (RX1, 65, yX3_at, RX3) (List.mem_of_getElem? (i := 6) rfl)) (hts (.initialized RX3) (List.mem_of_getElem? (i := 3) rfl)) (by decide +kernel) ⟨Nat.le_of_ble_eq_true rfl, Nat.le_of_ble_eq_true rfl⟩, (hts (.static yX3_at) (List.mem_of_getElem? (i := 2) rfl)), trivial⟩ (k_pre hC hS hP) rfl rfl hl.1 rfl (lv_room (Nat.le_of_ble_eq_true rfl)) dX1_wasTold_5 ⟨Nat.zero_le _, Nat.zero_le _⟩) (fun H locs hP hS => ?_)
  refine lv_iconst (v := (-1)) hx hb dX1_wasTold_8 (by decide) ?_
  refine lv_icmp_ne (tgt := 16) hx hb dX1_wasTold_9 (by decide) (fun c3 => ?_) (fun c3 => ?_)
  · rw [if_neg c3] at hN
    refine lv_iconst (v := 0) hx hb dX1_wasTold_16 (by decide) ?_
    exact k_zretR hx hb hr (by decide) (Option.some.inj hN) hP hS hlk dX1_wasTold_17
  · rw [if_pos c3] at hN
    refine lv_iconst (v := 1) hx hb dX1_wasTold_12 (by decide) ?_
    refine lv_goto (tgt := 17) hx hb dX1_wasTold_13 (by decide) ?_
    exact k_zretR hx hb hr (by decide) (Option.some.inj hN) hP hS hlk dX1_wasTold_17
set_option maxHeartbeats 4000000 in
set_option maxRecDepth 100000 in
theorem c_X1_rankOf (l : Launch) (g : Gm) (L : List Nat) {A : Nat → Prop} (hL : kL L A) (G : Nat → va_E) (h0 : Nat) (r : Nat → Nat) (u : St) (hV : vS g L G h0 r u) (p0 : Int32) (v : Int32) (hF : F_X1_rankOf u p0 = some v) : Met l yX1_rankOf wsX1_rankOf ({ frames := 1, cells := 0, slots := 0, locals := 21 } : Room) (va_Pc [.ref h0, .int p0] (kB g L A G)) (va_Qi (fun x9 (G9 : Nat → va_E) => x9 = v ∧ G9 = G) (kE g L) A) 0 0 A := by
  refine Met.ofW (cc := cX1_rankOf) (maxL := 3) (ret := (some .int)) (by decide) rfl ?_
  intro p e s m args below meth c s₁ B hml hv
  obtain ⟨rfl, hP, hC⟩ := hv
  have hx := B.exec
  have hb := B.bytes
  have hr := B.returns
  have hts := atoms_spec (ws := wsX1_rankOf) B.pre
  have hown : s.vm.findClass RX1 = some m.cls := findClass_of_methodNamed B.named
  have hlk := B.notSynchronized
  have hS : va_S A s.heap s.heap [] := va_S.rf
  have lp2 : ∀ (n : Nat) (x1 : Int32) (x2 : Int32) (H : Heap) (locs : List Loc) (ls : Array Slot), va_P g.1 vwCl (va_pl L G) H → va_S A s.heap H locs → lv_has ls 3 [(0, .ref h0), (1, .int x1), (2, .int x2)] → FL_X1_rankOf_2 u n x1 x2 = some v → W p l e (headSpec wsX1_rankOf ({ frames := 1, cells := 0, slots := 0, locals := 21 } : Room)).room s m ([.ref h0, .int p0] : List Value).toArray below meth c H locs 0 0 (MQ below (va_Qi (fun x9 (G9 : Nat → va_E) => x9 = v ∧ G9 = G) (kE g L) A) ([.ref h0, .int p0] : List Value).toArray s 0 0 A) (F0 m 2 ls []) := by
    intro n
    induction n with
    | zero =>
      intro x1 x2 H locs ls hP hS hl hN
      exact absurd hN (by simp [FL_X1_rankOf_2])
    | succ n ih =>
      intro x1 x2 H locs ls hP hS hl hN
      rw [FL_X1_rankOf_2] at hN
      refine lv_iload_n hx hb dX1_rankOf_2 rfl (lv_at hl 2 rfl) ?_
      refine lv_bipush (v := 6) hx hb dX1_rankOf_3 (by decide) ?_
      refine lv_icmp_ge (tgt := 28) hx hb dX1_rankOf_5 (by decide) (fun c1 => ?_) (fun c1 => ?_)
      · rw [if_pos c1] at hN
        refine lv_iconst (v := (-1)) hx hb dX1_rankOf_28 (by decide) ?_
        exact k_iretR hx hb hr (Option.some.inj hN) hP hS hlk dX1_rankOf_29
      · rw [if_neg c1] at hN
        refine lv_aload_n hx hb dX1_rankOf_8 rfl (lv_at hl 0 rfl) ?_
        refine k_get (C := RX1) (T := TX1) (N := 13) (ci := 1) (v := .ref (r 0)) hx hb hts (fun _ h => List.mem_cons_of_mem _ (List.mem_append_right _ h)) hown hC hP (vO.m hV) (vO.o hV) rfl 0 (by decide) (hts (.fieldLink RX1 9 "OrderedClauses$Store" "atomOfRank" "[I") (List.mem_of_getElem? (i := 1) rfl)) rfl dX1_rankOf_9 ?_
        refine lv_iload_n hx hb dX1_rankOf_12 rfl (lv_at hl 2 rfl) ?_
        obtain ⟨v2, hv2, hN⟩ := oB_spec hN
        refine k_iR hS (va_runSN (As := [.ref (r 0), .int x2]) (rest := []) ⟨hx, hb, hml, hown, hts⟩ (c_X3_at l g L hL G (r 0) (u.1 0) (lnS 0) (vO.rm hV 0 (by decide)) (vO.ri hV 0 (by decide)) x2 v2 hv2) ⟨va_cnB 2 hts gX1_rankOf_X3_at_n65 rfl rfl rfl (hC.2.1.2 (RX1, 65, yX3_at, RX3) (List.mem_of_getElem? (i := 6) rfl)) (hts (.initialized RX3) (List.mem_of_getElem? (i := 3) rfl)) (by decide +kernel) ⟨Nat.le_of_ble_eq_true rfl, Nat.le_of_ble_eq_true rfl⟩, (hts (.static yX3_at) (List.mem_of_getElem? (i := 2) rfl)), trivial⟩ (k_pre hC hS hP) rfl rfl hl.1 rfl (lv_room (Nat.le_of_ble_eq_true rfl)) dX1_rankOf_13 ⟨Nat.zero_le _, Nat.zero_le _⟩) (fun H locs hP hS => ?_)
        refine lv_iload_n hx hb dX1_rankOf_16 rfl (lv_at hl 1 rfl) ?_
        refine lv_icmp_ne (tgt := 22) hx hb dX1_rankOf_17 (by decide) (fun c4 => ?_) (fun c4 => ?_)
        · rw [if_neg c4] at hN
          refine lv_iinc (v := (x2 + 1)) (lv' := [(2, .int (x2 + 1)), (0, .ref h0), (1, .int x1)]) hx hb dX1_rankOf_22 hl (k := 2) rfl rfl (by decide) rfl (fun ls hl => ?_)
          refine lv_goto (tgt := 2) hx hb dX1_rankOf_25 (by decide) ?_
          exact ih x1 (x2 + 1)  _ _ _ hP hS (lv_sub hl [1, 2, 0] rfl) hN
        · rw [if_pos c4] at hN
          refine lv_iload_n hx hb dX1_rankOf_20 rfl (lv_at hl 2 rfl) ?_
          exact k_iretR hx hb hr (Option.some.inj hN) hP hS hlk dX1_rankOf_21
  have hl := lv_entry ([.ref h0, .int p0]) (n := 3) (Nat.le_of_ble_eq_true rfl)
  rw [lg_entry_eq]
  generalize (lg_sl ([.ref h0, .int p0]) ++ List.replicate (3 - (lg_sl ([.ref h0, .int p0])).length) Slot.unset).toArray = ls at hl ⊢
  have hl : lv_has ls 3 [(0, .ref h0), (1, .int p0)] := hl
  have hN := hF
  unfold F_X1_rankOf at hN
  refine lv_iconst (v := 0) hx hb dX1_rankOf_0 (by decide) ?_
  refine lv_istore_n (lv' := [(2, .int (0 : Int32)), (0, .ref h0), (1, .int p0)]) hx hb dX1_rankOf_1 rfl hl (by decide) rfl (fun ls hl => ?_)
  exact lp2 fuel p0 (0 : Int32)  _ _ _ hP hS (lv_sub hl [1, 2, 0] rfl) hN
set_option maxHeartbeats 4000000 in
set_option maxRecDepth 100000 in
theorem c_X1_changeRank (l : Launch) (g : Gm) (L : List Nat) {A : Nat → Prop} (hL : kL L A) (G : Nat → va_E) (h0 : Nat) (r : Nat → Nat) (u : St) (hV : vS g L G h0 r u) (p0 : Int32) (p1 : Int32) (v : Int32) (w : St) (hF : F_X1_changeRank u p0 p1 = some (v, w)) : Met l yX1_changeRank wsX1_changeRank ({ frames := 2, cells := 0, slots := 0, locals := 43 } : Room) (va_Pc [.ref h0, .int p0, .int p1] (kB g L A G)) (va_Qi (fun x (G9 : Nat → va_E) => x = v ∧ (vS g L G9 h0 r w ∧ frS h0 r 8 G G9)) (kE g L) A) 0 0 A := by
  refine Met.ofW (cc := cX1_changeRank) (maxL := 5) (ret := (some .int)) (by decide) rfl ?_
  intro p e s m args below meth c s₁ B hml hv
  obtain ⟨rfl, hP, hC⟩ := hv
  have hx := B.exec
  have hb := B.bytes
  have hr := B.returns
  have hts := atoms_spec (ws := wsX1_changeRank) B.pre
  have hown : s.vm.findClass RX1 = some m.cls := findClass_of_methodNamed B.named
  have hlk := B.notSynchronized
  have hS : va_S A s.heap s.heap [] := va_S.rf
  have hV0 := hV
  have hfr : frS h0 r 8 G G := frS.rf
  have lp34 : ∀ (n : Nat) (u : St) (x3 : Int32) (x4 : Int32) (G1 : Nat → va_E) (H : Heap) (locs : List Loc) (ls : Array Slot), vS g L G1 h0 r u → frS h0 r 8 G G1 → va_P g.1 vwCl (va_pl L G1) H → va_S A s.heap H locs → lv_has ls 5 [(0, .ref h0), (3, .int x3), (4, .int x4)] → FL_X1_changeRank_34  n u x3 x4 = some (v, w) → W p l e (headSpec wsX1_changeRank ({ frames := 2, cells := 0, slots := 0, locals := 43 } : Room)).room s m ([.ref h0, .int p0, .int p1] : List Value).toArray below meth c H locs 0 0 (MQ below (va_Qi (fun x (G9 : Nat → va_E) => x = v ∧ (vS g L G9 h0 r w ∧ frS h0 r 8 G G9)) (kE g L) A) ([.ref h0, .int p0, .int p1] : List Value).toArray s 0 0 A) (F0 m 34 ls []) := by
    intro n
    induction n with
    | zero =>
      intro u x3 x4 G1 H locs ls hV hfr hP hS hl hN
      exact absurd hN (by simp [FL_X1_changeRank_34])
    | succ n ih =>
      intro u x3 x4 G1 H locs ls hV hfr hP hS hl hN
      rw [FL_X1_changeRank_34] at hN
      refine lv_iload hx hb dX1_changeRank_34 (lv_at hl 2 rfl) ?_
      refine lv_aload_n hx hb dX1_changeRank_36 rfl (lv_at hl 0 rfl) ?_
      refine k_get (C := RX1) (T := TX1) (N := 13) (ci := 1) (v := .int (u.2.2 0)) hx hb hts (fun _ h => List.mem_cons_of_mem _ (List.mem_append_right _ h)) hown hC hP (vO.m hV) (vO.o hV) rfl 8 (by decide) (hts (.fieldLink RX1 37 "OrderedClauses$Store" "clauses" "I") (List.mem_of_getElem? (i := 2) rfl)) rfl dX1_changeRank_37 ?_
      refine lv_icmp_ge (tgt := 72) hx hb dX1_changeRank_40 (by decide) (fun c11 => ?_) (fun c11 => ?_)
      · rw [if_pos c11] at hN
        refine lv_iload_n hx hb dX1_changeRank_72 rfl (lv_at hl 1 rfl) ?_
        obtain ⟨hE, hE2⟩ := spair hN
        exact k_iretW hx hb hr hE ⟨hE2 ▸ hV, hfr⟩ hP hS hlk dX1_changeRank_73
      · rw [if_neg c11] at hN
        refine lv_aload_n hx hb dX1_changeRank_43 rfl (lv_at hl 0 rfl) ?_
        refine k_get (C := RX1) (T := TX1) (N := 13) (ci := 1) (v := .ref (r 2)) hx hb hts (fun _ h => List.mem_cons_of_mem _ (List.mem_append_right _ h)) hown hC hP (vO.m hV) (vO.o hV) rfl 2 (by decide) (hts (.fieldLink RX1 18 "OrderedClauses$Store" "status" "[I") (List.mem_of_getElem? (i := 3) rfl)) rfl dX1_changeRank_44 ?_
        refine lv_iload hx hb dX1_changeRank_47 (lv_at hl 2 rfl) ?_
        obtain ⟨v12, hv12, hN⟩ := oB_spec hN
        refine k_iR hS (va_runSN (As := [.ref (r 2), .int x4]) (rest := []) ⟨hx, hb, hml, hown, hts⟩ (c_X3_at l g L hL G1 (r 2) (u.1 2) (lnS 2) (vO.rm hV 2 (by decide)) (vO.ri hV 2 (by decide)) x4 v12 hv12) ⟨va_cnB 2 hts gX1_changeRank_X3_at_n65 rfl rfl rfl (hC.2.1.2 (RX1, 65, yX3_at, RX3) (List.mem_of_getElem? (i := 6) rfl)) (hts (.initialized RX3) (List.mem_of_getElem? (i := 10) rfl)) (by decide +kernel) ⟨Nat.le_of_ble_eq_true rfl, Nat.le_of_ble_eq_true rfl⟩, (hts (.static yX3_at) (List.mem_of_getElem? (i := 9) rfl)), trivial⟩ (k_pre hC hS hP) rfl rfl hl.1 rfl (lv_room (Nat.le_of_ble_eq_true rfl)) dX1_changeRank_49 ⟨Nat.zero_le _, Nat.zero_le _⟩) (fun H locs hP hS => ?_)
        refine lv_iconst (v := 1) hx hb dX1_changeRank_52 (by decide) ?_
        refine lv_icmp_ne (tgt := 66) hx hb dX1_changeRank_53 (by decide) (fun c14 => ?_) (fun c14 => ?_)
        · rw [if_neg c14] at hN
          refine lv_iinc (v := (x4 + 1)) (lv' := [(4, .int (x4 + 1)), (0, .ref h0), (3, .int x3)]) hx hb dX1_changeRank_66 hl (k := 2) rfl rfl (by decide) rfl (fun ls hl => ?_)
          refine lv_goto (tgt := 34) hx hb dX1_changeRank_69 (by decide) ?_
          exact ih (u.1, u.2.1, u.2.2) x3 (x4 + 1)  _ _ _ _ hV hfr hP hS (lv_sub hl [1, 2, 0] rfl) hN
        · rw [if_pos c14] at hN
          refine lv_aload_n hx hb dX1_changeRank_56 rfl (lv_at hl 0 rfl) ?_
          refine k_get (C := RX1) (T := TX1) (N := 13) (ci := 1) (v := .ref (r 2)) hx hb hts (fun _ h => List.mem_cons_of_mem _ (List.mem_append_right _ h)) hown hC hP (vO.m hV) (vO.o hV) rfl 2 (by decide) (hts (.fieldLink RX1 18 "OrderedClauses$Store" "status" "[I") (List.mem_of_getElem? (i := 3) rfl)) rfl dX1_changeRank_57 ?_
          refine lv_iload hx hb dX1_changeRank_60 (lv_at hl 2 rfl) ?_
          refine lv_iconst (v := 0) hx hb dX1_changeRank_62 (by decide) ?_
          obtain ⟨w16, hw16, hN⟩ := oB_spec hN
          refine k_v hS (va_runSN (As := [.ref (r 2), .int x4, .int (0 : Int32)]) (rest := []) ⟨hx, hb, hml, hown, hts⟩ (c_X3_put l g L hL G1 (r 2) (u.1 2) (lnS 2) (vO.rm hV 2 (by decide)) (vO.ri hV 2 (by decide)) x4 (0 : Int32) w16 hw16) ⟨va_cnB 3 hts gX1_changeRank_X3_put_n53 rfl rfl rfl (hC.2.1.2 (RX1, 53, yX3_put, RX3) (List.mem_of_getElem? (i := 1) rfl)) (hts (.initialized RX3) (List.mem_of_getElem? (i := 10) rfl)) (by decide +kernel) ⟨Nat.le_of_ble_eq_true rfl, Nat.le_of_ble_eq_true rfl⟩, (hts (.static yX3_put) (List.mem_of_getElem? (i := 12) rfl)), trivial⟩ (k_pre hC hS hP) rfl rfl hl.1 rfl (lv_room (Nat.le_of_ble_eq_true rfl)) dX1_changeRank_63 ⟨Nat.zero_le _, Nat.zero_le _⟩) (fun G17 H locs hq hP hS => ?_)
          have hV : vS g L G17 h0 r ((va_up u.1 2 w16), u.2.1, u.2.2) := by rw [hq]; exact vO.setI (f := u.1) (gg := u.2.1) (k := u.2.2) hV (by decide) 2 (by decide) _
          have hfr : frS h0 r 8 G G17 := by rw [hq]; exact vO.frI hfr 2 (by decide) _
          refine lv_iinc (v := (x4 + 1)) (lv' := [(4, .int (x4 + 1)), (0, .ref h0), (3, .int x3)]) hx hb dX1_changeRank_66 hl (k := 2) rfl rfl (by decide) rfl (fun ls hl => ?_)
          refine lv_goto (tgt := 34) hx hb dX1_changeRank_69 (by decide) ?_
          exact ih ((va_up u.1 2 w16), u.2.1, u.2.2) x3 (x4 + 1)  _ _ _ _ hV hfr hP hS (lv_sub hl [1, 2, 0] rfl) hN
  have hl := lv_entry ([.ref h0, .int p0, .int p1]) (n := 5) (Nat.le_of_ble_eq_true rfl)
  rw [lg_entry_eq]
  generalize (lg_sl ([.ref h0, .int p0, .int p1]) ++ List.replicate (5 - (lg_sl ([.ref h0, .int p0, .int p1])).length) Slot.unset).toArray = ls at hl ⊢
  have hl : lv_has ls 5 [(0, .ref h0), (1, .int p0), (2, .int p1)] := hl
  have hN := hF
  unfold F_X1_changeRank at hN
  refine lv_aload_n hx hb dX1_changeRank_0 rfl (lv_at hl 0 rfl) ?_
  refine lv_iload_n hx hb dX1_changeRank_1 rfl (lv_at hl 1 rfl) ?_
  obtain ⟨v1, hv1, hN⟩ := oB_spec hN
  refine k_iR hS (va_runV (As := [.int p0]) (rest := []) ⟨hx, hb, hml, hown, hts⟩ (c_X1_rankOf l g L hL G h0 r u hV p0 v1 hv1) (cwV 1 hts gX1_changeRank_X1_rankOf rfl rfl rfl (by decide +kernel) ⟨Nat.le_of_ble_eq_true rfl, Nat.le_of_ble_eq_true rfl⟩) (k_preV hC hS hP (vO.m hV) (vO.o hV) rfl) rfl rfl hl.1 rfl (lv_room (Nat.le_of_ble_eq_true rfl)) dX1_changeRank_2 ⟨Nat.zero_le _, Nat.zero_le _⟩) (fun H locs hP hS => ?_)
  refine lv_istore_n (lv' := [(3, .int v1), (0, .ref h0), (1, .int p0), (2, .int p1)]) hx hb dX1_changeRank_5 rfl hl (by decide) rfl (fun ls hl => ?_)
  refine lv_aload_n hx hb dX1_changeRank_6 rfl (lv_at hl 1 rfl) ?_
  refine k_get (C := RX1) (T := TX1) (N := 13) (ci := 1) (v := .ref (r 0)) hx hb hts (fun _ h => List.mem_cons_of_mem _ (List.mem_append_right _ h)) hown hC hP (vO.m hV) (vO.o hV) rfl 0 (by decide) (hts (.fieldLink RX1 9 "OrderedClauses$Store" "atomOfRank" "[I") (List.mem_of_getElem? (i := 1) rfl)) rfl dX1_changeRank_7 ?_
  refine lv_iload_n hx hb dX1_changeRank_10 rfl (lv_at hl 0 rfl) ?_
  refine lv_aload_n hx hb dX1_changeRank_11 rfl (lv_at hl 1 rfl) ?_
  refine k_get (C := RX1) (T := TX1) (N := 13) (ci := 1) (v := .ref (r 0)) hx hb hts (fun _ h => List.mem_cons_of_mem _ (List.mem_append_right _ h)) hown hC hP (vO.m hV) (vO.o hV) rfl 0 (by decide) (hts (.fieldLink RX1 9 "OrderedClauses$Store" "atomOfRank" "[I") (List.mem_of_getElem? (i := 1) rfl)) rfl dX1_changeRank_12 ?_
  refine lv_iload_n hx hb dX1_changeRank_15 rfl (lv_at hl 3 rfl) ?_
  obtain ⟨v3, hv3, hN⟩ := oB_spec hN
  refine k_iR hS (va_runSN (As := [.ref (r 0), .int p1]) (rest := [.int v1, .ref (r 0)]) ⟨hx, hb, hml, hown, hts⟩ (c_X3_at l g L hL G (r 0) (u.1 0) (lnS 0) (vO.rm hV 0 (by decide)) (vO.ri hV 0 (by decide)) p1 v3 hv3) ⟨va_cnB 2 hts gX1_changeRank_X3_at_n65 rfl rfl rfl (hC.2.1.2 (RX1, 65, yX3_at, RX3) (List.mem_of_getElem? (i := 6) rfl)) (hts (.initialized RX3) (List.mem_of_getElem? (i := 10) rfl)) (by decide +kernel) ⟨Nat.le_of_ble_eq_true rfl, Nat.le_of_ble_eq_true rfl⟩, (hts (.static yX3_at) (List.mem_of_getElem? (i := 9) rfl)), trivial⟩ (k_pre hC hS hP) rfl rfl hl.1 rfl (lv_room (Nat.le_of_ble_eq_true rfl)) dX1_changeRank_16 ⟨Nat.zero_le _, Nat.zero_le _⟩) (fun H locs hP hS => ?_)
  obtain ⟨w6, hw6, hN⟩ := oB_spec hN
  refine k_v hS (va_runSN (As := [.ref (r 0), .int v1, .int v3]) (rest := []) ⟨hx, hb, hml, hown, hts⟩ (c_X3_put l g L hL G (r 0) (u.1 0) (lnS 0) (vO.rm hV 0 (by decide)) (vO.ri hV 0 (by decide)) v1 v3 w6 hw6) ⟨va_cnB 3 hts gX1_changeRank_X3_put_n53 rfl rfl rfl (hC.2.1.2 (RX1, 53, yX3_put, RX3) (List.mem_of_getElem? (i := 1) rfl)) (hts (.initialized RX3) (List.mem_of_getElem? (i := 10) rfl)) (by decide +kernel) ⟨Nat.le_of_ble_eq_true rfl, Nat.le_of_ble_eq_true rfl⟩, (hts (.static yX3_put) (List.mem_of_getElem? (i := 12) rfl)), trivial⟩ (k_pre hC hS hP) rfl rfl hl.1 rfl (lv_room (Nat.le_of_ble_eq_true rfl)) dX1_changeRank_19 ⟨Nat.zero_le _, Nat.zero_le _⟩) (fun G7 H locs hq hP hS => ?_)
  have hV : vS g L G7 h0 r ((va_up u.1 0 w6), u.2.1, u.2.2) := by rw [hq]; exact vO.setI (f := u.1) (gg := u.2.1) (k := u.2.2) hV (by decide) 0 (by decide) _
  have hfr : frS h0 r 8 G G7 := by rw [hq]; exact vO.frI hfr 0 (by decide) _
  refine lv_aload_n hx hb dX1_changeRank_22 rfl (lv_at hl 1 rfl) ?_
  refine k_get (C := RX1) (T := TX1) (N := 13) (ci := 1) (v := .ref (r 0)) hx hb hts (fun _ h => List.mem_cons_of_mem _ (List.mem_append_right _ h)) hown hC hP (vO.m hV) (vO.o hV) rfl 0 (by decide) (hts (.fieldLink RX1 9 "OrderedClauses$Store" "atomOfRank" "[I") (List.mem_of_getElem? (i := 1) rfl)) rfl dX1_changeRank_23 ?_
  refine lv_iload_n hx hb dX1_changeRank_26 rfl (lv_at hl 3 rfl) ?_
  refine lv_iload_n hx hb dX1_changeRank_27 rfl (lv_at hl 2 rfl) ?_
  obtain ⟨w9, hw9, hN⟩ := oB_spec hN
  refine k_v hS (va_runSN (As := [.ref (r 0), .int p1, .int p0]) (rest := []) ⟨hx, hb, hml, hown, hts⟩ (c_X3_put l g L hL G7 (r 0) ((va_up u.1 0 w6) 0) (lnS 0) (vO.rm hV 0 (by decide)) (vO.ri hV 0 (by decide)) p1 p0 w9 hw9) ⟨va_cnB 3 hts gX1_changeRank_X3_put_n53 rfl rfl rfl (hC.2.1.2 (RX1, 53, yX3_put, RX3) (List.mem_of_getElem? (i := 1) rfl)) (hts (.initialized RX3) (List.mem_of_getElem? (i := 10) rfl)) (by decide +kernel) ⟨Nat.le_of_ble_eq_true rfl, Nat.le_of_ble_eq_true rfl⟩, (hts (.static yX3_put) (List.mem_of_getElem? (i := 12) rfl)), trivial⟩ (k_pre hC hS hP) rfl rfl hl.1 rfl (lv_room (Nat.le_of_ble_eq_true rfl)) dX1_changeRank_28 ⟨Nat.zero_le _, Nat.zero_le _⟩) (fun G10 H locs hq hP hS => ?_)
  have hV : vS g L G10 h0 r ((va_up (va_up u.1 0 w6) 0 w9), u.2.1, u.2.2) := by rw [hq]; exact vO.setI (f := (va_up u.1 0 w6)) (gg := u.2.1) (k := u.2.2) hV (by decide) 0 (by decide) _
  have hfr : frS h0 r 8 G G10 := by rw [hq]; exact vO.frI hfr 0 (by decide) _
  refine lv_iconst (v := 0) hx hb dX1_changeRank_31 (by decide) ?_
  refine lv_istore (lv' := [(4, .int (0 : Int32)), (3, .int v1), (0, .ref h0), (1, .int p0), (2, .int p1)]) hx hb dX1_changeRank_32 hl (by decide) rfl (fun ls hl => ?_)
  exact lp34 fuel ((va_up (va_up u.1 0 w6) 0 w9), u.2.1, u.2.2) v1 (0 : Int32)  _ _ _ _ hV hfr hP hS (lv_sub hl [2, 1, 0] rfl) hN
set_option maxHeartbeats 4000000 in
set_option maxRecDepth 100000 in
theorem c_X1_greatestOf (l : Launch) (g : Gm) (L : List Nat) {A : Nat → Prop} (hL : kL L A) (G : Nat → va_E) (h0 : Nat) (r : Nat → Nat) (u : St) (hV : vS g L G h0 r u) (p0 : Int32) (v : Int32) (hF : F_X1_greatestOf u p0 = some v) : Met l yX1_greatestOf wsX1_greatestOf ({ frames := 1, cells := 0, slots := 0, locals := 21 } : Room) (va_Pc [.ref h0, .int p0] (kB g L A G)) (va_Qi (fun x9 (G9 : Nat → va_E) => x9 = v ∧ G9 = G) (kE g L) A) 0 0 A := by
  refine Met.ofW (cc := cX1_greatestOf) (maxL := 5) (ret := (some .int)) (by decide) rfl ?_
  intro p e s m args below meth c s₁ B hml hv
  obtain ⟨rfl, hP, hC⟩ := hv
  have hx := B.exec
  have hb := B.bytes
  have hr := B.returns
  have hts := atoms_spec (ws := wsX1_greatestOf) B.pre
  have hown : s.vm.findClass RX1 = some m.cls := findClass_of_methodNamed B.named
  have hlk := B.notSynchronized
  have hS : va_S A s.heap s.heap [] := va_S.rf
  have lp2 : ∀ (n : Nat) (x1 : Int32) (x2 : Int32) (H : Heap) (locs : List Loc) (ls : Array Slot), va_P g.1 vwCl (va_pl L G) H → va_S A s.heap H locs → lv_has ls 5 [(0, .ref h0), (1, .int x1), (2, .int x2)] → FL_X1_greatestOf_2 u n x1 x2 = some v → W p l e (headSpec wsX1_greatestOf ({ frames := 1, cells := 0, slots := 0, locals := 21 } : Room)).room s m ([.ref h0, .int p0] : List Value).toArray below meth c H locs 0 0 (MQ below (va_Qi (fun x9 (G9 : Nat → va_E) => x9 = v ∧ G9 = G) (kE g L) A) ([.ref h0, .int p0] : List Value).toArray s 0 0 A) (F0 m 2 ls []) := by
    intro n
    induction n with
    | zero =>
      intro x1 x2 H locs ls hP hS hl hN
      exact absurd hN (by simp [FL_X1_greatestOf_2])
    | succ n ih =>
      intro x1 x2 H locs ls hP hS hl hN
      rw [FL_X1_greatestOf_2] at hN
      refine lv_iload_n hx hb dX1_greatestOf_2 rfl (lv_at hl 2 rfl) ?_
      refine lv_if_lt (tgt := 44) hx hb dX1_greatestOf_3 (by decide) (fun c1 => ?_) (fun c1 => ?_)
      · rw [if_pos c1] at hN
        refine lv_iconst (v := (-1)) hx hb dX1_greatestOf_44 (by decide) ?_
        exact k_iretR hx hb hr (Option.some.inj hN) hP hS hlk dX1_greatestOf_45
      · rw [if_neg c1] at hN
        refine lv_aload_n hx hb dX1_greatestOf_6 rfl (lv_at hl 0 rfl) ?_
        refine k_get (C := RX1) (T := TX1) (N := 13) (ci := 1) (v := .ref (r 0)) hx hb hts (fun _ h => List.mem_cons_of_mem _ (List.mem_append_right _ h)) hown hC hP (vO.m hV) (vO.o hV) rfl 0 (by decide) (hts (.fieldLink RX1 9 "OrderedClauses$Store" "atomOfRank" "[I") (List.mem_of_getElem? (i := 1) rfl)) rfl dX1_greatestOf_7 ?_
        refine lv_iload_n hx hb dX1_greatestOf_10 rfl (lv_at hl 2 rfl) ?_
        obtain ⟨v2, hv2, hN⟩ := oB_spec hN
        refine k_iR hS (va_runSN (As := [.ref (r 0), .int x2]) (rest := []) ⟨hx, hb, hml, hown, hts⟩ (c_X3_at l g L hL G (r 0) (u.1 0) (lnS 0) (vO.rm hV 0 (by decide)) (vO.ri hV 0 (by decide)) x2 v2 hv2) ⟨va_cnB 2 hts gX1_greatestOf_X3_at_n65 rfl rfl rfl (hC.2.1.2 (RX1, 65, yX3_at, RX3) (List.mem_of_getElem? (i := 6) rfl)) (hts (.initialized RX3) (List.mem_of_getElem? (i := 3) rfl)) (by decide +kernel) ⟨Nat.le_of_ble_eq_true rfl, Nat.le_of_ble_eq_true rfl⟩, (hts (.static yX3_at) (List.mem_of_getElem? (i := 2) rfl)), trivial⟩ (k_pre hC hS hP) rfl rfl hl.1 rfl (lv_room (Nat.le_of_ble_eq_true rfl)) dX1_greatestOf_11 ⟨Nat.zero_le _, Nat.zero_le _⟩) (fun H locs hP hS => ?_)
        refine lv_istore_n (lv' := [(3, .int v2), (0, .ref h0), (1, .int x1), (2, .int x2)]) hx hb dX1_greatestOf_14 rfl hl (by decide) rfl (fun ls hl => ?_)
        refine lv_iload_n hx hb dX1_greatestOf_15 rfl (lv_at hl 2 rfl) ?_
        refine lv_iconst (v := 2) hx hb dX1_greatestOf_16 (by decide) ?_
        refine lv_iload_n hx hb dX1_greatestOf_17 rfl (lv_at hl 0 rfl) ?_
        refine lv_imul hx hb dX1_greatestOf_18 ?_
        refine lv_ishr hx hb dX1_greatestOf_19 ?_
        refine lv_iconst (v := 3) hx hb dX1_greatestOf_20 (by decide) ?_
        refine lv_iand hx hb dX1_greatestOf_21 ?_
        refine lv_istore (lv' := [(4, .int ((x1 >>> (((2 : Int32) * v2) &&& 31)) &&& (3 : Int32))), (3, .int v2), (0, .ref h0), (1, .int x1), (2, .int x2)]) hx hb dX1_greatestOf_22 hl (by decide) rfl (fun ls hl => ?_)
        refine lv_iload hx hb dX1_greatestOf_24 (lv_at hl 0 rfl) ?_
        refine lv_if_eq (tgt := 38) hx hb dX1_greatestOf_26 (by decide) (fun c4 => ?_) (fun c4 => ?_)
        · rw [if_pos c4] at hN
          refine lv_iinc (v := (x2 - 1)) (lv' := [(2, .int (x2 - 1)), (4, .int ((x1 >>> (((2 : Int32) * v2) &&& 31)) &&& (3 : Int32))), (3, .int v2), (0, .ref h0), (1, .int x1)]) hx hb dX1_greatestOf_38 hl (k := 4) rfl (by rw [Int32.sub_eq_add_neg]; rfl) (by decide) rfl (fun ls hl => ?_)
          refine lv_goto (tgt := 2) hx hb dX1_greatestOf_41 (by decide) ?_
          exact ih x1 (x2 - 1)  _ _ _ hP hS (lv_sub hl [3, 4, 0] rfl) hN
        · rw [if_neg c4] at hN
          refine lv_iconst (v := 2) hx hb dX1_greatestOf_29 (by decide) ?_
          refine lv_iload_n hx hb dX1_greatestOf_30 rfl (lv_at hl 1 rfl) ?_
          refine lv_imul hx hb dX1_greatestOf_31 ?_
          refine lv_iload hx hb dX1_greatestOf_32 (lv_at hl 0 rfl) ?_
          refine lv_iconst (v := 1) hx hb dX1_greatestOf_34 (by decide) ?_
          refine lv_ishr hx hb dX1_greatestOf_35 ?_
          refine lv_iadd hx hb dX1_greatestOf_36 ?_
          exact k_iretR hx hb hr (Option.some.inj hN) hP hS hlk dX1_greatestOf_37
  have hl := lv_entry ([.ref h0, .int p0]) (n := 5) (Nat.le_of_ble_eq_true rfl)
  rw [lg_entry_eq]
  generalize (lg_sl ([.ref h0, .int p0]) ++ List.replicate (5 - (lg_sl ([.ref h0, .int p0])).length) Slot.unset).toArray = ls at hl ⊢
  have hl : lv_has ls 5 [(0, .ref h0), (1, .int p0)] := hl
  have hN := hF
  unfold F_X1_greatestOf at hN
  refine lv_iconst (v := 5) hx hb dX1_greatestOf_0 (by decide) ?_
  refine lv_istore_n (lv' := [(2, .int (5 : Int32)), (0, .ref h0), (1, .int p0)]) hx hb dX1_greatestOf_1 rfl hl (by decide) rfl (fun ls hl => ?_)
  exact lp2 fuel p0 (5 : Int32)  _ _ _ hP hS (lv_sub hl [1, 2, 0] rfl) hN
set_option maxHeartbeats 4000000 in
set_option maxRecDepth 100000 in
theorem c_X1_isLess (l : Launch) (g : Gm) (L : List Nat) {A : Nat → Prop} (hL : kL L A) (G : Nat → va_E) (h0 : Nat) (r : Nat → Nat) (u : St) (hV : vS g L G h0 r u) (p0 : Int32) (p1 : Int32) (v : Int32) (hF : F_X1_isLess u p0 p1 = some v) : Met l yX1_isLess wsX1_isLess ({ frames := 2, cells := 0, slots := 0, locals := 45 } : Room) (va_Pc [.ref h0, .int p0, .int p1] (kB g L A G)) (va_Qi (fun x9 (G9 : Nat → va_E) => x9 = v ∧ G9 = G) (kE g L) A) 0 0 A := by
  refine Met.ofW (cc := cX1_isLess) (maxL := 4) (ret := (some .boolean)) (by decide) rfl ?_
  intro p e s m args below meth c s₁ B hml hv
  obtain ⟨rfl, hP, hC⟩ := hv
  have hx := B.exec
  have hb := B.bytes
  have hr := B.returns
  have hts := atoms_spec (ws := wsX1_isLess) B.pre
  have hown : s.vm.findClass RX1 = some m.cls := findClass_of_methodNamed B.named
  have hlk := B.notSynchronized
  have hS : va_S A s.heap s.heap [] := va_S.rf
  have hl := lv_entry ([.ref h0, .int p0, .int p1]) (n := 4) (Nat.le_of_ble_eq_true rfl)
  rw [lg_entry_eq]
  generalize (lg_sl ([.ref h0, .int p0, .int p1]) ++ List.replicate (4 - (lg_sl ([.ref h0, .int p0, .int p1])).length) Slot.unset).toArray = ls at hl ⊢
  have hl : lv_has ls 4 [(0, .ref h0), (1, .int p0), (2, .int p1)] := hl
  have hN := hF
  unfold F_X1_isLess at hN
  refine lv_aload_n hx hb dX1_isLess_0 rfl (lv_at hl 0 rfl) ?_
  refine lv_iload_n hx hb dX1_isLess_1 rfl (lv_at hl 1 rfl) ?_
  refine lv_iload_n hx hb dX1_isLess_2 rfl (lv_at hl 2 rfl) ?_
  refine lv_ixor hx hb dX1_isLess_3 ?_
  obtain ⟨v1, hv1, hN⟩ := oB_spec hN
  refine k_iR hS (va_runV (As := [.int (p0 ^^^ p1)]) (rest := []) ⟨hx, hb, hml, hown, hts⟩ (c_X1_greatestOf l g L hL G h0 r u hV (p0 ^^^ p1) v1 hv1) (cwV 1 hts gX1_isLess_X1_greatestOf rfl rfl rfl (by decide +kernel) ⟨Nat.le_of_ble_eq_true rfl, Nat.le_of_ble_eq_true rfl⟩) (k_preV hC hS hP (vO.m hV) (vO.o hV) rfl) rfl rfl hl.1 rfl (lv_room (Nat.le_of_ble_eq_true rfl)) dX1_isLess_4 ⟨Nat.zero_le _, Nat.zero_le _⟩) (fun H locs hP hS => ?_)
  refine lv_istore_n (lv' := [(3, .int v1), (0, .ref h0), (1, .int p0), (2, .int p1)]) hx hb dX1_isLess_7 rfl hl (by decide) rfl (fun ls hl => ?_)
  refine lv_iload_n hx hb dX1_isLess_8 rfl (lv_at hl 0 rfl) ?_
  refine lv_iconst (v := (-1)) hx hb dX1_isLess_9 (by decide) ?_
  refine lv_icmp_eq (tgt := 26) hx hb dX1_isLess_10 (by decide) (fun c3 => ?_) (fun c3 => ?_)
  · rw [if_pos c3] at hN
    refine lv_iconst (v := 0) hx hb dX1_isLess_26 (by decide) ?_
    exact k_zretR hx hb hr (by decide) (Option.some.inj hN) hP hS hlk dX1_isLess_27
  · rw [if_neg c3] at hN
    refine lv_iload_n hx hb dX1_isLess_13 rfl (lv_at hl 3 rfl) ?_
    refine lv_i2l hx hb dX1_isLess_14 rfl ?_
    refine lv_iload_n hx hb dX1_isLess_15 rfl (lv_at hl 0 rfl) ?_
    obtain ⟨v4, hv4, hN⟩ := oB_spec hN
    refine k_iR hS (va_runSN (As := [.long (Int32.toInt64 p1), .int v1]) (rest := []) ⟨hx, hb, hml, hown, hts⟩ (c_X3_isIn l g L hL G (Int32.toInt64 p1) v1 v4 hv4) ⟨va_cnB 2 hts gX1_isLess_X3_isIn_n76 rfl rfl rfl (hC.2.1.2 (RX1, 76, yX3_isIn, RX3) (List.mem_of_getElem? (i := 15) rfl)) (hts (.initialized RX3) (List.mem_of_getElem? (i := 8) rfl)) (by decide +kernel) ⟨Nat.le_of_ble_eq_true rfl, Nat.le_of_ble_eq_true rfl⟩, (hts (.static yX3_isIn) (List.mem_of_getElem? (i := 10) rfl)), trivial⟩ (k_pre hC hS hP) rfl rfl hl.1 rfl (lv_room (Nat.le_of_ble_eq_true rfl)) dX1_isLess_16 ⟨Nat.zero_le _, Nat.zero_le _⟩) (fun H locs hP hS => ?_)
    refine lv_if_eq (tgt := 26) hx hb dX1_isLess_19 (by decide) (fun c6 => ?_) (fun c6 => ?_)
    · rw [if_pos c6] at hN
      refine lv_iconst (v := 0) hx hb dX1_isLess_26 (by decide) ?_
      exact k_zretR hx hb hr (by decide) (Option.some.inj hN) hP hS hlk dX1_isLess_27
    · rw [if_neg c6] at hN
      refine lv_iconst (v := 1) hx hb dX1_isLess_22 (by decide) ?_
      refine lv_goto (tgt := 27) hx hb dX1_isLess_23 (by decide) ?_
      exact k_zretR hx hb hr (by decide) (Option.some.inj hN) hP hS hlk dX1_isLess_27
set_option maxHeartbeats 4000000 in
set_option maxRecDepth 100000 in
theorem c_X1_howManyLessThan (l : Launch) (g : Gm) (L : List Nat) {A : Nat → Prop} (hL : kL L A) (G : Nat → va_E) (h0 : Nat) (r : Nat → Nat) (u : St) (hV : vS g L G h0 r u) (p0 : Int32) (v : Int32) (hF : F_X1_howManyLessThan u p0 = some v) : Met l yX1_howManyLessThan wsX1_howManyLessThan ({ frames := 3, cells := 0, slots := 0, locals := 68 } : Room) (va_Pc [.ref h0, .int p0] (kB g L A G)) (va_Qi (fun x9 (G9 : Nat → va_E) => x9 = v ∧ G9 = G) (kE g L) A) 0 0 A := by
  refine Met.ofW (cc := cX1_howManyLessThan) (maxL := 4) (ret := (some .int)) (by decide) rfl ?_
  intro p e s m args below meth c s₁ B hml hv
  obtain ⟨rfl, hP, hC⟩ := hv
  have hx := B.exec
  have hb := B.bytes
  have hr := B.returns
  have hts := atoms_spec (ws := wsX1_howManyLessThan) B.pre
  have hown : s.vm.findClass RX1 = some m.cls := findClass_of_methodNamed B.named
  have hlk := B.notSynchronized
  have hS : va_S A s.heap s.heap [] := va_S.rf
  have lp4 : ∀ (n : Nat) (x1 : Int32) (x2 : Int32) (x3 : Int32) (H : Heap) (locs : List Loc) (ls : Array Slot), va_P g.1 vwCl (va_pl L G) H → va_S A s.heap H locs → lv_has ls 4 [(0, .ref h0), (1, .int x1), (2, .int x2), (3, .int x3)] → FL_X1_howManyLessThan_4 u n x1 x2 x3 = some v → W p l e (headSpec wsX1_howManyLessThan ({ frames := 3, cells := 0, slots := 0, locals := 68 } : Room)).room s m ([.ref h0, .int p0] : List Value).toArray below meth c H locs 0 0 (MQ below (va_Qi (fun x9 (G9 : Nat → va_E) => x9 = v ∧ G9 = G) (kE g L) A) ([.ref h0, .int p0] : List Value).toArray s 0 0 A) (F0 m 4 ls []) := by
    intro n
    induction n with
    | zero =>
      intro x1 x2 x3 H locs ls hP hS hl hN
      exact absurd hN (by simp [FL_X1_howManyLessThan_4])
    | succ n ih =>
      intro x1 x2 x3 H locs ls hP hS hl hN
      rw [FL_X1_howManyLessThan_4] at hN
      refine lv_iload_n hx hb dX1_howManyLessThan_4 rfl (lv_at hl 3 rfl) ?_
      refine lv_aload_n hx hb dX1_howManyLessThan_5 rfl (lv_at hl 0 rfl) ?_
      refine k_get (C := RX1) (T := TX1) (N := 13) (ci := 1) (v := .int (u.2.2 0)) hx hb hts (fun _ h => List.mem_cons_of_mem _ (List.mem_append_right _ h)) hown hC hP (vO.m hV) (vO.o hV) rfl 8 (by decide) (hts (.fieldLink RX1 37 "OrderedClauses$Store" "clauses" "I") (List.mem_of_getElem? (i := 1) rfl)) rfl dX1_howManyLessThan_6 ?_
      refine lv_icmp_ge (tgt := 52) hx hb dX1_howManyLessThan_9 (by decide) (fun c1 => ?_) (fun c1 => ?_)
      · rw [if_pos c1] at hN
        refine lv_iload_n hx hb dX1_howManyLessThan_52 rfl (lv_at hl 2 rfl) ?_
        exact k_iretR hx hb hr (Option.some.inj hN) hP hS hlk dX1_howManyLessThan_53
      · rw [if_neg c1] at hN
        refine lv_aload_n hx hb dX1_howManyLessThan_12 rfl (lv_at hl 0 rfl) ?_
        refine lv_iload_n hx hb dX1_howManyLessThan_13 rfl (lv_at hl 3 rfl) ?_
        obtain ⟨v2, hv2, hN⟩ := oB_spec hN
        refine k_iR hS (va_runV (As := [.int x3]) (rest := []) ⟨hx, hb, hml, hown, hts⟩ (c_X1_isDropped l g L hL G h0 r u hV x3 v2 hv2) (cwV 1 hts gX1_howManyLessThan_X1_isDropped rfl rfl rfl (by decide +kernel) ⟨Nat.le_of_ble_eq_true rfl, Nat.le_of_ble_eq_true rfl⟩) (k_preV hC hS hP (vO.m hV) (vO.o hV) rfl) rfl rfl hl.1 rfl (lv_room (Nat.le_of_ble_eq_true rfl)) dX1_howManyLessThan_14 ⟨Nat.zero_le _, Nat.zero_le _⟩) (fun H locs hP hS => ?_)
        refine lv_if_ne (tgt := 46) hx hb dX1_howManyLessThan_17 (by decide) (fun c4 => ?_) (fun c4 => ?_)
        · rw [if_neg c4] at hN
          refine lv_iinc (v := (x3 + 1)) (lv' := [(3, .int (x3 + 1)), (0, .ref h0), (1, .int x1), (2, .int x2)]) hx hb dX1_howManyLessThan_46 hl (k := 3) rfl rfl (by decide) rfl (fun ls hl => ?_)
          refine lv_goto (tgt := 4) hx hb dX1_howManyLessThan_49 (by decide) ?_
          exact ih x1 x2 (x3 + 1)  _ _ _ hP hS (lv_sub hl [1, 2, 3, 0] rfl) hN
        · rw [if_pos c4] at hN
          refine lv_aload_n hx hb dX1_howManyLessThan_20 rfl (lv_at hl 0 rfl) ?_
          refine lv_aload_n hx hb dX1_howManyLessThan_21 rfl (lv_at hl 0 rfl) ?_
          refine k_get (C := RX1) (T := TX1) (N := 13) (ci := 1) (v := .ref (r 1)) hx hb hts (fun _ h => List.mem_cons_of_mem _ (List.mem_append_right _ h)) hown hC hP (vO.m hV) (vO.o hV) rfl 1 (by decide) (hts (.fieldLink RX1 15 "OrderedClauses$Store" "literals" "[I") (List.mem_of_getElem? (i := 2) rfl)) rfl dX1_howManyLessThan_22 ?_
          refine lv_iload_n hx hb dX1_howManyLessThan_25 rfl (lv_at hl 3 rfl) ?_
          obtain ⟨v5, hv5, hN⟩ := oB_spec hN
          refine k_iR hS (va_runSN (As := [.ref (r 1), .int x3]) (rest := [.ref h0]) ⟨hx, hb, hml, hown, hts⟩ (c_X3_at l g L hL G (r 1) (u.1 1) (lnS 1) (vO.rm hV 1 (by decide)) (vO.ri hV 1 (by decide)) x3 v5 hv5) ⟨va_cnB 2 hts gX1_howManyLessThan_X3_at_n65 rfl rfl rfl (hC.2.1.2 (RX1, 65, yX3_at, RX3) (List.mem_of_getElem? (i := 6) rfl)) (hts (.initialized RX3) (List.mem_of_getElem? (i := 10) rfl)) (by decide +kernel) ⟨Nat.le_of_ble_eq_true rfl, Nat.le_of_ble_eq_true rfl⟩, (hts (.static yX3_at) (List.mem_of_getElem? (i := 9) rfl)), trivial⟩ (k_pre hC hS hP) rfl rfl hl.1 rfl (lv_room (Nat.le_of_ble_eq_true rfl)) dX1_howManyLessThan_26 ⟨Nat.zero_le _, Nat.zero_le _⟩) (fun H locs hP hS => ?_)
          refine lv_aload_n hx hb dX1_howManyLessThan_29 rfl (lv_at hl 0 rfl) ?_
          refine k_get (C := RX1) (T := TX1) (N := 13) (ci := 1) (v := .ref (r 1)) hx hb hts (fun _ h => List.mem_cons_of_mem _ (List.mem_append_right _ h)) hown hC hP (vO.m hV) (vO.o hV) rfl 1 (by decide) (hts (.fieldLink RX1 15 "OrderedClauses$Store" "literals" "[I") (List.mem_of_getElem? (i := 2) rfl)) rfl dX1_howManyLessThan_30 ?_
          refine lv_iload_n hx hb dX1_howManyLessThan_33 rfl (lv_at hl 1 rfl) ?_
          obtain ⟨v7, hv7, hN⟩ := oB_spec hN
          refine k_iR hS (va_runSN (As := [.ref (r 1), .int x1]) (rest := [.int v5, .ref h0]) ⟨hx, hb, hml, hown, hts⟩ (c_X3_at l g L hL G (r 1) (u.1 1) (lnS 1) (vO.rm hV 1 (by decide)) (vO.ri hV 1 (by decide)) x1 v7 hv7) ⟨va_cnB 2 hts gX1_howManyLessThan_X3_at_n65 rfl rfl rfl (hC.2.1.2 (RX1, 65, yX3_at, RX3) (List.mem_of_getElem? (i := 6) rfl)) (hts (.initialized RX3) (List.mem_of_getElem? (i := 10) rfl)) (by decide +kernel) ⟨Nat.le_of_ble_eq_true rfl, Nat.le_of_ble_eq_true rfl⟩, (hts (.static yX3_at) (List.mem_of_getElem? (i := 9) rfl)), trivial⟩ (k_pre hC hS hP) rfl rfl hl.1 rfl (lv_room (Nat.le_of_ble_eq_true rfl)) dX1_howManyLessThan_34 ⟨Nat.zero_le _, Nat.zero_le _⟩) (fun H locs hP hS => ?_)
          obtain ⟨v9, hv9, hN⟩ := oB_spec hN
          refine k_iR hS (va_runV (As := [.int v5, .int v7]) (rest := []) ⟨hx, hb, hml, hown, hts⟩ (c_X1_isLess l g L hL G h0 r u hV v5 v7 v9 hv9) (cwV 2 hts gX1_howManyLessThan_X1_isLess rfl rfl rfl (by decide +kernel) ⟨Nat.le_of_ble_eq_true rfl, Nat.le_of_ble_eq_true rfl⟩) (k_preV hC hS hP (vO.m hV) (vO.o hV) rfl) rfl rfl hl.1 rfl (lv_room (Nat.le_of_ble_eq_true rfl)) dX1_howManyLessThan_37 ⟨Nat.zero_le _, Nat.zero_le _⟩) (fun H locs hP hS => ?_)
          refine lv_if_eq (tgt := 46) hx hb dX1_howManyLessThan_40 (by decide) (fun c11 => ?_) (fun c11 => ?_)
          · rw [if_pos c11] at hN
            refine lv_iinc (v := (x3 + 1)) (lv' := [(3, .int (x3 + 1)), (0, .ref h0), (1, .int x1), (2, .int x2)]) hx hb dX1_howManyLessThan_46 hl (k := 3) rfl rfl (by decide) rfl (fun ls hl => ?_)
            refine lv_goto (tgt := 4) hx hb dX1_howManyLessThan_49 (by decide) ?_
            exact ih x1 x2 (x3 + 1)  _ _ _ hP hS (lv_sub hl [1, 2, 3, 0] rfl) hN
          · rw [if_neg c11] at hN
            refine lv_iinc (v := (x2 + 1)) (lv' := [(2, .int (x2 + 1)), (0, .ref h0), (1, .int x1), (3, .int x3)]) hx hb dX1_howManyLessThan_43 hl (k := 2) rfl rfl (by decide) rfl (fun ls hl => ?_)
            refine lv_iinc (v := (x3 + 1)) (lv' := [(3, .int (x3 + 1)), (2, .int (x2 + 1)), (0, .ref h0), (1, .int x1)]) hx hb dX1_howManyLessThan_46 hl (k := 3) rfl rfl (by decide) rfl (fun ls hl => ?_)
            refine lv_goto (tgt := 4) hx hb dX1_howManyLessThan_49 (by decide) ?_
            exact ih x1 (x2 + 1) (x3 + 1)  _ _ _ hP hS (lv_sub hl [2, 3, 1, 0] rfl) hN
  have hl := lv_entry ([.ref h0, .int p0]) (n := 4) (Nat.le_of_ble_eq_true rfl)
  rw [lg_entry_eq]
  generalize (lg_sl ([.ref h0, .int p0]) ++ List.replicate (4 - (lg_sl ([.ref h0, .int p0])).length) Slot.unset).toArray = ls at hl ⊢
  have hl : lv_has ls 4 [(0, .ref h0), (1, .int p0)] := hl
  have hN := hF
  unfold F_X1_howManyLessThan at hN
  refine lv_iconst (v := 0) hx hb dX1_howManyLessThan_0 (by decide) ?_
  refine lv_istore_n (lv' := [(2, .int (0 : Int32)), (0, .ref h0), (1, .int p0)]) hx hb dX1_howManyLessThan_1 rfl hl (by decide) rfl (fun ls hl => ?_)
  refine lv_iconst (v := 0) hx hb dX1_howManyLessThan_2 (by decide) ?_
  refine lv_istore_n (lv' := [(3, .int (0 : Int32)), (2, .int (0 : Int32)), (0, .ref h0), (1, .int p0)]) hx hb dX1_howManyLessThan_3 rfl hl (by decide) rfl (fun ls hl => ?_)
  exact lp4 fuel p0 (0 : Int32) (0 : Int32)  _ _ _ hP hS (lv_sub hl [2, 3, 1, 0] rfl) hN
set_option maxHeartbeats 4000000 in
set_option maxRecDepth 100000 in
theorem c_X1_howMany (l : Launch) (g : Gm) (L : List Nat) {A : Nat → Prop} (hL : kL L A) (G : Nat → va_E) (h0 : Nat) (r : Nat → Nat) (u : St) (hV : vS g L G h0 r u) (p0 : Int32) (v : Int32) (hF : F_X1_howMany u p0 = some v) : Met l yX1_howMany wsX1_howMany ({ frames := 1, cells := 0, slots := 0, locals := 21 } : Room) (va_Pc [.ref h0, .int p0] (kB g L A G)) (va_Qi (fun x9 (G9 : Nat → va_E) => x9 = v ∧ G9 = G) (kE g L) A) 0 0 A := by
  refine Met.ofW (cc := cX1_howMany) (maxL := 4) (ret := (some .int)) (by decide) rfl ?_
  intro p e s m args below meth c s₁ B hml hv
  obtain ⟨rfl, hP, hC⟩ := hv
  have hx := B.exec
  have hb := B.bytes
  have hr := B.returns
  have hts := atoms_spec (ws := wsX1_howMany) B.pre
  have hown : s.vm.findClass RX1 = some m.cls := findClass_of_methodNamed B.named
  have hlk := B.notSynchronized
  have hS : va_S A s.heap s.heap [] := va_S.rf
  have lp4 : ∀ (n : Nat) (x1 : Int32) (x2 : Int32) (x3 : Int32) (H : Heap) (locs : List Loc) (ls : Array Slot), va_P g.1 vwCl (va_pl L G) H → va_S A s.heap H locs → lv_has ls 4 [(0, .ref h0), (1, .int x1), (2, .int x2), (3, .int x3)] → FL_X1_howMany_4 u n x1 x2 x3 = some v → W p l e (headSpec wsX1_howMany ({ frames := 1, cells := 0, slots := 0, locals := 21 } : Room)).room s m ([.ref h0, .int p0] : List Value).toArray below meth c H locs 0 0 (MQ below (va_Qi (fun x9 (G9 : Nat → va_E) => x9 = v ∧ G9 = G) (kE g L) A) ([.ref h0, .int p0] : List Value).toArray s 0 0 A) (F0 m 4 ls []) := by
    intro n
    induction n with
    | zero =>
      intro x1 x2 x3 H locs ls hP hS hl hN
      exact absurd hN (by simp [FL_X1_howMany_4])
    | succ n ih =>
      intro x1 x2 x3 H locs ls hP hS hl hN
      rw [FL_X1_howMany_4] at hN
      refine lv_iload_n hx hb dX1_howMany_4 rfl (lv_at hl 3 rfl) ?_
      refine lv_aload_n hx hb dX1_howMany_5 rfl (lv_at hl 0 rfl) ?_
      refine k_get (C := RX1) (T := TX1) (N := 13) (ci := 1) (v := .int (u.2.2 0)) hx hb hts (fun _ h => List.mem_cons_of_mem _ (List.mem_append_right _ h)) hown hC hP (vO.m hV) (vO.o hV) rfl 8 (by decide) (hts (.fieldLink RX1 37 "OrderedClauses$Store" "clauses" "I") (List.mem_of_getElem? (i := 1) rfl)) rfl dX1_howMany_6 ?_
      refine lv_icmp_ge (tgt := 38) hx hb dX1_howMany_9 (by decide) (fun c1 => ?_) (fun c1 => ?_)
      · rw [if_pos c1] at hN
        refine lv_iload_n hx hb dX1_howMany_38 rfl (lv_at hl 2 rfl) ?_
        exact k_iretR hx hb hr (Option.some.inj hN) hP hS hlk dX1_howMany_39
      · rw [if_neg c1] at hN
        refine lv_iload_n hx hb dX1_howMany_12 rfl (lv_at hl 2 rfl) ?_
        refine lv_aload_n hx hb dX1_howMany_13 rfl (lv_at hl 0 rfl) ?_
        refine k_get (C := RX1) (T := TX1) (N := 13) (ci := 1) (v := .ref (r 2)) hx hb hts (fun _ h => List.mem_cons_of_mem _ (List.mem_append_right _ h)) hown hC hP (vO.m hV) (vO.o hV) rfl 2 (by decide) (hts (.fieldLink RX1 18 "OrderedClauses$Store" "status" "[I") (List.mem_of_getElem? (i := 2) rfl)) rfl dX1_howMany_14 ?_
        refine lv_iload_n hx hb dX1_howMany_17 rfl (lv_at hl 3 rfl) ?_
        obtain ⟨v2, hv2, hN⟩ := oB_spec hN
        refine k_iR hS (va_runSN (As := [.ref (r 2), .int x3]) (rest := [.int x2]) ⟨hx, hb, hml, hown, hts⟩ (c_X3_at l g L hL G (r 2) (u.1 2) (lnS 2) (vO.rm hV 2 (by decide)) (vO.ri hV 2 (by decide)) x3 v2 hv2) ⟨va_cnB 2 hts gX1_howMany_X3_at_n65 rfl rfl rfl (hC.2.1.2 (RX1, 65, yX3_at, RX3) (List.mem_of_getElem? (i := 6) rfl)) (hts (.initialized RX3) (List.mem_of_getElem? (i := 4) rfl)) (by decide +kernel) ⟨Nat.le_of_ble_eq_true rfl, Nat.le_of_ble_eq_true rfl⟩, (hts (.static yX3_at) (List.mem_of_getElem? (i := 3) rfl)), trivial⟩ (k_pre hC hS hP) rfl rfl hl.1 rfl (lv_room (Nat.le_of_ble_eq_true rfl)) dX1_howMany_18 ⟨Nat.zero_le _, Nat.zero_le _⟩) (fun H locs hP hS => ?_)
        refine lv_iload_n hx hb dX1_howMany_21 rfl (lv_at hl 1 rfl) ?_
        refine lv_icmp_ne (tgt := 29) hx hb dX1_howMany_22 (by decide) (fun c4 => ?_) (fun c4 => ?_)
        · rw [if_neg c4] at hN
          refine lv_iconst (v := 0) hx hb dX1_howMany_29 (by decide) ?_
          refine lv_iadd hx hb dX1_howMany_30 ?_
          refine lv_istore_n (lv' := [(2, .int (x2 + (0 : Int32))), (0, .ref h0), (1, .int x1), (3, .int x3)]) hx hb dX1_howMany_31 rfl hl (by decide) rfl (fun ls hl => ?_)
          refine lv_iinc (v := (x3 + 1)) (lv' := [(3, .int (x3 + 1)), (2, .int (x2 + (0 : Int32))), (0, .ref h0), (1, .int x1)]) hx hb dX1_howMany_32 hl (k := 3) rfl rfl (by decide) rfl (fun ls hl => ?_)
          refine lv_goto (tgt := 4) hx hb dX1_howMany_35 (by decide) ?_
          exact ih x1 (x2 + (0 : Int32)) (x3 + 1)  _ _ _ hP hS (lv_sub hl [2, 3, 1, 0] rfl) hN
        · rw [if_pos c4] at hN
          refine lv_iconst (v := 1) hx hb dX1_howMany_25 (by decide) ?_
          refine lv_goto (tgt := 30) hx hb dX1_howMany_26 (by decide) ?_
          refine lv_iadd hx hb dX1_howMany_30 ?_
          refine lv_istore_n (lv' := [(2, .int (x2 + (1 : Int32))), (0, .ref h0), (1, .int x1), (3, .int x3)]) hx hb dX1_howMany_31 rfl hl (by decide) rfl (fun ls hl => ?_)
          refine lv_iinc (v := (x3 + 1)) (lv' := [(3, .int (x3 + 1)), (2, .int (x2 + (1 : Int32))), (0, .ref h0), (1, .int x1)]) hx hb dX1_howMany_32 hl (k := 3) rfl rfl (by decide) rfl (fun ls hl => ?_)
          refine lv_goto (tgt := 4) hx hb dX1_howMany_35 (by decide) ?_
          exact ih x1 (x2 + (1 : Int32)) (x3 + 1)  _ _ _ hP hS (lv_sub hl [2, 3, 1, 0] rfl) hN
  have hl := lv_entry ([.ref h0, .int p0]) (n := 4) (Nat.le_of_ble_eq_true rfl)
  rw [lg_entry_eq]
  generalize (lg_sl ([.ref h0, .int p0]) ++ List.replicate (4 - (lg_sl ([.ref h0, .int p0])).length) Slot.unset).toArray = ls at hl ⊢
  have hl : lv_has ls 4 [(0, .ref h0), (1, .int p0)] := hl
  have hN := hF
  unfold F_X1_howMany at hN
  refine lv_iconst (v := 0) hx hb dX1_howMany_0 (by decide) ?_
  refine lv_istore_n (lv' := [(2, .int (0 : Int32)), (0, .ref h0), (1, .int p0)]) hx hb dX1_howMany_1 rfl hl (by decide) rfl (fun ls hl => ?_)
  refine lv_iconst (v := 0) hx hb dX1_howMany_2 (by decide) ?_
  refine lv_istore_n (lv' := [(3, .int (0 : Int32)), (2, .int (0 : Int32)), (0, .ref h0), (1, .int p0)]) hx hb dX1_howMany_3 rfl hl (by decide) rfl (fun ls hl => ?_)
  exact lp4 fuel p0 (0 : Int32) (0 : Int32)  _ _ _ hP hS (lv_sub hl [2, 3, 1, 0] rfl) hN
set_option maxHeartbeats 4000000 in
set_option maxRecDepth 100000 in
theorem c_X1_emptyClause (l : Launch) (g : Gm) (L : List Nat) {A : Nat → Prop} (hL : kL L A) (G : Nat → va_E) (h0 : Nat) (r : Nat → Nat) (u : St) (hV : vS g L G h0 r u) (v : Int32) (hF : F_X1_emptyClause u = some v) : Met l yX1_emptyClause wsX1_emptyClause ({ frames := 1, cells := 0, slots := 0, locals := 21 } : Room) (va_Pc [.ref h0] (kB g L A G)) (va_Qi (fun x9 (G9 : Nat → va_E) => x9 = v ∧ G9 = G) (kE g L) A) 0 0 A := by
  refine Met.ofW (cc := cX1_emptyClause) (maxL := 2) (ret := (some .int)) (by decide) rfl ?_
  intro p e s m args below meth c s₁ B hml hv
  obtain ⟨rfl, hP, hC⟩ := hv
  have hx := B.exec
  have hb := B.bytes
  have hr := B.returns
  have hts := atoms_spec (ws := wsX1_emptyClause) B.pre
  have hown : s.vm.findClass RX1 = some m.cls := findClass_of_methodNamed B.named
  have hlk := B.notSynchronized
  have hS : va_S A s.heap s.heap [] := va_S.rf
  have lp2 : ∀ (n : Nat) (x1 : Int32) (H : Heap) (locs : List Loc) (ls : Array Slot), va_P g.1 vwCl (va_pl L G) H → va_S A s.heap H locs → lv_has ls 2 [(0, .ref h0), (1, .int x1)] → FL_X1_emptyClause_2 u n x1 = some v → W p l e (headSpec wsX1_emptyClause ({ frames := 1, cells := 0, slots := 0, locals := 21 } : Room)).room s m ([.ref h0] : List Value).toArray below meth c H locs 0 0 (MQ below (va_Qi (fun x9 (G9 : Nat → va_E) => x9 = v ∧ G9 = G) (kE g L) A) ([.ref h0] : List Value).toArray s 0 0 A) (F0 m 2 ls []) := by
    intro n
    induction n with
    | zero =>
      intro x1 H locs ls hP hS hl hN
      exact absurd hN (by simp [FL_X1_emptyClause_2])
    | succ n ih =>
      intro x1 H locs ls hP hS hl hN
      rw [FL_X1_emptyClause_2] at hN
      refine lv_iload_n hx hb dX1_emptyClause_2 rfl (lv_at hl 1 rfl) ?_
      refine lv_aload_n hx hb dX1_emptyClause_3 rfl (lv_at hl 0 rfl) ?_
      refine k_get (C := RX1) (T := TX1) (N := 13) (ci := 1) (v := .int (u.2.2 0)) hx hb hts (fun _ h => List.mem_cons_of_mem _ (List.mem_append_right _ h)) hown hC hP (vO.m hV) (vO.o hV) rfl 8 (by decide) (hts (.fieldLink RX1 37 "OrderedClauses$Store" "clauses" "I") (List.mem_of_getElem? (i := 1) rfl)) rfl dX1_emptyClause_4 ?_
      refine lv_icmp_ge (tgt := 29) hx hb dX1_emptyClause_7 (by decide) (fun c1 => ?_) (fun c1 => ?_)
      · rw [if_pos c1] at hN
        refine lv_iconst (v := (-1)) hx hb dX1_emptyClause_29 (by decide) ?_
        exact k_iretR hx hb hr (Option.some.inj hN) hP hS hlk dX1_emptyClause_30
      · rw [if_neg c1] at hN
        refine lv_aload_n hx hb dX1_emptyClause_10 rfl (lv_at hl 0 rfl) ?_
        refine k_get (C := RX1) (T := TX1) (N := 13) (ci := 1) (v := .ref (r 1)) hx hb hts (fun _ h => List.mem_cons_of_mem _ (List.mem_append_right _ h)) hown hC hP (vO.m hV) (vO.o hV) rfl 1 (by decide) (hts (.fieldLink RX1 15 "OrderedClauses$Store" "literals" "[I") (List.mem_of_getElem? (i := 2) rfl)) rfl dX1_emptyClause_11 ?_
        refine lv_iload_n hx hb dX1_emptyClause_14 rfl (lv_at hl 1 rfl) ?_
        obtain ⟨v2, hv2, hN⟩ := oB_spec hN
        refine k_iR hS (va_runSN (As := [.ref (r 1), .int x1]) (rest := []) ⟨hx, hb, hml, hown, hts⟩ (c_X3_at l g L hL G (r 1) (u.1 1) (lnS 1) (vO.rm hV 1 (by decide)) (vO.ri hV 1 (by decide)) x1 v2 hv2) ⟨va_cnB 2 hts gX1_emptyClause_X3_at_n65 rfl rfl rfl (hC.2.1.2 (RX1, 65, yX3_at, RX3) (List.mem_of_getElem? (i := 6) rfl)) (hts (.initialized RX3) (List.mem_of_getElem? (i := 4) rfl)) (by decide +kernel) ⟨Nat.le_of_ble_eq_true rfl, Nat.le_of_ble_eq_true rfl⟩, (hts (.static yX3_at) (List.mem_of_getElem? (i := 3) rfl)), trivial⟩ (k_pre hC hS hP) rfl rfl hl.1 rfl (lv_room (Nat.le_of_ble_eq_true rfl)) dX1_emptyClause_15 ⟨Nat.zero_le _, Nat.zero_le _⟩) (fun H locs hP hS => ?_)
        refine lv_if_ne (tgt := 23) hx hb dX1_emptyClause_18 (by decide) (fun c4 => ?_) (fun c4 => ?_)
        · rw [if_neg c4] at hN
          refine lv_iinc (v := (x1 + 1)) (lv' := [(1, .int (x1 + 1)), (0, .ref h0)]) hx hb dX1_emptyClause_23 hl (k := 1) rfl rfl (by decide) rfl (fun ls hl => ?_)
          refine lv_goto (tgt := 2) hx hb dX1_emptyClause_26 (by decide) ?_
          exact ih (x1 + 1)  _ _ _ hP hS (lv_sub hl [1, 0] rfl) hN
        · rw [if_pos c4] at hN
          refine lv_iload_n hx hb dX1_emptyClause_21 rfl (lv_at hl 1 rfl) ?_
          exact k_iretR hx hb hr (Option.some.inj hN) hP hS hlk dX1_emptyClause_22
  have hl := lv_entry ([.ref h0]) (n := 2) (Nat.le_of_ble_eq_true rfl)
  rw [lg_entry_eq]
  generalize (lg_sl ([.ref h0]) ++ List.replicate (2 - (lg_sl ([.ref h0])).length) Slot.unset).toArray = ls at hl ⊢
  have hl : lv_has ls 2 [(0, .ref h0)] := hl
  have hN := hF
  unfold F_X1_emptyClause at hN
  refine lv_iconst (v := 0) hx hb dX1_emptyClause_0 (by decide) ?_
  refine lv_istore_n (lv' := [(1, .int (0 : Int32)), (0, .ref h0)]) hx hb dX1_emptyClause_1 rfl hl (by decide) rfl (fun ls hl => ?_)
  exact lp2 fuel (0 : Int32)  _ _ _ hP hS (lv_sub hl [1, 0] rfl) hN
set_option maxHeartbeats 4000000 in
set_option maxRecDepth 100000 in
theorem c_X1_dropAllAround (l : Launch) (g : Gm) (L : List Nat) {A : Nat → Prop} (hL : kL L A) (G : Nat → va_E) (h0 : Nat) (r : Nat → Nat) (u : St) (hV : vS g L G h0 r u) (p0 : Int32) (w : St) (hF : F_X1_dropAllAround u p0 = some w) : Met l yX1_dropAllAround wsX1_dropAllAround ({ frames := 1, cells := 0, slots := 0, locals := 22 } : Room) (va_Pc [.ref h0, .int p0] (kB g L A G)) (va_Qv (fun G9 : Nat → va_E => (vS g L G9 h0 r w ∧ frS h0 r 8 G G9)) (kE g L) A) 0 0 A := by
  refine Met.ofW (cc := cX1_dropAllAround) (maxL := 3) (ret := none) (by decide) rfl ?_
  intro p e s m args below meth c s₁ B hml hv
  obtain ⟨rfl, hP, hC⟩ := hv
  have hx := B.exec
  have hb := B.bytes
  have hr := B.returns
  have hts := atoms_spec (ws := wsX1_dropAllAround) B.pre
  have hown : s.vm.findClass RX1 = some m.cls := findClass_of_methodNamed B.named
  have hlk := B.notSynchronized
  have hS : va_S A s.heap s.heap [] := va_S.rf
  have hV0 := hV
  have hfr : frS h0 r 8 G G := frS.rf
  have lp2 : ∀ (n : Nat) (u : St) (x1 : Int32) (x2 : Int32) (G1 : Nat → va_E) (H : Heap) (locs : List Loc) (ls : Array Slot), vS g L G1 h0 r u → frS h0 r 8 G G1 → va_P g.1 vwCl (va_pl L G1) H → va_S A s.heap H locs → lv_has ls 3 [(0, .ref h0), (1, .int x1), (2, .int x2)] → FL_X1_dropAllAround_2  n u x1 x2 = some w → W p l e (headSpec wsX1_dropAllAround ({ frames := 1, cells := 0, slots := 0, locals := 22 } : Room)).room s m ([.ref h0, .int p0] : List Value).toArray below meth c H locs 0 0 (MQ below (va_Qv (fun G9 : Nat → va_E => (vS g L G9 h0 r w ∧ frS h0 r 8 G G9)) (kE g L) A) ([.ref h0, .int p0] : List Value).toArray s 0 0 A) (F0 m 2 ls []) := by
    intro n
    induction n with
    | zero =>
      intro u x1 x2 G1 H locs ls hV hfr hP hS hl hN
      exact absurd hN (by simp [FL_X1_dropAllAround_2])
    | succ n ih =>
      intro u x1 x2 G1 H locs ls hV hfr hP hS hl hN
      rw [FL_X1_dropAllAround_2] at hN
      refine lv_iload_n hx hb dX1_dropAllAround_2 rfl (lv_at hl 2 rfl) ?_
      refine lv_aload_n hx hb dX1_dropAllAround_3 rfl (lv_at hl 0 rfl) ?_
      refine k_get (C := RX1) (T := TX1) (N := 13) (ci := 1) (v := .int (u.2.2 0)) hx hb hts (fun _ h => List.mem_cons_of_mem _ (List.mem_append_right _ h)) hown hC hP (vO.m hV) (vO.o hV) rfl 8 (by decide) (hts (.fieldLink RX1 37 "OrderedClauses$Store" "clauses" "I") (List.mem_of_getElem? (i := 1) rfl)) rfl dX1_dropAllAround_4 ?_
      refine lv_icmp_ge (tgt := 40) hx hb dX1_dropAllAround_7 (by decide) (fun c1 => ?_) (fun c1 => ?_)
      · rw [if_pos c1] at hN
        have hE := Option.some.inj hN
        exact k_vretW hx hb hr ⟨hE ▸ hV, hfr⟩ hP hS hlk dX1_dropAllAround_40
      · rw [if_neg c1] at hN
        refine lv_iload_n hx hb dX1_dropAllAround_10 rfl (lv_at hl 1 rfl) ?_
        refine lv_aload_n hx hb dX1_dropAllAround_11 rfl (lv_at hl 0 rfl) ?_
        refine k_get (C := RX1) (T := TX1) (N := 13) (ci := 1) (v := .ref (r 1)) hx hb hts (fun _ h => List.mem_cons_of_mem _ (List.mem_append_right _ h)) hown hC hP (vO.m hV) (vO.o hV) rfl 1 (by decide) (hts (.fieldLink RX1 15 "OrderedClauses$Store" "literals" "[I") (List.mem_of_getElem? (i := 2) rfl)) rfl dX1_dropAllAround_12 ?_
        refine lv_iload_n hx hb dX1_dropAllAround_15 rfl (lv_at hl 2 rfl) ?_
        obtain ⟨v2, hv2, hN⟩ := oB_spec hN
        refine k_iR hS (va_runSN (As := [.ref (r 1), .int x2]) (rest := [.int x1]) ⟨hx, hb, hml, hown, hts⟩ (c_X3_at l g L hL G1 (r 1) (u.1 1) (lnS 1) (vO.rm hV 1 (by decide)) (vO.ri hV 1 (by decide)) x2 v2 hv2) ⟨va_cnB 2 hts gX1_dropAllAround_X3_at_n65 rfl rfl rfl (hC.2.1.2 (RX1, 65, yX3_at, RX3) (List.mem_of_getElem? (i := 6) rfl)) (hts (.initialized RX3) (List.mem_of_getElem? (i := 5) rfl)) (by decide +kernel) ⟨Nat.le_of_ble_eq_true rfl, Nat.le_of_ble_eq_true rfl⟩, (hts (.static yX3_at) (List.mem_of_getElem? (i := 4) rfl)), trivial⟩ (k_pre hC hS hP) rfl rfl hl.1 rfl (lv_room (Nat.le_of_ble_eq_true rfl)) dX1_dropAllAround_16 ⟨Nat.zero_le _, Nat.zero_le _⟩) (fun H locs hP hS => ?_)
        obtain ⟨v4, hv4, hN⟩ := oB_spec hN
        refine k_iR hS (va_runSN (As := [.int x1, .int v2]) (rest := []) ⟨hx, hb, hml, hown, hts⟩ (c_X3_isWithin l g L hL G1 x1 v2 v4 hv4) ⟨va_cnB 2 hts gX1_dropAllAround_X3_isWithin_n103 rfl rfl rfl (hC.2.1.2 (RX1, 103, yX3_isWithin, RX3) (List.mem_of_getElem? (i := 26) rfl)) (hts (.initialized RX3) (List.mem_of_getElem? (i := 5) rfl)) (by decide +kernel) ⟨Nat.le_of_ble_eq_true rfl, Nat.le_of_ble_eq_true rfl⟩, (hts (.static yX3_isWithin) (List.mem_of_getElem? (i := 7) rfl)), trivial⟩ (k_pre hC hS hP) rfl rfl hl.1 rfl (lv_room (Nat.le_of_ble_eq_true rfl)) dX1_dropAllAround_19 ⟨Nat.zero_le _, Nat.zero_le _⟩) (fun H locs hP hS => ?_)
        refine lv_if_eq (tgt := 34) hx hb dX1_dropAllAround_22 (by decide) (fun c6 => ?_) (fun c6 => ?_)
        · rw [if_pos c6] at hN
          refine lv_iinc (v := (x2 + 1)) (lv' := [(2, .int (x2 + 1)), (0, .ref h0), (1, .int x1)]) hx hb dX1_dropAllAround_34 hl (k := 2) rfl rfl (by decide) rfl (fun ls hl => ?_)
          refine lv_goto (tgt := 2) hx hb dX1_dropAllAround_37 (by decide) ?_
          exact ih (u.1, u.2.1, u.2.2) x1 (x2 + 1)  _ _ _ _ hV hfr hP hS (lv_sub hl [1, 2, 0] rfl) hN
        · rw [if_neg c6] at hN
          refine lv_aload_n hx hb dX1_dropAllAround_25 rfl (lv_at hl 0 rfl) ?_
          refine k_get (C := RX1) (T := TX1) (N := 13) (ci := 1) (v := .ref (r 2)) hx hb hts (fun _ h => List.mem_cons_of_mem _ (List.mem_append_right _ h)) hown hC hP (vO.m hV) (vO.o hV) rfl 2 (by decide) (hts (.fieldLink RX1 18 "OrderedClauses$Store" "status" "[I") (List.mem_of_getElem? (i := 3) rfl)) rfl dX1_dropAllAround_26 ?_
          refine lv_iload_n hx hb dX1_dropAllAround_29 rfl (lv_at hl 2 rfl) ?_
          refine lv_iconst (v := 2) hx hb dX1_dropAllAround_30 (by decide) ?_
          obtain ⟨w8, hw8, hN⟩ := oB_spec hN
          refine k_v hS (va_runSN (As := [.ref (r 2), .int x2, .int (2 : Int32)]) (rest := []) ⟨hx, hb, hml, hown, hts⟩ (c_X3_put l g L hL G1 (r 2) (u.1 2) (lnS 2) (vO.rm hV 2 (by decide)) (vO.ri hV 2 (by decide)) x2 (2 : Int32) w8 hw8) ⟨va_cnB 3 hts gX1_dropAllAround_X3_put_n53 rfl rfl rfl (hC.2.1.2 (RX1, 53, yX3_put, RX3) (List.mem_of_getElem? (i := 1) rfl)) (hts (.initialized RX3) (List.mem_of_getElem? (i := 5) rfl)) (by decide +kernel) ⟨Nat.le_of_ble_eq_true rfl, Nat.le_of_ble_eq_true rfl⟩, (hts (.static yX3_put) (List.mem_of_getElem? (i := 9) rfl)), trivial⟩ (k_pre hC hS hP) rfl rfl hl.1 rfl (lv_room (Nat.le_of_ble_eq_true rfl)) dX1_dropAllAround_31 ⟨Nat.zero_le _, Nat.zero_le _⟩) (fun G9 H locs hq hP hS => ?_)
          have hV : vS g L G9 h0 r ((va_up u.1 2 w8), u.2.1, u.2.2) := by rw [hq]; exact vO.setI (f := u.1) (gg := u.2.1) (k := u.2.2) hV (by decide) 2 (by decide) _
          have hfr : frS h0 r 8 G G9 := by rw [hq]; exact vO.frI hfr 2 (by decide) _
          refine lv_iinc (v := (x2 + 1)) (lv' := [(2, .int (x2 + 1)), (0, .ref h0), (1, .int x1)]) hx hb dX1_dropAllAround_34 hl (k := 2) rfl rfl (by decide) rfl (fun ls hl => ?_)
          refine lv_goto (tgt := 2) hx hb dX1_dropAllAround_37 (by decide) ?_
          exact ih ((va_up u.1 2 w8), u.2.1, u.2.2) x1 (x2 + 1)  _ _ _ _ hV hfr hP hS (lv_sub hl [1, 2, 0] rfl) hN
  have hl := lv_entry ([.ref h0, .int p0]) (n := 3) (Nat.le_of_ble_eq_true rfl)
  rw [lg_entry_eq]
  generalize (lg_sl ([.ref h0, .int p0]) ++ List.replicate (3 - (lg_sl ([.ref h0, .int p0])).length) Slot.unset).toArray = ls at hl ⊢
  have hl : lv_has ls 3 [(0, .ref h0), (1, .int p0)] := hl
  have hN := hF
  unfold F_X1_dropAllAround at hN
  refine lv_iconst (v := 0) hx hb dX1_dropAllAround_0 (by decide) ?_
  refine lv_istore_n (lv' := [(2, .int (0 : Int32)), (0, .ref h0), (1, .int p0)]) hx hb dX1_dropAllAround_1 rfl hl (by decide) rfl (fun ls hl => ?_)
  exact lp2 fuel (u.1, u.2.1, u.2.2) p0 (0 : Int32)  _ _ _ _ hV hfr hP hS (lv_sub hl [1, 2, 0] rfl) hN
set_option maxHeartbeats 4000000 in
set_option maxRecDepth 100000 in
theorem c_X1_hasAnotherWithin (l : Launch) (g : Gm) (L : List Nat) {A : Nat → Prop} (hL : kL L A) (G : Nat → va_E) (h0 : Nat) (r : Nat → Nat) (u : St) (hV : vS g L G h0 r u) (p0 : Int32) (v : Int32) (hF : F_X1_hasAnotherWithin u p0 = some v) : Met l yX1_hasAnotherWithin wsX1_hasAnotherWithin ({ frames := 2, cells := 0, slots := 0, locals := 42 } : Room) (va_Pc [.ref h0, .int p0] (kB g L A G)) (va_Qi (fun x9 (G9 : Nat → va_E) => x9 = v ∧ G9 = G) (kE g L) A) 0 0 A := by
  refine Met.ofW (cc := cX1_hasAnotherWithin) (maxL := 3) (ret := (some .boolean)) (by decide) rfl ?_
  intro p e s m args below meth c s₁ B hml hv
  obtain ⟨rfl, hP, hC⟩ := hv
  have hx := B.exec
  have hb := B.bytes
  have hr := B.returns
  have hts := atoms_spec (ws := wsX1_hasAnotherWithin) B.pre
  have hown : s.vm.findClass RX1 = some m.cls := findClass_of_methodNamed B.named
  have hlk := B.notSynchronized
  have hS : va_S A s.heap s.heap [] := va_S.rf
  have lp2 : ∀ (n : Nat) (x1 : Int32) (x2 : Int32) (H : Heap) (locs : List Loc) (ls : Array Slot), va_P g.1 vwCl (va_pl L G) H → va_S A s.heap H locs → lv_has ls 3 [(0, .ref h0), (1, .int x1), (2, .int x2)] → FL_X1_hasAnotherWithin_2 u n x1 x2 = some v → W p l e (headSpec wsX1_hasAnotherWithin ({ frames := 2, cells := 0, slots := 0, locals := 42 } : Room)).room s m ([.ref h0, .int p0] : List Value).toArray below meth c H locs 0 0 (MQ below (va_Qi (fun x9 (G9 : Nat → va_E) => x9 = v ∧ G9 = G) (kE g L) A) ([.ref h0, .int p0] : List Value).toArray s 0 0 A) (F0 m 2 ls []) := by
    intro n
    induction n with
    | zero =>
      intro x1 x2 H locs ls hP hS hl hN
      exact absurd hN (by simp [FL_X1_hasAnotherWithin_2])
    | succ n ih =>
      intro x1 x2 H locs ls hP hS hl hN
      rw [FL_X1_hasAnotherWithin_2] at hN
      refine lv_iload_n hx hb dX1_hasAnotherWithin_2 rfl (lv_at hl 2 rfl) ?_
      refine lv_aload_n hx hb dX1_hasAnotherWithin_3 rfl (lv_at hl 0 rfl) ?_
      refine k_get (C := RX1) (T := TX1) (N := 13) (ci := 1) (v := .int (u.2.2 0)) hx hb hts (fun _ h => List.mem_cons_of_mem _ (List.mem_append_right _ h)) hown hC hP (vO.m hV) (vO.o hV) rfl 8 (by decide) (hts (.fieldLink RX1 37 "OrderedClauses$Store" "clauses" "I") (List.mem_of_getElem? (i := 1) rfl)) rfl dX1_hasAnotherWithin_4 ?_
      refine lv_icmp_ge (tgt := 41) hx hb dX1_hasAnotherWithin_7 (by decide) (fun c1 => ?_) (fun c1 => ?_)
      · rw [if_pos c1] at hN
        refine lv_iconst (v := 0) hx hb dX1_hasAnotherWithin_41 (by decide) ?_
        exact k_zretR hx hb hr (by decide) (Option.some.inj hN) hP hS hlk dX1_hasAnotherWithin_42
      · rw [if_neg c1] at hN
        refine lv_aload_n hx hb dX1_hasAnotherWithin_10 rfl (lv_at hl 0 rfl) ?_
        refine lv_iload_n hx hb dX1_hasAnotherWithin_11 rfl (lv_at hl 2 rfl) ?_
        obtain ⟨v2, hv2, hN⟩ := oB_spec hN
        refine k_iR hS (va_runV (As := [.int x2]) (rest := []) ⟨hx, hb, hml, hown, hts⟩ (c_X1_isDropped l g L hL G h0 r u hV x2 v2 hv2) (cwV 1 hts gX1_hasAnotherWithin_X1_isDropped rfl rfl rfl (by decide +kernel) ⟨Nat.le_of_ble_eq_true rfl, Nat.le_of_ble_eq_true rfl⟩) (k_preV hC hS hP (vO.m hV) (vO.o hV) rfl) rfl rfl hl.1 rfl (lv_room (Nat.le_of_ble_eq_true rfl)) dX1_hasAnotherWithin_12 ⟨Nat.zero_le _, Nat.zero_le _⟩) (fun H locs hP hS => ?_)
        refine lv_if_ne (tgt := 35) hx hb dX1_hasAnotherWithin_15 (by decide) (fun c4 => ?_) (fun c4 => ?_)
        · rw [if_neg c4] at hN
          refine lv_iinc (v := (x2 + 1)) (lv' := [(2, .int (x2 + 1)), (0, .ref h0), (1, .int x1)]) hx hb dX1_hasAnotherWithin_35 hl (k := 2) rfl rfl (by decide) rfl (fun ls hl => ?_)
          refine lv_goto (tgt := 2) hx hb dX1_hasAnotherWithin_38 (by decide) ?_
          exact ih x1 (x2 + 1)  _ _ _ hP hS (lv_sub hl [1, 2, 0] rfl) hN
        · rw [if_pos c4] at hN
          refine lv_aload_n hx hb dX1_hasAnotherWithin_18 rfl (lv_at hl 0 rfl) ?_
          refine k_get (C := RX1) (T := TX1) (N := 13) (ci := 1) (v := .ref (r 1)) hx hb hts (fun _ h => List.mem_cons_of_mem _ (List.mem_append_right _ h)) hown hC hP (vO.m hV) (vO.o hV) rfl 1 (by decide) (hts (.fieldLink RX1 15 "OrderedClauses$Store" "literals" "[I") (List.mem_of_getElem? (i := 2) rfl)) rfl dX1_hasAnotherWithin_19 ?_
          refine lv_iload_n hx hb dX1_hasAnotherWithin_22 rfl (lv_at hl 2 rfl) ?_
          obtain ⟨v5, hv5, hN⟩ := oB_spec hN
          refine k_iR hS (va_runSN (As := [.ref (r 1), .int x2]) (rest := []) ⟨hx, hb, hml, hown, hts⟩ (c_X3_at l g L hL G (r 1) (u.1 1) (lnS 1) (vO.rm hV 1 (by decide)) (vO.ri hV 1 (by decide)) x2 v5 hv5) ⟨va_cnB 2 hts gX1_hasAnotherWithin_X3_at_n65 rfl rfl rfl (hC.2.1.2 (RX1, 65, yX3_at, RX3) (List.mem_of_getElem? (i := 6) rfl)) (hts (.initialized RX3) (List.mem_of_getElem? (i := 10) rfl)) (by decide +kernel) ⟨Nat.le_of_ble_eq_true rfl, Nat.le_of_ble_eq_true rfl⟩, (hts (.static yX3_at) (List.mem_of_getElem? (i := 9) rfl)), trivial⟩ (k_pre hC hS hP) rfl rfl hl.1 rfl (lv_room (Nat.le_of_ble_eq_true rfl)) dX1_hasAnotherWithin_23 ⟨Nat.zero_le _, Nat.zero_le _⟩) (fun H locs hP hS => ?_)
          refine lv_iload_n hx hb dX1_hasAnotherWithin_26 rfl (lv_at hl 1 rfl) ?_
          obtain ⟨v7, hv7, hN⟩ := oB_spec hN
          refine k_iR hS (va_runSN (As := [.int v5, .int x1]) (rest := []) ⟨hx, hb, hml, hown, hts⟩ (c_X3_isWithin l g L hL G v5 x1 v7 hv7) ⟨va_cnB 2 hts gX1_hasAnotherWithin_X3_isWithin_n103 rfl rfl rfl (hC.2.1.2 (RX1, 103, yX3_isWithin, RX3) (List.mem_of_getElem? (i := 26) rfl)) (hts (.initialized RX3) (List.mem_of_getElem? (i := 10) rfl)) (by decide +kernel) ⟨Nat.le_of_ble_eq_true rfl, Nat.le_of_ble_eq_true rfl⟩, (hts (.static yX3_isWithin) (List.mem_of_getElem? (i := 12) rfl)), trivial⟩ (k_pre hC hS hP) rfl rfl hl.1 rfl (lv_room (Nat.le_of_ble_eq_true rfl)) dX1_hasAnotherWithin_27 ⟨Nat.zero_le _, Nat.zero_le _⟩) (fun H locs hP hS => ?_)
          refine lv_if_eq (tgt := 35) hx hb dX1_hasAnotherWithin_30 (by decide) (fun c9 => ?_) (fun c9 => ?_)
          · rw [if_pos c9] at hN
            refine lv_iinc (v := (x2 + 1)) (lv' := [(2, .int (x2 + 1)), (0, .ref h0), (1, .int x1)]) hx hb dX1_hasAnotherWithin_35 hl (k := 2) rfl rfl (by decide) rfl (fun ls hl => ?_)
            refine lv_goto (tgt := 2) hx hb dX1_hasAnotherWithin_38 (by decide) ?_
            exact ih x1 (x2 + 1)  _ _ _ hP hS (lv_sub hl [1, 2, 0] rfl) hN
          · rw [if_neg c9] at hN
            refine lv_iconst (v := 1) hx hb dX1_hasAnotherWithin_33 (by decide) ?_
            exact k_zretR hx hb hr (by decide) (Option.some.inj hN) hP hS hlk dX1_hasAnotherWithin_34
  have hl := lv_entry ([.ref h0, .int p0]) (n := 3) (Nat.le_of_ble_eq_true rfl)
  rw [lg_entry_eq]
  generalize (lg_sl ([.ref h0, .int p0]) ++ List.replicate (3 - (lg_sl ([.ref h0, .int p0])).length) Slot.unset).toArray = ls at hl ⊢
  have hl : lv_has ls 3 [(0, .ref h0), (1, .int p0)] := hl
  have hN := hF
  unfold F_X1_hasAnotherWithin at hN
  refine lv_iconst (v := 0) hx hb dX1_hasAnotherWithin_0 (by decide) ?_
  refine lv_istore_n (lv' := [(2, .int (0 : Int32)), (0, .ref h0), (1, .int p0)]) hx hb dX1_hasAnotherWithin_1 rfl hl (by decide) rfl (fun ls hl => ?_)
  exact lp2 fuel p0 (0 : Int32)  _ _ _ hP hS (lv_sub hl [1, 2, 0] rfl) hN
set_option maxHeartbeats 4000000 in
set_option maxRecDepth 100000 in
theorem c_X1_takeIn (l : Launch) (g : Gm) (L : List Nat) {A : Nat → Prop} (hL : kL L A) (G : Nat → va_E) (h0 : Nat) (r : Nat → Nat) (u : St) (hV : vS g L G h0 r u) (p0 : Int32) (p1 : Int32) (p2 : Int32) (p3 : Int32) (v : Int32) (w : St) (hF : F_X1_takeIn u p0 p1 p2 p3 = some (v, w)) : Met l yX1_takeIn wsX1_takeIn ({ frames := 2, cells := 0, slots := 0, locals := 47 } : Room) (va_Pc [.ref h0, .int p0, .int p1, .int p2, .int p3] (kB g L A G)) (va_Qi (fun x (G9 : Nat → va_E) => x = v ∧ (vS g L G9 h0 r w ∧ frS h0 r 8 G G9)) (kE g L) A) 0 0 A := by
  refine Met.ofW (cc := cX1_takeIn) (maxL := 7) (ret := (some .int)) (by decide) rfl ?_
  intro p e s m args below meth c s₁ B hml hv
  obtain ⟨rfl, hP, hC⟩ := hv
  have hx := B.exec
  have hb := B.bytes
  have hr := B.returns
  have hts := atoms_spec (ws := wsX1_takeIn) B.pre
  have hown : s.vm.findClass RX1 = some m.cls := findClass_of_methodNamed B.named
  have hlk := B.notSynchronized
  have hS : va_S A s.heap s.heap [] := va_S.rf
  have hV0 := hV
  have hfr : frS h0 r 8 G G := frS.rf
  have hl := lv_entry ([.ref h0, .int p0, .int p1, .int p2, .int p3]) (n := 7) (Nat.le_of_ble_eq_true rfl)
  rw [lg_entry_eq]
  generalize (lg_sl ([.ref h0, .int p0, .int p1, .int p2, .int p3]) ++ List.replicate (7 - (lg_sl ([.ref h0, .int p0, .int p1, .int p2, .int p3])).length) Slot.unset).toArray = ls at hl ⊢
  have hl : lv_has ls 7 [(0, .ref h0), (1, .int p0), (2, .int p1), (3, .int p2), (4, .int p3)] := hl
  have hN := hF
  unfold F_X1_takeIn at hN
  refine lv_aload_n hx hb dX1_takeIn_0 rfl (lv_at hl 0 rfl) ?_
  refine k_get (C := RX1) (T := TX1) (N := 13) (ci := 1) (v := .int (u.2.2 0)) hx hb hts (fun _ h => List.mem_cons_of_mem _ (List.mem_append_right _ h)) hown hC hP (vO.m hV) (vO.o hV) rfl 8 (by decide) (hts (.fieldLink RX1 37 "OrderedClauses$Store" "clauses" "I") (List.mem_of_getElem? (i := 1) rfl)) rfl dX1_takeIn_1 ?_
  refine lv_istore (lv' := [(5, .int (u.2.2 0)), (0, .ref h0), (1, .int p0), (2, .int p1), (3, .int p2), (4, .int p3)]) hx hb dX1_takeIn_4 hl (by decide) rfl (fun ls hl => ?_)
  refine lv_iload_n hx hb dX1_takeIn_6 rfl (lv_at hl 3 rfl) ?_
  refine lv_iconst (v := (-1)) hx hb dX1_takeIn_7 (by decide) ?_
  refine lv_icmp_ne (tgt := 15) hx hb dX1_takeIn_8 (by decide) (fun c1 => ?_) (fun c1 => ?_)
  · rw [if_neg c1] at hN
    refine lv_iconst (v := 0) hx hb dX1_takeIn_15 (by decide) ?_
    refine lv_istore (lv' := [(6, .int (0 : Int32)), (5, .int (u.2.2 0)), (0, .ref h0), (1, .int p0), (2, .int p1), (3, .int p2), (4, .int p3)]) hx hb dX1_takeIn_16 hl (by decide) rfl (fun ls hl => ?_)
    refine lv_aload_n hx hb dX1_takeIn_18 rfl (lv_at hl 2 rfl) ?_
    refine k_get (C := RX1) (T := TX1) (N := 13) (ci := 1) (v := .ref (r 1)) hx hb hts (fun _ h => List.mem_cons_of_mem _ (List.mem_append_right _ h)) hown hC hP (vO.m hV) (vO.o hV) rfl 1 (by decide) (hts (.fieldLink RX1 15 "OrderedClauses$Store" "literals" "[I") (List.mem_of_getElem? (i := 2) rfl)) rfl dX1_takeIn_19 ?_
    refine lv_iload hx hb dX1_takeIn_22 (lv_at hl 1 rfl) ?_
    refine lv_iload_n hx hb dX1_takeIn_24 rfl (lv_at hl 3 rfl) ?_
    obtain ⟨w3, hw3, hN⟩ := oB_spec hN
    refine k_v hS (va_runSN (As := [.ref (r 1), .int (u.2.2 0), .int p0]) (rest := []) ⟨hx, hb, hml, hown, hts⟩ (c_X3_put l g L hL G (r 1) (u.1 1) (lnS 1) (vO.rm hV 1 (by decide)) (vO.ri hV 1 (by decide)) (u.2.2 0) p0 w3 hw3) ⟨va_cnB 3 hts gX1_takeIn_X3_put_n53 rfl rfl rfl (hC.2.1.2 (RX1, 53, yX3_put, RX3) (List.mem_of_getElem? (i := 1) rfl)) (hts (.initialized RX3) (List.mem_of_getElem? (i := 14) rfl)) (by decide +kernel) ⟨Nat.le_of_ble_eq_true rfl, Nat.le_of_ble_eq_true rfl⟩, (hts (.static yX3_put) (List.mem_of_getElem? (i := 13) rfl)), trivial⟩ (k_pre hC hS hP) rfl rfl hl.1 rfl (lv_room (Nat.le_of_ble_eq_true rfl)) dX1_takeIn_25 ⟨Nat.zero_le _, Nat.zero_le _⟩) (fun G4 H locs hq hP hS => ?_)
    have hV : vS g L G4 h0 r ((va_up u.1 1 w3), u.2.1, u.2.2) := by rw [hq]; exact vO.setI (f := u.1) (gg := u.2.1) (k := u.2.2) hV (by decide) 1 (by decide) _
    have hfr : frS h0 r 8 G G4 := by rw [hq]; exact vO.frI hfr 1 (by decide) _
    refine lv_aload_n hx hb dX1_takeIn_28 rfl (lv_at hl 2 rfl) ?_
    refine k_get (C := RX1) (T := TX1) (N := 13) (ci := 1) (v := .ref (r 2)) hx hb hts (fun _ h => List.mem_cons_of_mem _ (List.mem_append_right _ h)) hown hC hP (vO.m hV) (vO.o hV) rfl 2 (by decide) (hts (.fieldLink RX1 18 "OrderedClauses$Store" "status" "[I") (List.mem_of_getElem? (i := 3) rfl)) rfl dX1_takeIn_29 ?_
    refine lv_iload hx hb dX1_takeIn_32 (lv_at hl 1 rfl) ?_
    refine lv_iconst (v := 0) hx hb dX1_takeIn_34 (by decide) ?_
    obtain ⟨w6, hw6, hN⟩ := oB_spec hN
    refine k_v hS (va_runSN (As := [.ref (r 2), .int (u.2.2 0), .int (0 : Int32)]) (rest := []) ⟨hx, hb, hml, hown, hts⟩ (c_X3_put l g L hL G4 (r 2) ((va_up u.1 1 w3) 2) (lnS 2) (vO.rm hV 2 (by decide)) (vO.ri hV 2 (by decide)) (u.2.2 0) (0 : Int32) w6 hw6) ⟨va_cnB 3 hts gX1_takeIn_X3_put_n53 rfl rfl rfl (hC.2.1.2 (RX1, 53, yX3_put, RX3) (List.mem_of_getElem? (i := 1) rfl)) (hts (.initialized RX3) (List.mem_of_getElem? (i := 14) rfl)) (by decide +kernel) ⟨Nat.le_of_ble_eq_true rfl, Nat.le_of_ble_eq_true rfl⟩, (hts (.static yX3_put) (List.mem_of_getElem? (i := 13) rfl)), trivial⟩ (k_pre hC hS hP) rfl rfl hl.1 rfl (lv_room (Nat.le_of_ble_eq_true rfl)) dX1_takeIn_35 ⟨Nat.zero_le _, Nat.zero_le _⟩) (fun G7 H locs hq hP hS => ?_)
    have hV : vS g L G7 h0 r ((va_up (va_up u.1 1 w3) 2 w6), u.2.1, u.2.2) := by rw [hq]; exact vO.setI (f := (va_up u.1 1 w3)) (gg := u.2.1) (k := u.2.2) hV (by decide) 2 (by decide) _
    have hfr : frS h0 r 8 G G7 := by rw [hq]; exact vO.frI hfr 2 (by decide) _
    refine lv_aload_n hx hb dX1_takeIn_38 rfl (lv_at hl 2 rfl) ?_
    refine k_get (C := RX1) (T := TX1) (N := 13) (ci := 1) (v := .ref (r 3)) hx hb hts (fun _ h => List.mem_cons_of_mem _ (List.mem_append_right _ h)) hown hC hP (vO.m hV) (vO.o hV) rfl 3 (by decide) (hts (.fieldLink RX1 21 "OrderedClauses$Store" "holdingParent" "[I") (List.mem_of_getElem? (i := 4) rfl)) rfl dX1_takeIn_39 ?_
    refine lv_iload hx hb dX1_takeIn_42 (lv_at hl 1 rfl) ?_
    refine lv_iload_n hx hb dX1_takeIn_44 rfl (lv_at hl 4 rfl) ?_
    obtain ⟨w9, hw9, hN⟩ := oB_spec hN
    refine k_v hS (va_runSN (As := [.ref (r 3), .int (u.2.2 0), .int p1]) (rest := []) ⟨hx, hb, hml, hown, hts⟩ (c_X3_put l g L hL G7 (r 3) ((va_up (va_up u.1 1 w3) 2 w6) 3) (lnS 3) (vO.rm hV 3 (by decide)) (vO.ri hV 3 (by decide)) (u.2.2 0) p1 w9 hw9) ⟨va_cnB 3 hts gX1_takeIn_X3_put_n53 rfl rfl rfl (hC.2.1.2 (RX1, 53, yX3_put, RX3) (List.mem_of_getElem? (i := 1) rfl)) (hts (.initialized RX3) (List.mem_of_getElem? (i := 14) rfl)) (by decide +kernel) ⟨Nat.le_of_ble_eq_true rfl, Nat.le_of_ble_eq_true rfl⟩, (hts (.static yX3_put) (List.mem_of_getElem? (i := 13) rfl)), trivial⟩ (k_pre hC hS hP) rfl rfl hl.1 rfl (lv_room (Nat.le_of_ble_eq_true rfl)) dX1_takeIn_45 ⟨Nat.zero_le _, Nat.zero_le _⟩) (fun G10 H locs hq hP hS => ?_)
    have hV : vS g L G10 h0 r ((va_up (va_up (va_up u.1 1 w3) 2 w6) 3 w9), u.2.1, u.2.2) := by rw [hq]; exact vO.setI (f := (va_up (va_up u.1 1 w3) 2 w6)) (gg := u.2.1) (k := u.2.2) hV (by decide) 3 (by decide) _
    have hfr : frS h0 r 8 G G10 := by rw [hq]; exact vO.frI hfr 3 (by decide) _
    refine lv_aload_n hx hb dX1_takeIn_48 rfl (lv_at hl 2 rfl) ?_
    refine k_get (C := RX1) (T := TX1) (N := 13) (ci := 1) (v := .ref (r 4)) hx hb hts (fun _ h => List.mem_cons_of_mem _ (List.mem_append_right _ h)) hown hC hP (vO.m hV) (vO.o hV) rfl 4 (by decide) (hts (.fieldLink RX1 24 "OrderedClauses$Store" "otherParent" "[I") (List.mem_of_getElem? (i := 5) rfl)) rfl dX1_takeIn_49 ?_
    refine lv_iload hx hb dX1_takeIn_52 (lv_at hl 1 rfl) ?_
    refine lv_iload_n hx hb dX1_takeIn_54 rfl (lv_at hl 5 rfl) ?_
    obtain ⟨w12, hw12, hN⟩ := oB_spec hN
    refine k_v hS (va_runSN (As := [.ref (r 4), .int (u.2.2 0), .int p2]) (rest := []) ⟨hx, hb, hml, hown, hts⟩ (c_X3_put l g L hL G10 (r 4) ((va_up (va_up (va_up u.1 1 w3) 2 w6) 3 w9) 4) (lnS 4) (vO.rm hV 4 (by decide)) (vO.ri hV 4 (by decide)) (u.2.2 0) p2 w12 hw12) ⟨va_cnB 3 hts gX1_takeIn_X3_put_n53 rfl rfl rfl (hC.2.1.2 (RX1, 53, yX3_put, RX3) (List.mem_of_getElem? (i := 1) rfl)) (hts (.initialized RX3) (List.mem_of_getElem? (i := 14) rfl)) (by decide +kernel) ⟨Nat.le_of_ble_eq_true rfl, Nat.le_of_ble_eq_true rfl⟩, (hts (.static yX3_put) (List.mem_of_getElem? (i := 13) rfl)), trivial⟩ (k_pre hC hS hP) rfl rfl hl.1 rfl (lv_room (Nat.le_of_ble_eq_true rfl)) dX1_takeIn_55 ⟨Nat.zero_le _, Nat.zero_le _⟩) (fun G13 H locs hq hP hS => ?_)
    have hV : vS g L G13 h0 r ((va_up (va_up (va_up (va_up u.1 1 w3) 2 w6) 3 w9) 4 w12), u.2.1, u.2.2) := by rw [hq]; exact vO.setI (f := (va_up (va_up (va_up u.1 1 w3) 2 w6) 3 w9)) (gg := u.2.1) (k := u.2.2) hV (by decide) 4 (by decide) _
    have hfr : frS h0 r 8 G G13 := by rw [hq]; exact vO.frI hfr 4 (by decide) _
    refine lv_aload_n hx hb dX1_takeIn_58 rfl (lv_at hl 2 rfl) ?_
    refine k_get (C := RX1) (T := TX1) (N := 13) (ci := 1) (v := .ref (r 5)) hx hb hts (fun _ h => List.mem_cons_of_mem _ (List.mem_append_right _ h)) hown hC hP (vO.m hV) (vO.o hV) rfl 5 (by decide) (hts (.fieldLink RX1 27 "OrderedClauses$Store" "atomMadeBy" "[I") (List.mem_of_getElem? (i := 6) rfl)) rfl dX1_takeIn_59 ?_
    refine lv_iload hx hb dX1_takeIn_62 (lv_at hl 1 rfl) ?_
    refine lv_iload hx hb dX1_takeIn_64 (lv_at hl 6 rfl) ?_
    obtain ⟨w15, hw15, hN⟩ := oB_spec hN
    refine k_v hS (va_runSN (As := [.ref (r 5), .int (u.2.2 0), .int p3]) (rest := []) ⟨hx, hb, hml, hown, hts⟩ (c_X3_put l g L hL G13 (r 5) ((va_up (va_up (va_up (va_up u.1 1 w3) 2 w6) 3 w9) 4 w12) 5) (lnS 5) (vO.rm hV 5 (by decide)) (vO.ri hV 5 (by decide)) (u.2.2 0) p3 w15 hw15) ⟨va_cnB 3 hts gX1_takeIn_X3_put_n53 rfl rfl rfl (hC.2.1.2 (RX1, 53, yX3_put, RX3) (List.mem_of_getElem? (i := 1) rfl)) (hts (.initialized RX3) (List.mem_of_getElem? (i := 14) rfl)) (by decide +kernel) ⟨Nat.le_of_ble_eq_true rfl, Nat.le_of_ble_eq_true rfl⟩, (hts (.static yX3_put) (List.mem_of_getElem? (i := 13) rfl)), trivial⟩ (k_pre hC hS hP) rfl rfl hl.1 rfl (lv_room (Nat.le_of_ble_eq_true rfl)) dX1_takeIn_66 ⟨Nat.zero_le _, Nat.zero_le _⟩) (fun G16 H locs hq hP hS => ?_)
    have hV : vS g L G16 h0 r ((va_up (va_up (va_up (va_up (va_up u.1 1 w3) 2 w6) 3 w9) 4 w12) 5 w15), u.2.1, u.2.2) := by rw [hq]; exact vO.setI (f := (va_up (va_up (va_up (va_up u.1 1 w3) 2 w6) 3 w9) 4 w12)) (gg := u.2.1) (k := u.2.2) hV (by decide) 5 (by decide) _
    have hfr : frS h0 r 8 G G16 := by rw [hq]; exact vO.frI hfr 5 (by decide) _
    refine lv_aload_n hx hb dX1_takeIn_69 rfl (lv_at hl 2 rfl) ?_
    refine k_get (C := RX1) (T := TX1) (N := 13) (ci := 1) (v := .ref (r 6)) hx hb hts (fun _ h => List.mem_cons_of_mem _ (List.mem_append_right _ h)) hown hC hP (vO.m hV) (vO.o hV) rfl 6 (by decide) (hts (.fieldLink RX1 30 "OrderedClauses$Store" "depth" "[I") (List.mem_of_getElem? (i := 7) rfl)) rfl dX1_takeIn_70 ?_
    refine lv_iload hx hb dX1_takeIn_73 (lv_at hl 1 rfl) ?_
    refine lv_iload hx hb dX1_takeIn_75 (lv_at hl 0 rfl) ?_
    refine lv_if_eq (tgt := 84) hx hb dX1_takeIn_77 (by decide) (fun _ => ?_) (fun c9 => absurd c9 (by decide))
    refine lv_iconst (v := 1) hx hb dX1_takeIn_84 (by decide) ?_
    refine lv_aload_n hx hb dX1_takeIn_85 rfl (lv_at hl 2 rfl) ?_
    refine k_get (C := RX1) (T := TX1) (N := 13) (ci := 1) (v := .ref (r 6)) hx hb hts (fun _ h => List.mem_cons_of_mem _ (List.mem_append_right _ h)) hown hC hP (vO.m hV) (vO.o hV) rfl 6 (by decide) (hts (.fieldLink RX1 30 "OrderedClauses$Store" "depth" "[I") (List.mem_of_getElem? (i := 7) rfl)) rfl dX1_takeIn_86 ?_
    refine lv_iload_n hx hb dX1_takeIn_89 rfl (lv_at hl 4 rfl) ?_
    obtain ⟨v17, hv17, hN⟩ := oB_spec hN
    refine k_iR hS (va_runSN (As := [.ref (r 6), .int p1]) (rest := [.int (1 : Int32), .int (u.2.2 0), .ref (r 6)]) ⟨hx, hb, hml, hown, hts⟩ (c_X3_at l g L hL G16 (r 6) ((va_up (va_up (va_up (va_up (va_up u.1 1 w3) 2 w6) 3 w9) 4 w12) 5 w15) 6) (lnS 6) (vO.rm hV 6 (by decide)) (vO.ri hV 6 (by decide)) p1 v17 hv17) ⟨va_cnB 2 hts gX1_takeIn_X3_at_n65 rfl rfl rfl (hC.2.1.2 (RX1, 65, yX3_at, RX3) (List.mem_of_getElem? (i := 6) rfl)) (hts (.initialized RX3) (List.mem_of_getElem? (i := 14) rfl)) (by decide +kernel) ⟨Nat.le_of_ble_eq_true rfl, Nat.le_of_ble_eq_true rfl⟩, (hts (.static yX3_at) (List.mem_of_getElem? (i := 16) rfl)), trivial⟩ (k_pre hC hS hP) rfl rfl hl.1 rfl (lv_room (Nat.le_of_ble_eq_true rfl)) dX1_takeIn_90 ⟨Nat.zero_le _, Nat.zero_le _⟩) (fun H locs hP hS => ?_)
    refine lv_aload_n hx hb dX1_takeIn_93 rfl (lv_at hl 2 rfl) ?_
    refine k_get (C := RX1) (T := TX1) (N := 13) (ci := 1) (v := .ref (r 6)) hx hb hts (fun _ h => List.mem_cons_of_mem _ (List.mem_append_right _ h)) hown hC hP (vO.m hV) (vO.o hV) rfl 6 (by decide) (hts (.fieldLink RX1 30 "OrderedClauses$Store" "depth" "[I") (List.mem_of_getElem? (i := 7) rfl)) rfl dX1_takeIn_94 ?_
    refine lv_iload_n hx hb dX1_takeIn_97 rfl (lv_at hl 5 rfl) ?_
    obtain ⟨v19, hv19, hN⟩ := oB_spec hN
    refine k_iR hS (va_runSN (As := [.ref (r 6), .int p2]) (rest := [.int v17, .int (1 : Int32), .int (u.2.2 0), .ref (r 6)]) ⟨hx, hb, hml, hown, hts⟩ (c_X3_at l g L hL G16 (r 6) ((va_up (va_up (va_up (va_up (va_up u.1 1 w3) 2 w6) 3 w9) 4 w12) 5 w15) 6) (lnS 6) (vO.rm hV 6 (by decide)) (vO.ri hV 6 (by decide)) p2 v19 hv19) ⟨va_cnB 2 hts gX1_takeIn_X3_at_n65 rfl rfl rfl (hC.2.1.2 (RX1, 65, yX3_at, RX3) (List.mem_of_getElem? (i := 6) rfl)) (hts (.initialized RX3) (List.mem_of_getElem? (i := 14) rfl)) (by decide +kernel) ⟨Nat.le_of_ble_eq_true rfl, Nat.le_of_ble_eq_true rfl⟩, (hts (.static yX3_at) (List.mem_of_getElem? (i := 16) rfl)), trivial⟩ (k_pre hC hS hP) rfl rfl hl.1 rfl (lv_room (Nat.le_of_ble_eq_true rfl)) dX1_takeIn_98 ⟨Nat.zero_le _, Nat.zero_le _⟩) (fun H locs hP hS => ?_)
    refine va_mmax hx hb (hml.trans hl.1.symm) hown (hts (.methodLink RX1 106 Lib.Math.max.name) (List.mem_of_getElem? (i := 8) rfl)) (hts (.static Lib.Math.max.name) (List.mem_of_getElem? (i := 9) rfl)) (hts (.initialized "java/lang/Math") (List.mem_of_getElem? (i := 10) rfl)) (hts (.code Lib.Math.max.name Lib.Math.max.code 2 (some .int)) (List.mem_of_getElem? (i := 11) rfl)) (Nat.le_of_ble_eq_true rfl) (Nat.le_of_ble_eq_true rfl) (Nat.zero_le _) (Nat.zero_le _) dX1_takeIn_101 ?_
    refine lv_iadd hx hb dX1_takeIn_104 ?_
    obtain ⟨w22, hw22, hN⟩ := oB_spec hN
    refine k_v hS (va_runSN (As := [.ref (r 6), .int (u.2.2 0), .int ((1 : Int32) + (if v17 < v19 then v19 else v17))]) (rest := []) ⟨hx, hb, hml, hown, hts⟩ (c_X3_put l g L hL G16 (r 6) ((va_up (va_up (va_up (va_up (va_up u.1 1 w3) 2 w6) 3 w9) 4 w12) 5 w15) 6) (lnS 6) (vO.rm hV 6 (by decide)) (vO.ri hV 6 (by decide)) (u.2.2 0) ((1 : Int32) + (if v17 < v19 then v19 else v17)) w22 hw22) ⟨va_cnB 3 hts gX1_takeIn_X3_put_n53 rfl rfl rfl (hC.2.1.2 (RX1, 53, yX3_put, RX3) (List.mem_of_getElem? (i := 1) rfl)) (hts (.initialized RX3) (List.mem_of_getElem? (i := 14) rfl)) (by decide +kernel) ⟨Nat.le_of_ble_eq_true rfl, Nat.le_of_ble_eq_true rfl⟩, (hts (.static yX3_put) (List.mem_of_getElem? (i := 13) rfl)), trivial⟩ (k_pre hC hS hP) rfl rfl hl.1 rfl (lv_room (Nat.le_of_ble_eq_true rfl)) dX1_takeIn_105 ⟨Nat.zero_le _, Nat.zero_le _⟩) (fun G23 H locs hq hP hS => ?_)
    have hV : vS g L G23 h0 r ((va_up (va_up (va_up (va_up (va_up (va_up u.1 1 w3) 2 w6) 3 w9) 4 w12) 5 w15) 6 w22), u.2.1, u.2.2) := by rw [hq]; exact vO.setI (f := (va_up (va_up (va_up (va_up (va_up u.1 1 w3) 2 w6) 3 w9) 4 w12) 5 w15)) (gg := u.2.1) (k := u.2.2) hV (by decide) 6 (by decide) _
    have hfr : frS h0 r 8 G G23 := by rw [hq]; exact vO.frI hfr 6 (by decide) _
    refine lv_aload_n hx hb dX1_takeIn_108 rfl (lv_at hl 2 rfl) ?_
    refine k_get (C := RX1) (T := TX1) (N := 13) (ci := 1) (v := .ref (r 7)) hx hb hts (fun _ h => List.mem_cons_of_mem _ (List.mem_append_right _ h)) hown hC hP (vO.m hV) (vO.o hV) rfl 7 (by decide) (hts (.fieldLink RX1 33 "OrderedClauses$Store" "fulfilledBy" "[J") (List.mem_of_getElem? (i := 12) rfl)) rfl dX1_takeIn_109 ?_
    refine lv_iload hx hb dX1_takeIn_112 (lv_at hl 1 rfl) ?_
    refine lv_iload_n hx hb dX1_takeIn_114 rfl (lv_at hl 3 rfl) ?_
    obtain ⟨v24, hv24, hN⟩ := oB_spec hN
    refine k_lR hS (va_runSN (As := [.int p0]) (rest := [.int (u.2.2 0), .ref (r 7)]) ⟨hx, hb, hml, hown, hts⟩ (c_X3_valuesOfClause l g L hL G23 p0 v24 hv24) ⟨va_cnB 1 hts gX1_takeIn_X3_valuesOfClause_n112 rfl rfl rfl (hC.2.1.2 (RX1, 112, yX3_valuesOfClause, RX3) (List.mem_of_getElem? (i := 27) rfl)) (hts (.initialized RX3) (List.mem_of_getElem? (i := 14) rfl)) (by decide +kernel) ⟨Nat.le_of_ble_eq_true rfl, Nat.le_of_ble_eq_true rfl⟩, (hts (.static yX3_valuesOfClause) (List.mem_of_getElem? (i := 18) rfl)), trivial⟩ (k_pre hC hS hP) rfl rfl hl.1 rfl (lv_room (Nat.le_of_ble_eq_true rfl)) dX1_takeIn_115 ⟨Nat.zero_le _, Nat.zero_le _⟩) (fun H locs hP hS => ?_)
    obtain ⟨w27, hw27, hN⟩ := oB_spec hN
    refine k_v hS (va_runSN (As := [.ref (r 7), .int (u.2.2 0), .long v24]) (rest := []) ⟨hx, hb, hml, hown, hts⟩ (c_X3_putLong l g L hL G23 (r 7) u.2.1 (lnS 7) (vO.rm hV 7 (by decide)) (vO.rl hV 7 (by decide) (by decide)) (u.2.2 0) v24 w27 hw27) ⟨va_cnB 3 hts gX1_takeIn_X3_putLong_n116 rfl rfl rfl (hC.2.1.2 (RX1, 116, yX3_putLong, RX3) (List.mem_of_getElem? (i := 28) rfl)) (hts (.initialized RX3) (List.mem_of_getElem? (i := 14) rfl)) (by decide +kernel) ⟨Nat.le_of_ble_eq_true rfl, Nat.le_of_ble_eq_true rfl⟩, (hts (.static yX3_putLong) (List.mem_of_getElem? (i := 25) rfl)), trivial⟩ (k_pre hC hS hP) rfl rfl hl.1 rfl (lv_room (Nat.le_of_ble_eq_true rfl)) dX1_takeIn_118 ⟨Nat.zero_le _, Nat.zero_le _⟩) (fun G28 H locs hq hP hS => ?_)
    have hV : vS g L G28 h0 r ((va_up (va_up (va_up (va_up (va_up (va_up u.1 1 w3) 2 w6) 3 w9) 4 w12) 5 w15) 6 w22), w27, u.2.2) := by rw [hq]; exact vO.setL (f := (va_up (va_up (va_up (va_up (va_up (va_up u.1 1 w3) 2 w6) 3 w9) 4 w12) 5 w15) 6 w22)) (gg := u.2.1) (k := u.2.2) hV rfl _
    have hfr : frS h0 r 8 G G28 := by rw [hq]; exact vO.frI hfr 7 (by decide) _
    refine lv_aload_n hx hb dX1_takeIn_121 rfl (lv_at hl 2 rfl) ?_
    refine lv_iload hx hb dX1_takeIn_122 (lv_at hl 1 rfl) ?_
    refine lv_iconst (v := 1) hx hb dX1_takeIn_124 (by decide) ?_
    refine lv_iadd hx hb dX1_takeIn_125 ?_
    refine k_putE (C := RX1) (T := TX1) (N := 13) (ci := 1) hx hb hts (fun _ h => List.mem_cons_of_mem _ (List.mem_append_right _ h)) tyX1 tyX1_ok nmX1 hown hL hC hP hS (vO.m hV) (vO.o hV) rfl 8 (by decide) (hts (.fieldLink RX1 37 "OrderedClauses$Store" "clauses" "I") (List.mem_of_getElem? (i := 1) rfl)) (by decide +kernel) (by decide +kernel) (Nat.le_of_ble_eq_true rfl) dX1_takeIn_126 (fun G29 H locs hq hP hS => ?_)
    have hV : vS g L G29 h0 r ((va_up (va_up (va_up (va_up (va_up (va_up u.1 1 w3) 2 w6) 3 w9) 4 w12) 5 w15) 6 w22), w27, (va_up u.2.2 0 ((u.2.2 0) + (1 : Int32)))) := by rw [hq]; exact vO.setK (f := (va_up (va_up (va_up (va_up (va_up (va_up u.1 1 w3) 2 w6) 3 w9) 4 w12) 5 w15) 6 w22)) (gg := w27) (k := u.2.2) hV rfl
    have hfr : frS h0 r 8 G G29 := by rw [hq]; exact vO.frK hfr _
    refine lv_iload hx hb dX1_takeIn_129 (lv_at hl 1 rfl) ?_
    obtain ⟨hE, hE2⟩ := spair hN
    exact k_iretW hx hb hr hE ⟨hE2 ▸ hV, hfr⟩ hP hS hlk dX1_takeIn_131
  · rw [if_pos c1] at hN
    refine lv_iconst (v := 1) hx hb dX1_takeIn_11 (by decide) ?_
    refine lv_goto (tgt := 16) hx hb dX1_takeIn_12 (by decide) ?_
    refine lv_istore (lv' := [(6, .int (1 : Int32)), (5, .int (u.2.2 0)), (0, .ref h0), (1, .int p0), (2, .int p1), (3, .int p2), (4, .int p3)]) hx hb dX1_takeIn_16 hl (by decide) rfl (fun ls hl => ?_)
    refine lv_aload_n hx hb dX1_takeIn_18 rfl (lv_at hl 2 rfl) ?_
    refine k_get (C := RX1) (T := TX1) (N := 13) (ci := 1) (v := .ref (r 1)) hx hb hts (fun _ h => List.mem_cons_of_mem _ (List.mem_append_right _ h)) hown hC hP (vO.m hV) (vO.o hV) rfl 1 (by decide) (hts (.fieldLink RX1 15 "OrderedClauses$Store" "literals" "[I") (List.mem_of_getElem? (i := 2) rfl)) rfl dX1_takeIn_19 ?_
    refine lv_iload hx hb dX1_takeIn_22 (lv_at hl 1 rfl) ?_
    refine lv_iload_n hx hb dX1_takeIn_24 rfl (lv_at hl 3 rfl) ?_
    obtain ⟨w31, hw31, hN⟩ := oB_spec hN
    refine k_v hS (va_runSN (As := [.ref (r 1), .int (u.2.2 0), .int p0]) (rest := []) ⟨hx, hb, hml, hown, hts⟩ (c_X3_put l g L hL G (r 1) (u.1 1) (lnS 1) (vO.rm hV 1 (by decide)) (vO.ri hV 1 (by decide)) (u.2.2 0) p0 w31 hw31) ⟨va_cnB 3 hts gX1_takeIn_X3_put_n53 rfl rfl rfl (hC.2.1.2 (RX1, 53, yX3_put, RX3) (List.mem_of_getElem? (i := 1) rfl)) (hts (.initialized RX3) (List.mem_of_getElem? (i := 14) rfl)) (by decide +kernel) ⟨Nat.le_of_ble_eq_true rfl, Nat.le_of_ble_eq_true rfl⟩, (hts (.static yX3_put) (List.mem_of_getElem? (i := 13) rfl)), trivial⟩ (k_pre hC hS hP) rfl rfl hl.1 rfl (lv_room (Nat.le_of_ble_eq_true rfl)) dX1_takeIn_25 ⟨Nat.zero_le _, Nat.zero_le _⟩) (fun G32 H locs hq hP hS => ?_)
    have hV : vS g L G32 h0 r ((va_up u.1 1 w31), u.2.1, u.2.2) := by rw [hq]; exact vO.setI (f := u.1) (gg := u.2.1) (k := u.2.2) hV (by decide) 1 (by decide) _
    have hfr : frS h0 r 8 G G32 := by rw [hq]; exact vO.frI hfr 1 (by decide) _
    refine lv_aload_n hx hb dX1_takeIn_28 rfl (lv_at hl 2 rfl) ?_
    refine k_get (C := RX1) (T := TX1) (N := 13) (ci := 1) (v := .ref (r 2)) hx hb hts (fun _ h => List.mem_cons_of_mem _ (List.mem_append_right _ h)) hown hC hP (vO.m hV) (vO.o hV) rfl 2 (by decide) (hts (.fieldLink RX1 18 "OrderedClauses$Store" "status" "[I") (List.mem_of_getElem? (i := 3) rfl)) rfl dX1_takeIn_29 ?_
    refine lv_iload hx hb dX1_takeIn_32 (lv_at hl 1 rfl) ?_
    refine lv_iconst (v := 0) hx hb dX1_takeIn_34 (by decide) ?_
    obtain ⟨w34, hw34, hN⟩ := oB_spec hN
    refine k_v hS (va_runSN (As := [.ref (r 2), .int (u.2.2 0), .int (0 : Int32)]) (rest := []) ⟨hx, hb, hml, hown, hts⟩ (c_X3_put l g L hL G32 (r 2) ((va_up u.1 1 w31) 2) (lnS 2) (vO.rm hV 2 (by decide)) (vO.ri hV 2 (by decide)) (u.2.2 0) (0 : Int32) w34 hw34) ⟨va_cnB 3 hts gX1_takeIn_X3_put_n53 rfl rfl rfl (hC.2.1.2 (RX1, 53, yX3_put, RX3) (List.mem_of_getElem? (i := 1) rfl)) (hts (.initialized RX3) (List.mem_of_getElem? (i := 14) rfl)) (by decide +kernel) ⟨Nat.le_of_ble_eq_true rfl, Nat.le_of_ble_eq_true rfl⟩, (hts (.static yX3_put) (List.mem_of_getElem? (i := 13) rfl)), trivial⟩ (k_pre hC hS hP) rfl rfl hl.1 rfl (lv_room (Nat.le_of_ble_eq_true rfl)) dX1_takeIn_35 ⟨Nat.zero_le _, Nat.zero_le _⟩) (fun G35 H locs hq hP hS => ?_)
    have hV : vS g L G35 h0 r ((va_up (va_up u.1 1 w31) 2 w34), u.2.1, u.2.2) := by rw [hq]; exact vO.setI (f := (va_up u.1 1 w31)) (gg := u.2.1) (k := u.2.2) hV (by decide) 2 (by decide) _
    have hfr : frS h0 r 8 G G35 := by rw [hq]; exact vO.frI hfr 2 (by decide) _
    refine lv_aload_n hx hb dX1_takeIn_38 rfl (lv_at hl 2 rfl) ?_
    refine k_get (C := RX1) (T := TX1) (N := 13) (ci := 1) (v := .ref (r 3)) hx hb hts (fun _ h => List.mem_cons_of_mem _ (List.mem_append_right _ h)) hown hC hP (vO.m hV) (vO.o hV) rfl 3 (by decide) (hts (.fieldLink RX1 21 "OrderedClauses$Store" "holdingParent" "[I") (List.mem_of_getElem? (i := 4) rfl)) rfl dX1_takeIn_39 ?_
    refine lv_iload hx hb dX1_takeIn_42 (lv_at hl 1 rfl) ?_
    refine lv_iload_n hx hb dX1_takeIn_44 rfl (lv_at hl 4 rfl) ?_
    obtain ⟨w37, hw37, hN⟩ := oB_spec hN
    refine k_v hS (va_runSN (As := [.ref (r 3), .int (u.2.2 0), .int p1]) (rest := []) ⟨hx, hb, hml, hown, hts⟩ (c_X3_put l g L hL G35 (r 3) ((va_up (va_up u.1 1 w31) 2 w34) 3) (lnS 3) (vO.rm hV 3 (by decide)) (vO.ri hV 3 (by decide)) (u.2.2 0) p1 w37 hw37) ⟨va_cnB 3 hts gX1_takeIn_X3_put_n53 rfl rfl rfl (hC.2.1.2 (RX1, 53, yX3_put, RX3) (List.mem_of_getElem? (i := 1) rfl)) (hts (.initialized RX3) (List.mem_of_getElem? (i := 14) rfl)) (by decide +kernel) ⟨Nat.le_of_ble_eq_true rfl, Nat.le_of_ble_eq_true rfl⟩, (hts (.static yX3_put) (List.mem_of_getElem? (i := 13) rfl)), trivial⟩ (k_pre hC hS hP) rfl rfl hl.1 rfl (lv_room (Nat.le_of_ble_eq_true rfl)) dX1_takeIn_45 ⟨Nat.zero_le _, Nat.zero_le _⟩) (fun G38 H locs hq hP hS => ?_)
    have hV : vS g L G38 h0 r ((va_up (va_up (va_up u.1 1 w31) 2 w34) 3 w37), u.2.1, u.2.2) := by rw [hq]; exact vO.setI (f := (va_up (va_up u.1 1 w31) 2 w34)) (gg := u.2.1) (k := u.2.2) hV (by decide) 3 (by decide) _
    have hfr : frS h0 r 8 G G38 := by rw [hq]; exact vO.frI hfr 3 (by decide) _
    refine lv_aload_n hx hb dX1_takeIn_48 rfl (lv_at hl 2 rfl) ?_
    refine k_get (C := RX1) (T := TX1) (N := 13) (ci := 1) (v := .ref (r 4)) hx hb hts (fun _ h => List.mem_cons_of_mem _ (List.mem_append_right _ h)) hown hC hP (vO.m hV) (vO.o hV) rfl 4 (by decide) (hts (.fieldLink RX1 24 "OrderedClauses$Store" "otherParent" "[I") (List.mem_of_getElem? (i := 5) rfl)) rfl dX1_takeIn_49 ?_
    refine lv_iload hx hb dX1_takeIn_52 (lv_at hl 1 rfl) ?_
    refine lv_iload_n hx hb dX1_takeIn_54 rfl (lv_at hl 5 rfl) ?_
    obtain ⟨w40, hw40, hN⟩ := oB_spec hN
    refine k_v hS (va_runSN (As := [.ref (r 4), .int (u.2.2 0), .int p2]) (rest := []) ⟨hx, hb, hml, hown, hts⟩ (c_X3_put l g L hL G38 (r 4) ((va_up (va_up (va_up u.1 1 w31) 2 w34) 3 w37) 4) (lnS 4) (vO.rm hV 4 (by decide)) (vO.ri hV 4 (by decide)) (u.2.2 0) p2 w40 hw40) ⟨va_cnB 3 hts gX1_takeIn_X3_put_n53 rfl rfl rfl (hC.2.1.2 (RX1, 53, yX3_put, RX3) (List.mem_of_getElem? (i := 1) rfl)) (hts (.initialized RX3) (List.mem_of_getElem? (i := 14) rfl)) (by decide +kernel) ⟨Nat.le_of_ble_eq_true rfl, Nat.le_of_ble_eq_true rfl⟩, (hts (.static yX3_put) (List.mem_of_getElem? (i := 13) rfl)), trivial⟩ (k_pre hC hS hP) rfl rfl hl.1 rfl (lv_room (Nat.le_of_ble_eq_true rfl)) dX1_takeIn_55 ⟨Nat.zero_le _, Nat.zero_le _⟩) (fun G41 H locs hq hP hS => ?_)
    have hV : vS g L G41 h0 r ((va_up (va_up (va_up (va_up u.1 1 w31) 2 w34) 3 w37) 4 w40), u.2.1, u.2.2) := by rw [hq]; exact vO.setI (f := (va_up (va_up (va_up u.1 1 w31) 2 w34) 3 w37)) (gg := u.2.1) (k := u.2.2) hV (by decide) 4 (by decide) _
    have hfr : frS h0 r 8 G G41 := by rw [hq]; exact vO.frI hfr 4 (by decide) _
    refine lv_aload_n hx hb dX1_takeIn_58 rfl (lv_at hl 2 rfl) ?_
    refine k_get (C := RX1) (T := TX1) (N := 13) (ci := 1) (v := .ref (r 5)) hx hb hts (fun _ h => List.mem_cons_of_mem _ (List.mem_append_right _ h)) hown hC hP (vO.m hV) (vO.o hV) rfl 5 (by decide) (hts (.fieldLink RX1 27 "OrderedClauses$Store" "atomMadeBy" "[I") (List.mem_of_getElem? (i := 6) rfl)) rfl dX1_takeIn_59 ?_
    refine lv_iload hx hb dX1_takeIn_62 (lv_at hl 1 rfl) ?_
    refine lv_iload hx hb dX1_takeIn_64 (lv_at hl 6 rfl) ?_
    obtain ⟨w43, hw43, hN⟩ := oB_spec hN
    refine k_v hS (va_runSN (As := [.ref (r 5), .int (u.2.2 0), .int p3]) (rest := []) ⟨hx, hb, hml, hown, hts⟩ (c_X3_put l g L hL G41 (r 5) ((va_up (va_up (va_up (va_up u.1 1 w31) 2 w34) 3 w37) 4 w40) 5) (lnS 5) (vO.rm hV 5 (by decide)) (vO.ri hV 5 (by decide)) (u.2.2 0) p3 w43 hw43) ⟨va_cnB 3 hts gX1_takeIn_X3_put_n53 rfl rfl rfl (hC.2.1.2 (RX1, 53, yX3_put, RX3) (List.mem_of_getElem? (i := 1) rfl)) (hts (.initialized RX3) (List.mem_of_getElem? (i := 14) rfl)) (by decide +kernel) ⟨Nat.le_of_ble_eq_true rfl, Nat.le_of_ble_eq_true rfl⟩, (hts (.static yX3_put) (List.mem_of_getElem? (i := 13) rfl)), trivial⟩ (k_pre hC hS hP) rfl rfl hl.1 rfl (lv_room (Nat.le_of_ble_eq_true rfl)) dX1_takeIn_66 ⟨Nat.zero_le _, Nat.zero_le _⟩) (fun G44 H locs hq hP hS => ?_)
    have hV : vS g L G44 h0 r ((va_up (va_up (va_up (va_up (va_up u.1 1 w31) 2 w34) 3 w37) 4 w40) 5 w43), u.2.1, u.2.2) := by rw [hq]; exact vO.setI (f := (va_up (va_up (va_up (va_up u.1 1 w31) 2 w34) 3 w37) 4 w40)) (gg := u.2.1) (k := u.2.2) hV (by decide) 5 (by decide) _
    have hfr : frS h0 r 8 G G44 := by rw [hq]; exact vO.frI hfr 5 (by decide) _
    refine lv_aload_n hx hb dX1_takeIn_69 rfl (lv_at hl 2 rfl) ?_
    refine k_get (C := RX1) (T := TX1) (N := 13) (ci := 1) (v := .ref (r 6)) hx hb hts (fun _ h => List.mem_cons_of_mem _ (List.mem_append_right _ h)) hown hC hP (vO.m hV) (vO.o hV) rfl 6 (by decide) (hts (.fieldLink RX1 30 "OrderedClauses$Store" "depth" "[I") (List.mem_of_getElem? (i := 7) rfl)) rfl dX1_takeIn_70 ?_
    refine lv_iload hx hb dX1_takeIn_73 (lv_at hl 1 rfl) ?_
    refine lv_iload hx hb dX1_takeIn_75 (lv_at hl 0 rfl) ?_
    refine lv_if_eq (tgt := 84) hx hb dX1_takeIn_77 (by decide) (fun c9 => absurd c9 (by decide)) (fun _ => ?_)
    refine lv_iconst (v := 0) hx hb dX1_takeIn_80 (by decide) ?_
    refine lv_goto (tgt := 105) hx hb dX1_takeIn_81 (by decide) ?_
    obtain ⟨w46, hw46, hN⟩ := oB_spec hN
    refine k_v hS (va_runSN (As := [.ref (r 6), .int (u.2.2 0), .int (0 : Int32)]) (rest := []) ⟨hx, hb, hml, hown, hts⟩ (c_X3_put l g L hL G44 (r 6) ((va_up (va_up (va_up (va_up (va_up u.1 1 w31) 2 w34) 3 w37) 4 w40) 5 w43) 6) (lnS 6) (vO.rm hV 6 (by decide)) (vO.ri hV 6 (by decide)) (u.2.2 0) (0 : Int32) w46 hw46) ⟨va_cnB 3 hts gX1_takeIn_X3_put_n53 rfl rfl rfl (hC.2.1.2 (RX1, 53, yX3_put, RX3) (List.mem_of_getElem? (i := 1) rfl)) (hts (.initialized RX3) (List.mem_of_getElem? (i := 14) rfl)) (by decide +kernel) ⟨Nat.le_of_ble_eq_true rfl, Nat.le_of_ble_eq_true rfl⟩, (hts (.static yX3_put) (List.mem_of_getElem? (i := 13) rfl)), trivial⟩ (k_pre hC hS hP) rfl rfl hl.1 rfl (lv_room (Nat.le_of_ble_eq_true rfl)) dX1_takeIn_105 ⟨Nat.zero_le _, Nat.zero_le _⟩) (fun G47 H locs hq hP hS => ?_)
    have hV : vS g L G47 h0 r ((va_up (va_up (va_up (va_up (va_up (va_up u.1 1 w31) 2 w34) 3 w37) 4 w40) 5 w43) 6 w46), u.2.1, u.2.2) := by rw [hq]; exact vO.setI (f := (va_up (va_up (va_up (va_up (va_up u.1 1 w31) 2 w34) 3 w37) 4 w40) 5 w43)) (gg := u.2.1) (k := u.2.2) hV (by decide) 6 (by decide) _
    have hfr : frS h0 r 8 G G47 := by rw [hq]; exact vO.frI hfr 6 (by decide) _
    refine lv_aload_n hx hb dX1_takeIn_108 rfl (lv_at hl 2 rfl) ?_
    refine k_get (C := RX1) (T := TX1) (N := 13) (ci := 1) (v := .ref (r 7)) hx hb hts (fun _ h => List.mem_cons_of_mem _ (List.mem_append_right _ h)) hown hC hP (vO.m hV) (vO.o hV) rfl 7 (by decide) (hts (.fieldLink RX1 33 "OrderedClauses$Store" "fulfilledBy" "[J") (List.mem_of_getElem? (i := 12) rfl)) rfl dX1_takeIn_109 ?_
    refine lv_iload hx hb dX1_takeIn_112 (lv_at hl 1 rfl) ?_
    refine lv_iload_n hx hb dX1_takeIn_114 rfl (lv_at hl 3 rfl) ?_
    obtain ⟨v48, hv48, hN⟩ := oB_spec hN
    refine k_lR hS (va_runSN (As := [.int p0]) (rest := [.int (u.2.2 0), .ref (r 7)]) ⟨hx, hb, hml, hown, hts⟩ (c_X3_valuesOfClause l g L hL G47 p0 v48 hv48) ⟨va_cnB 1 hts gX1_takeIn_X3_valuesOfClause_n112 rfl rfl rfl (hC.2.1.2 (RX1, 112, yX3_valuesOfClause, RX3) (List.mem_of_getElem? (i := 27) rfl)) (hts (.initialized RX3) (List.mem_of_getElem? (i := 14) rfl)) (by decide +kernel) ⟨Nat.le_of_ble_eq_true rfl, Nat.le_of_ble_eq_true rfl⟩, (hts (.static yX3_valuesOfClause) (List.mem_of_getElem? (i := 18) rfl)), trivial⟩ (k_pre hC hS hP) rfl rfl hl.1 rfl (lv_room (Nat.le_of_ble_eq_true rfl)) dX1_takeIn_115 ⟨Nat.zero_le _, Nat.zero_le _⟩) (fun H locs hP hS => ?_)
    obtain ⟨w51, hw51, hN⟩ := oB_spec hN
    refine k_v hS (va_runSN (As := [.ref (r 7), .int (u.2.2 0), .long v48]) (rest := []) ⟨hx, hb, hml, hown, hts⟩ (c_X3_putLong l g L hL G47 (r 7) u.2.1 (lnS 7) (vO.rm hV 7 (by decide)) (vO.rl hV 7 (by decide) (by decide)) (u.2.2 0) v48 w51 hw51) ⟨va_cnB 3 hts gX1_takeIn_X3_putLong_n116 rfl rfl rfl (hC.2.1.2 (RX1, 116, yX3_putLong, RX3) (List.mem_of_getElem? (i := 28) rfl)) (hts (.initialized RX3) (List.mem_of_getElem? (i := 14) rfl)) (by decide +kernel) ⟨Nat.le_of_ble_eq_true rfl, Nat.le_of_ble_eq_true rfl⟩, (hts (.static yX3_putLong) (List.mem_of_getElem? (i := 25) rfl)), trivial⟩ (k_pre hC hS hP) rfl rfl hl.1 rfl (lv_room (Nat.le_of_ble_eq_true rfl)) dX1_takeIn_118 ⟨Nat.zero_le _, Nat.zero_le _⟩) (fun G52 H locs hq hP hS => ?_)
    have hV : vS g L G52 h0 r ((va_up (va_up (va_up (va_up (va_up (va_up u.1 1 w31) 2 w34) 3 w37) 4 w40) 5 w43) 6 w46), w51, u.2.2) := by rw [hq]; exact vO.setL (f := (va_up (va_up (va_up (va_up (va_up (va_up u.1 1 w31) 2 w34) 3 w37) 4 w40) 5 w43) 6 w46)) (gg := u.2.1) (k := u.2.2) hV rfl _
    have hfr : frS h0 r 8 G G52 := by rw [hq]; exact vO.frI hfr 7 (by decide) _
    refine lv_aload_n hx hb dX1_takeIn_121 rfl (lv_at hl 2 rfl) ?_
    refine lv_iload hx hb dX1_takeIn_122 (lv_at hl 1 rfl) ?_
    refine lv_iconst (v := 1) hx hb dX1_takeIn_124 (by decide) ?_
    refine lv_iadd hx hb dX1_takeIn_125 ?_
    refine k_putE (C := RX1) (T := TX1) (N := 13) (ci := 1) hx hb hts (fun _ h => List.mem_cons_of_mem _ (List.mem_append_right _ h)) tyX1 tyX1_ok nmX1 hown hL hC hP hS (vO.m hV) (vO.o hV) rfl 8 (by decide) (hts (.fieldLink RX1 37 "OrderedClauses$Store" "clauses" "I") (List.mem_of_getElem? (i := 1) rfl)) (by decide +kernel) (by decide +kernel) (Nat.le_of_ble_eq_true rfl) dX1_takeIn_126 (fun G53 H locs hq hP hS => ?_)
    have hV : vS g L G53 h0 r ((va_up (va_up (va_up (va_up (va_up (va_up u.1 1 w31) 2 w34) 3 w37) 4 w40) 5 w43) 6 w46), w51, (va_up u.2.2 0 ((u.2.2 0) + (1 : Int32)))) := by rw [hq]; exact vO.setK (f := (va_up (va_up (va_up (va_up (va_up (va_up u.1 1 w31) 2 w34) 3 w37) 4 w40) 5 w43) 6 w46)) (gg := w51) (k := u.2.2) hV rfl
    have hfr : frS h0 r 8 G G53 := by rw [hq]; exact vO.frK hfr _
    refine lv_iload hx hb dX1_takeIn_129 (lv_at hl 1 rfl) ?_
    obtain ⟨hE, hE2⟩ := spair hN
    exact k_iretW hx hb hr hE ⟨hE2 ▸ hV, hfr⟩ hP hS hlk dX1_takeIn_131
set_option maxHeartbeats 4000000 in
set_option maxRecDepth 100000 in
theorem c_X1_bring (l : Launch) (g : Gm) (L : List Nat) {A : Nat → Prop} (hL : kL L A) (G : Nat → va_E) (h0 : Nat) (r : Nat → Nat) (u : St) (hV : vS g L G h0 r u) (p0 : Int32) (p1 : Int32) (p2 : Int32) (p3 : Int32) (v : Int32) (w : St) (hF : F_X1_bring u p0 p1 p2 p3 = some (v, w)) : Met l yX1_bring wsX1_bring ({ frames := 3, cells := 0, slots := 0, locals := 73 } : Room) (va_Pc [.ref h0, .int p0, .int p1, .int p2, .int p3] (kB g L A G)) (va_Qi (fun x (G9 : Nat → va_E) => x = v ∧ (vS g L G9 h0 r w ∧ frS h0 r 8 G G9)) (kE g L) A) 0 0 A := by
  refine Met.ofW (cc := cX1_bring) (maxL := 5) (ret := (some .int)) (by decide) rfl ?_
  intro p e s m args below meth c s₁ B hml hv
  obtain ⟨rfl, hP, hC⟩ := hv
  have hx := B.exec
  have hb := B.bytes
  have hr := B.returns
  have hts := atoms_spec (ws := wsX1_bring) B.pre
  have hown : s.vm.findClass RX1 = some m.cls := findClass_of_methodNamed B.named
  have hlk := B.notSynchronized
  have hS : va_S A s.heap s.heap [] := va_S.rf
  have hV0 := hV
  have hfr : frS h0 r 8 G G := frS.rf
  have hl := lv_entry ([.ref h0, .int p0, .int p1, .int p2, .int p3]) (n := 5) (Nat.le_of_ble_eq_true rfl)
  rw [lg_entry_eq]
  generalize (lg_sl ([.ref h0, .int p0, .int p1, .int p2, .int p3]) ++ List.replicate (5 - (lg_sl ([.ref h0, .int p0, .int p1, .int p2, .int p3])).length) Slot.unset).toArray = ls at hl ⊢
  have hl : lv_has ls 5 [(0, .ref h0), (1, .int p0), (2, .int p1), (3, .int p2), (4, .int p3)] := hl
  have hN := hF
  unfold F_X1_bring at hN
  refine lv_iload_n hx hb dX1_bring_0 rfl (lv_at hl 1 rfl) ?_
  obtain ⟨v1, hv1, hN⟩ := oB_spec hN
  refine k_iR hS (va_runSN (As := [.int p0]) (rest := []) ⟨hx, hb, hml, hown, hts⟩ (c_X3_holdsAlways l g L hL G p0 v1 hv1) ⟨va_cnB 1 hts gX1_bring_X3_holdsAlways_n88 rfl rfl rfl (hC.2.1.2 (RX1, 88, yX3_holdsAlways, RX3) (List.mem_of_getElem? (i := 25) rfl)) (hts (.initialized RX3) (List.mem_of_getElem? (i := 6) rfl)) (by decide +kernel) ⟨Nat.le_of_ble_eq_true rfl, Nat.le_of_ble_eq_true rfl⟩, (hts (.static yX3_holdsAlways) (List.mem_of_getElem? (i := 5) rfl)), trivial⟩ (k_pre hC hS hP) rfl rfl hl.1 rfl (lv_room (Nat.le_of_ble_eq_true rfl)) dX1_bring_1 ⟨Nat.zero_le _, Nat.zero_le _⟩) (fun H locs hP hS => ?_)
  refine lv_if_eq (tgt := 19) hx hb dX1_bring_4 (by decide) (fun c3 => ?_) (fun c3 => ?_)
  · rw [if_pos c3] at hN
    refine lv_aload_n hx hb dX1_bring_19 rfl (lv_at hl 0 rfl) ?_
    refine lv_iload_n hx hb dX1_bring_20 rfl (lv_at hl 1 rfl) ?_
    obtain ⟨v4, hv4, hN⟩ := oB_spec hN
    refine k_iR hS (va_runV (As := [.int p0]) (rest := []) ⟨hx, hb, hml, hown, hts⟩ (c_X1_hasAnotherWithin l g L hL G h0 r u hV p0 v4 hv4) (cwV 1 hts gX1_bring_X1_hasAnotherWithin rfl rfl rfl (by decide +kernel) ⟨Nat.le_of_ble_eq_true rfl, Nat.le_of_ble_eq_true rfl⟩) (k_preV hC hS hP (vO.m hV) (vO.o hV) rfl) rfl rfl hl.1 rfl (lv_room (Nat.le_of_ble_eq_true rfl)) dX1_bring_21 ⟨Nat.zero_le _, Nat.zero_le _⟩) (fun H locs hP hS => ?_)
    refine lv_if_eq (tgt := 40) hx hb dX1_bring_24 (by decide) (fun c6 => ?_) (fun c6 => ?_)
    · rw [if_pos c6] at hN
      refine lv_aload_n hx hb dX1_bring_40 rfl (lv_at hl 0 rfl) ?_
      refine k_get (C := RX1) (T := TX1) (N := 13) (ci := 1) (v := .int (u.2.2 0)) hx hb hts (fun _ h => List.mem_cons_of_mem _ (List.mem_append_right _ h)) hown hC hP (vO.m hV) (vO.o hV) rfl 8 (by decide) (hts (.fieldLink RX1 37 "OrderedClauses$Store" "clauses" "I") (List.mem_of_getElem? (i := 3) rfl)) rfl dX1_bring_41 ?_
      refine lv_bipush (v := 40) hx hb dX1_bring_44 (by decide) ?_
      refine lv_icmp_lt (tgt := 52) hx hb dX1_bring_46 (by decide) (fun c7 => ?_) (fun c7 => ?_)
      · rw [if_pos c7] at hN
        refine lv_aload_n hx hb dX1_bring_52 rfl (lv_at hl 0 rfl) ?_
        refine lv_iload_n hx hb dX1_bring_53 rfl (lv_at hl 1 rfl) ?_
        obtain ⟨w9, hw9, hN⟩ := oB_spec hN
        refine k_v hS (va_runV (As := [.int p0]) (rest := []) ⟨hx, hb, hml, hown, hts⟩ (c_X1_dropAllAround l g L hL G h0 r u hV p0 w9 hw9) (cwV 1 hts gX1_bring_X1_dropAllAround rfl rfl rfl (by decide +kernel) ⟨Nat.le_of_ble_eq_true rfl, Nat.le_of_ble_eq_true rfl⟩) (k_preV hC hS hP (vO.m hV) (vO.o hV) rfl) rfl rfl hl.1 rfl (lv_room (Nat.le_of_ble_eq_true rfl)) dX1_bring_54 ⟨Nat.zero_le _, Nat.zero_le _⟩) (fun G10 H locs hq hP hS => ?_)
        obtain ⟨hV, hfq⟩ := hq
        have hfr := frS.tr hfr hfq
        refine lv_aload_n hx hb dX1_bring_57 rfl (lv_at hl 0 rfl) ?_
        refine lv_iload_n hx hb dX1_bring_58 rfl (lv_at hl 1 rfl) ?_
        refine lv_iload_n hx hb dX1_bring_59 rfl (lv_at hl 2 rfl) ?_
        refine lv_iload_n hx hb dX1_bring_60 rfl (lv_at hl 3 rfl) ?_
        refine lv_iload hx hb dX1_bring_61 (lv_at hl 4 rfl) ?_
        obtain ⟨v11, w12, hv11, hN⟩ := oB2_spec hN
        refine k_iW hS (va_runV (As := [.int p0, .int p1, .int p2, .int p3]) (rest := []) ⟨hx, hb, hml, hown, hts⟩ (c_X1_takeIn l g L hL G10 h0 r (w9.1, w9.2.1, w9.2.2) hV p0 p1 p2 p3 v11 w12 hv11) (cwV 4 hts gX1_bring_X1_takeIn rfl rfl rfl (by decide +kernel) ⟨Nat.le_of_ble_eq_true rfl, Nat.le_of_ble_eq_true rfl⟩) (k_preV hC hS hP (vO.m hV) (vO.o hV) rfl) rfl rfl hl.1 rfl (lv_room (Nat.le_of_ble_eq_true rfl)) dX1_bring_63 ⟨Nat.zero_le _, Nat.zero_le _⟩) (fun G13 H locs hq hP hS => ?_)
        obtain ⟨hV, hfq⟩ := hq
        have hfr := frS.tr hfr hfq
        obtain ⟨hE, hE2⟩ := spair hN
        exact k_iretW hx hb hr hE ⟨hE2 ▸ hV, hfr⟩ hP hS hlk dX1_bring_66
      · rw [if_neg c7] at hN
        refine lv_ldc (v := (-1000003)) hx hb hown (hts (.constant RX1 94 (-1000003)) (List.mem_of_getElem? (i := 4) rfl)) dX1_bring_49 ?_
        obtain ⟨hE, hE2⟩ := spair hN
        exact k_iretW hx hb hr hE ⟨hE2 ▸ hV, hfr⟩ hP hS hlk dX1_bring_51
    · rw [if_neg c6] at hN
      refine lv_aload_n hx hb dX1_bring_27 rfl (lv_at hl 0 rfl) ?_
      refine lv_dup hx hb dX1_bring_28 rfl ?_
      refine k_get (C := RX1) (T := TX1) (N := 13) (ci := 1) (v := .int (u.2.2 4)) hx hb hts (fun _ h => List.mem_cons_of_mem _ (List.mem_append_right _ h)) hown hC hP (vO.m hV) (vO.o hV) rfl 12 (by decide) (hts (.fieldLink RX1 50 "OrderedClauses$Store" "hadAnotherWithin" "I") (List.mem_of_getElem? (i := 2) rfl)) rfl dX1_bring_29 ?_
      refine lv_iconst (v := 1) hx hb dX1_bring_32 (by decide) ?_
      refine lv_iadd hx hb dX1_bring_33 ?_
      refine k_putE (C := RX1) (T := TX1) (N := 13) (ci := 1) hx hb hts (fun _ h => List.mem_cons_of_mem _ (List.mem_append_right _ h)) tyX1 tyX1_ok nmX1 hown hL hC hP hS (vO.m hV) (vO.o hV) rfl 12 (by decide) (hts (.fieldLink RX1 50 "OrderedClauses$Store" "hadAnotherWithin" "I") (List.mem_of_getElem? (i := 2) rfl)) (by decide +kernel) (by decide +kernel) (Nat.le_of_ble_eq_true rfl) dX1_bring_34 (fun G14 H locs hq hP hS => ?_)
      have hV : vS g L G14 h0 r (u.1, u.2.1, (va_up u.2.2 4 ((u.2.2 4) + (1 : Int32)))) := by rw [hq]; exact vO.setK (f := u.1) (gg := u.2.1) (k := u.2.2) hV rfl
      have hfr : frS h0 r 8 G G14 := by rw [hq]; exact vO.frK hfr _
      refine lv_bipush (v := (-2)) hx hb dX1_bring_37 (by decide) ?_
      obtain ⟨hE, hE2⟩ := spair hN
      exact k_iretW hx hb hr hE ⟨hE2 ▸ hV, hfr⟩ hP hS hlk dX1_bring_39
  · rw [if_neg c3] at hN
    refine lv_aload_n hx hb dX1_bring_7 rfl (lv_at hl 0 rfl) ?_
    refine lv_dup hx hb dX1_bring_8 rfl ?_
    refine k_get (C := RX1) (T := TX1) (N := 13) (ci := 1) (v := .int (u.2.2 3)) hx hb hts (fun _ h => List.mem_cons_of_mem _ (List.mem_append_right _ h)) hown hC hP (vO.m hV) (vO.o hV) rfl 11 (by decide) (hts (.fieldLink RX1 47 "OrderedClauses$Store" "heldAlways" "I") (List.mem_of_getElem? (i := 1) rfl)) rfl dX1_bring_9 ?_
    refine lv_iconst (v := 1) hx hb dX1_bring_12 (by decide) ?_
    refine lv_iadd hx hb dX1_bring_13 ?_
    refine k_putE (C := RX1) (T := TX1) (N := 13) (ci := 1) hx hb hts (fun _ h => List.mem_cons_of_mem _ (List.mem_append_right _ h)) tyX1 tyX1_ok nmX1 hown hL hC hP hS (vO.m hV) (vO.o hV) rfl 11 (by decide) (hts (.fieldLink RX1 47 "OrderedClauses$Store" "heldAlways" "I") (List.mem_of_getElem? (i := 1) rfl)) (by decide +kernel) (by decide +kernel) (Nat.le_of_ble_eq_true rfl) dX1_bring_14 (fun G15 H locs hq hP hS => ?_)
    have hV : vS g L G15 h0 r (u.1, u.2.1, (va_up u.2.2 3 ((u.2.2 3) + (1 : Int32)))) := by rw [hq]; exact vO.setK (f := u.1) (gg := u.2.1) (k := u.2.2) hV rfl
    have hfr : frS h0 r 8 G G15 := by rw [hq]; exact vO.frK hfr _
    refine lv_iconst (v := (-1)) hx hb dX1_bring_17 (by decide) ?_
    obtain ⟨hE, hE2⟩ := spair hN
    exact k_iretW hx hb hr hE ⟨hE2 ▸ hV, hfr⟩ hP hS hlk dX1_bring_18
set_option maxHeartbeats 4000000 in
set_option maxRecDepth 100000 in
theorem c_X1_nextChoice (l : Launch) (g : Gm) (L : List Nat) {A : Nat → Prop} (hL : kL L A) (G : Nat → va_E) (h0 : Nat) (r : Nat → Nat) (u : St) (hV : vS g L G h0 r u) (v : Int32) (hF : F_X1_nextChoice u = some v) : Met l yX1_nextChoice wsX1_nextChoice ({ frames := 1, cells := 0, slots := 0, locals := 21 } : Room) (va_Pc [.ref h0] (kB g L A G)) (va_Qi (fun x9 (G9 : Nat → va_E) => x9 = v ∧ G9 = G) (kE g L) A) 0 0 A := by
  refine Met.ofW (cc := cX1_nextChoice) (maxL := 6) (ret := (some .int)) (by decide) rfl ?_
  intro p e s m args below meth c s₁ B hml hv
  obtain ⟨rfl, hP, hC⟩ := hv
  have hx := B.exec
  have hb := B.bytes
  have hr := B.returns
  have hts := atoms_spec (ws := wsX1_nextChoice) B.pre
  have hown : s.vm.findClass RX1 = some m.cls := findClass_of_methodNamed B.named
  have hlk := B.notSynchronized
  have hS : va_S A s.heap s.heap [] := va_S.rf
  have lp35 : ∀ (n : Nat) (x1 : Int32) (x2 : Int32) (x3 : Int32) (x4 : Int32) (H : Heap) (locs : List Loc) (ls : Array Slot), va_P g.1 vwCl (va_pl L G) H → va_S A s.heap H locs → lv_has ls 6 [(0, .ref h0), (1, .int x1), (2, .int x2), (3, .int x3), (4, .int x4)] → FL_X1_nextChoice_35 u n x1 x2 x3 x4 = some v → W p l e (headSpec wsX1_nextChoice ({ frames := 1, cells := 0, slots := 0, locals := 21 } : Room)).room s m ([.ref h0] : List Value).toArray below meth c H locs 0 0 (MQ below (va_Qi (fun x9 (G9 : Nat → va_E) => x9 = v ∧ G9 = G) (kE g L) A) ([.ref h0] : List Value).toArray s 0 0 A) (F0 m 35 ls []) := by
    intro n
    induction n with
    | zero =>
      intro x1 x2 x3 x4 H locs ls hP hS hl hN
      exact absurd hN (by simp [FL_X1_nextChoice_35])
    | succ n ih =>
      intro x1 x2 x3 x4 H locs ls hP hS hl hN
      rw [FL_X1_nextChoice_35] at hN
      refine lv_iload hx hb dX1_nextChoice_35 (lv_at hl 4 rfl) ?_
      refine lv_aload_n hx hb dX1_nextChoice_37 rfl (lv_at hl 0 rfl) ?_
      refine k_get (C := RX1) (T := TX1) (N := 13) (ci := 1) (v := .int (u.2.2 0)) hx hb hts (fun _ h => List.mem_cons_of_mem _ (List.mem_append_right _ h)) hown hC hP (vO.m hV) (vO.o hV) rfl 8 (by decide) (hts (.fieldLink RX1 37 "OrderedClauses$Store" "clauses" "I") (List.mem_of_getElem? (i := 3) rfl)) rfl dX1_nextChoice_38 ?_
      refine lv_icmp_ge (tgt := 95) hx hb dX1_nextChoice_41 (by decide) (fun c2 => ?_) (fun c2 => ?_)
      · rw [if_pos c2] at hN
        refine lv_iload_n hx hb dX1_nextChoice_95 rfl (lv_at hl 2 rfl) ?_
        exact k_iretR hx hb hr (Option.some.inj hN) hP hS hlk dX1_nextChoice_96
      · rw [if_neg c2] at hN
        refine lv_aload_n hx hb dX1_nextChoice_44 rfl (lv_at hl 0 rfl) ?_
        refine k_get (C := RX1) (T := TX1) (N := 13) (ci := 1) (v := .ref (r 1)) hx hb hts (fun _ h => List.mem_cons_of_mem _ (List.mem_append_right _ h)) hown hC hP (vO.m hV) (vO.o hV) rfl 1 (by decide) (hts (.fieldLink RX1 15 "OrderedClauses$Store" "literals" "[I") (List.mem_of_getElem? (i := 4) rfl)) rfl dX1_nextChoice_45 ?_
        refine lv_iload hx hb dX1_nextChoice_48 (lv_at hl 4 rfl) ?_
        obtain ⟨v3, hv3, hN⟩ := oB_spec hN
        refine k_iR hS (va_runSN (As := [.ref (r 1), .int x4]) (rest := []) ⟨hx, hb, hml, hown, hts⟩ (c_X3_at l g L hL G (r 1) (u.1 1) (lnS 1) (vO.rm hV 1 (by decide)) (vO.ri hV 1 (by decide)) x4 v3 hv3) ⟨va_cnB 2 hts gX1_nextChoice_X3_at_n65 rfl rfl rfl (hC.2.1.2 (RX1, 65, yX3_at, RX3) (List.mem_of_getElem? (i := 6) rfl)) (hts (.initialized RX3) (List.mem_of_getElem? (i := 7) rfl)) (by decide +kernel) ⟨Nat.le_of_ble_eq_true rfl, Nat.le_of_ble_eq_true rfl⟩, (hts (.static yX3_at) (List.mem_of_getElem? (i := 6) rfl)), trivial⟩ (k_pre hC hS hP) rfl rfl hl.1 rfl (lv_room (Nat.le_of_ble_eq_true rfl)) dX1_nextChoice_50 ⟨Nat.zero_le _, Nat.zero_le _⟩) (fun H locs hP hS => ?_)
        obtain ⟨v5, hv5, hN⟩ := oB_spec hN
        refine k_iR hS (va_runS (As := [.int v3]) (rest := []) ⟨hx, hb, hml, hown, hts⟩ (c_J6_bitCount_0f7a4 l g L hL G v3 v5 hv5) (va_cwS 1 hts gX1_nextChoice_J6_bitCount_0f7a4 rfl rfl rfl (by decide +kernel) ⟨Nat.le_of_ble_eq_true rfl, Nat.le_of_ble_eq_true rfl⟩) (k_pre hC hS hP) rfl rfl hl.1 rfl (lv_room (Nat.le_of_ble_eq_true rfl)) dX1_nextChoice_53 ⟨Nat.zero_le _, Nat.zero_le _⟩) (fun H locs hP hS => ?_)
        refine lv_istore (lv' := [(5, .int v5), (0, .ref h0), (1, .int x1), (2, .int x2), (3, .int x3), (4, .int x4)]) hx hb dX1_nextChoice_56 hl (by decide) rfl (fun ls hl => ?_)
        refine lv_aload_n hx hb dX1_nextChoice_58 rfl (lv_at hl 1 rfl) ?_
        refine k_get (C := RX1) (T := TX1) (N := 13) (ci := 1) (v := .ref (r 2)) hx hb hts (fun _ h => List.mem_cons_of_mem _ (List.mem_append_right _ h)) hown hC hP (vO.m hV) (vO.o hV) rfl 2 (by decide) (hts (.fieldLink RX1 18 "OrderedClauses$Store" "status" "[I") (List.mem_of_getElem? (i := 5) rfl)) rfl dX1_nextChoice_59 ?_
        refine lv_iload hx hb dX1_nextChoice_62 (lv_at hl 5 rfl) ?_
        obtain ⟨v7, hv7, hN⟩ := oB_spec hN
        refine k_iR hS (va_runSN (As := [.ref (r 2), .int x4]) (rest := []) ⟨hx, hb, hml, hown, hts⟩ (c_X3_at l g L hL G (r 2) (u.1 2) (lnS 2) (vO.rm hV 2 (by decide)) (vO.ri hV 2 (by decide)) x4 v7 hv7) ⟨va_cnB 2 hts gX1_nextChoice_X3_at_n65 rfl rfl rfl (hC.2.1.2 (RX1, 65, yX3_at, RX3) (List.mem_of_getElem? (i := 6) rfl)) (hts (.initialized RX3) (List.mem_of_getElem? (i := 7) rfl)) (by decide +kernel) ⟨Nat.le_of_ble_eq_true rfl, Nat.le_of_ble_eq_true rfl⟩, (hts (.static yX3_at) (List.mem_of_getElem? (i := 6) rfl)), trivial⟩ (k_pre hC hS hP) rfl rfl hl.1 rfl (lv_room (Nat.le_of_ble_eq_true rfl)) dX1_nextChoice_64 ⟨Nat.zero_le _, Nat.zero_le _⟩) (fun H locs hP hS => ?_)
        refine lv_if_ne (tgt := 89) hx hb dX1_nextChoice_67 (by decide) (fun c9 => ?_) (fun c9 => ?_)
        · rw [if_neg c9] at hN
          refine lv_iinc (v := (x4 + 1)) (lv' := [(4, .int (x4 + 1)), (5, .int v5), (0, .ref h0), (1, .int x1), (2, .int x2), (3, .int x3)]) hx hb dX1_nextChoice_89 hl (k := 5) rfl rfl (by decide) rfl (fun ls hl => ?_)
          refine lv_goto (tgt := 35) hx hb dX1_nextChoice_92 (by decide) ?_
          exact ih x1 x2 x3 (x4 + 1)  _ _ _ hP hS (lv_sub hl [2, 3, 4, 5, 0] rfl) hN
        · rw [if_pos c9] at hN
          refine lv_iload hx hb dX1_nextChoice_70 (lv_at hl 0 rfl) ?_
          refine lv_iload_n hx hb dX1_nextChoice_72 rfl (lv_at hl 4 rfl) ?_
          refine lv_icmp_ge (tgt := 89) hx hb dX1_nextChoice_73 (by decide) (fun c10 => ?_) (fun c10 => ?_)
          · rw [if_pos c10] at hN
            refine lv_iinc (v := (x4 + 1)) (lv' := [(4, .int (x4 + 1)), (5, .int v5), (0, .ref h0), (1, .int x1), (2, .int x2), (3, .int x3)]) hx hb dX1_nextChoice_89 hl (k := 5) rfl rfl (by decide) rfl (fun ls hl => ?_)
            refine lv_goto (tgt := 35) hx hb dX1_nextChoice_92 (by decide) ?_
            exact ih x1 x2 x3 (x4 + 1)  _ _ _ hP hS (lv_sub hl [2, 3, 4, 5, 0] rfl) hN
          · rw [if_neg c10] at hN
            refine lv_iload_n hx hb dX1_nextChoice_76 rfl (lv_at hl 2 rfl) ?_
            refine lv_if_eq (tgt := 83) hx hb dX1_nextChoice_77 (by decide) (fun c11 => ?_) (fun c11 => ?_)
            · rw [if_pos c11] at hN
              refine lv_iload hx hb dX1_nextChoice_83 (lv_at hl 5 rfl) ?_
              refine lv_istore_n (lv' := [(2, .int x4), (5, .int v5), (0, .ref h0), (1, .int x1), (3, .int x3), (4, .int x4)]) hx hb dX1_nextChoice_85 rfl hl (by decide) rfl (fun ls hl => ?_)
              refine lv_iload hx hb dX1_nextChoice_86 (lv_at hl 1 rfl) ?_
              refine lv_istore_n (lv' := [(3, .int v5), (2, .int x4), (5, .int v5), (0, .ref h0), (1, .int x1), (4, .int x4)]) hx hb dX1_nextChoice_88 rfl hl (by decide) rfl (fun ls hl => ?_)
              refine lv_iinc (v := (x4 + 1)) (lv' := [(4, .int (x4 + 1)), (3, .int v5), (2, .int x4), (5, .int v5), (0, .ref h0), (1, .int x1)]) hx hb dX1_nextChoice_89 hl (k := 5) rfl rfl (by decide) rfl (fun ls hl => ?_)
              refine lv_goto (tgt := 35) hx hb dX1_nextChoice_92 (by decide) ?_
              exact ih x1 x4 v5 (x4 + 1)  _ _ _ hP hS (lv_sub hl [4, 5, 2, 1, 0] rfl) hN
            · rw [if_neg c11] at hN
              refine lv_iload hx hb dX1_nextChoice_80 (lv_at hl 5 rfl) ?_
              exact k_iretR hx hb hr (Option.some.inj hN) hP hS hlk dX1_nextChoice_82
  have hl := lv_entry ([.ref h0]) (n := 6) (Nat.le_of_ble_eq_true rfl)
  rw [lg_entry_eq]
  generalize (lg_sl ([.ref h0]) ++ List.replicate (6 - (lg_sl ([.ref h0])).length) Slot.unset).toArray = ls at hl ⊢
  have hl : lv_has ls 6 [(0, .ref h0)] := hl
  have hN := hF
  unfold F_X1_nextChoice at hN
  refine lv_aload_n hx hb dX1_nextChoice_0 rfl (lv_at hl 0 rfl) ?_
  refine k_get (C := RX1) (T := TX1) (N := 13) (ci := 1) (v := .int (u.2.2 2)) hx hb hts (fun _ h => List.mem_cons_of_mem _ (List.mem_append_right _ h)) hown hC hP (vO.m hV) (vO.o hV) rfl 10 (by decide) (hts (.fieldLink RX1 44 "OrderedClauses$Store" "setting" "I") (List.mem_of_getElem? (i := 1) rfl)) rfl dX1_nextChoice_1 ?_
  refine lv_if_le (tgt := 25) hx hb dX1_nextChoice_4 (by decide) (fun c1 => ?_) (fun c1 => ?_)
  · rw [if_pos c1] at hN
    refine lv_iconst (v := 0) hx hb dX1_nextChoice_25 (by decide) ?_
    refine lv_istore_n (lv' := [(1, .int (0 : Int32)), (0, .ref h0)]) hx hb dX1_nextChoice_26 rfl hl (by decide) rfl (fun ls hl => ?_)
    refine lv_iconst (v := (-1)) hx hb dX1_nextChoice_27 (by decide) ?_
    refine lv_istore_n (lv' := [(2, .int ((-1) : Int32)), (1, .int (0 : Int32)), (0, .ref h0)]) hx hb dX1_nextChoice_28 rfl hl (by decide) rfl (fun ls hl => ?_)
    refine lv_bipush (v := 7) hx hb dX1_nextChoice_29 (by decide) ?_
    refine lv_istore_n (lv' := [(3, .int (7 : Int32)), (2, .int ((-1) : Int32)), (1, .int (0 : Int32)), (0, .ref h0)]) hx hb dX1_nextChoice_31 rfl hl (by decide) rfl (fun ls hl => ?_)
    refine lv_iconst (v := 0) hx hb dX1_nextChoice_32 (by decide) ?_
    refine lv_istore (lv' := [(4, .int (0 : Int32)), (3, .int (7 : Int32)), (2, .int ((-1) : Int32)), (1, .int (0 : Int32)), (0, .ref h0)]) hx hb dX1_nextChoice_33 hl (by decide) rfl (fun ls hl => ?_)
    exact lp35 fuel (0 : Int32) ((-1) : Int32) (7 : Int32) (0 : Int32)  _ _ _ hP hS (lv_sub hl [4, 3, 2, 1, 0] rfl) hN
  · rw [if_neg c1] at hN
    refine lv_aload_n hx hb dX1_nextChoice_7 rfl (lv_at hl 0 rfl) ?_
    refine k_get (C := RX1) (T := TX1) (N := 13) (ci := 1) (v := .int (u.2.2 1)) hx hb hts (fun _ h => List.mem_cons_of_mem _ (List.mem_append_right _ h)) hown hC hP (vO.m hV) (vO.o hV) rfl 9 (by decide) (hts (.fieldLink RX1 41 "OrderedClauses$Store" "steps" "I") (List.mem_of_getElem? (i := 2) rfl)) rfl dX1_nextChoice_8 ?_
    refine lv_iconst (v := 1) hx hb dX1_nextChoice_11 (by decide) ?_
    refine lv_iadd hx hb dX1_nextChoice_12 ?_
    refine lv_aload_n hx hb dX1_nextChoice_13 rfl (lv_at hl 0 rfl) ?_
    refine k_get (C := RX1) (T := TX1) (N := 13) (ci := 1) (v := .int (u.2.2 2)) hx hb hts (fun _ h => List.mem_cons_of_mem _ (List.mem_append_right _ h)) hown hC hP (vO.m hV) (vO.o hV) rfl 10 (by decide) (hts (.fieldLink RX1 44 "OrderedClauses$Store" "setting" "I") (List.mem_of_getElem? (i := 1) rfl)) rfl dX1_nextChoice_14 ?_
    obtain ⟨v12, hv12, hN⟩ := oB_spec hN
    refine lv_iremE hx hb dX1_nextChoice_17 hv12 ?_
    refine lv_if_ne (tgt := 25) hx hb dX1_nextChoice_18 (by decide) (fun c13 => ?_) (fun c13 => ?_)
    · rw [if_neg c13] at hN
      refine lv_iconst (v := 0) hx hb dX1_nextChoice_25 (by decide) ?_
      refine lv_istore_n (lv' := [(1, .int (0 : Int32)), (0, .ref h0)]) hx hb dX1_nextChoice_26 rfl hl (by decide) rfl (fun ls hl => ?_)
      refine lv_iconst (v := (-1)) hx hb dX1_nextChoice_27 (by decide) ?_
      refine lv_istore_n (lv' := [(2, .int ((-1) : Int32)), (1, .int (0 : Int32)), (0, .ref h0)]) hx hb dX1_nextChoice_28 rfl hl (by decide) rfl (fun ls hl => ?_)
      refine lv_bipush (v := 7) hx hb dX1_nextChoice_29 (by decide) ?_
      refine lv_istore_n (lv' := [(3, .int (7 : Int32)), (2, .int ((-1) : Int32)), (1, .int (0 : Int32)), (0, .ref h0)]) hx hb dX1_nextChoice_31 rfl hl (by decide) rfl (fun ls hl => ?_)
      refine lv_iconst (v := 0) hx hb dX1_nextChoice_32 (by decide) ?_
      refine lv_istore (lv' := [(4, .int (0 : Int32)), (3, .int (7 : Int32)), (2, .int ((-1) : Int32)), (1, .int (0 : Int32)), (0, .ref h0)]) hx hb dX1_nextChoice_33 hl (by decide) rfl (fun ls hl => ?_)
      exact lp35 fuel (0 : Int32) ((-1) : Int32) (7 : Int32) (0 : Int32)  _ _ _ hP hS (lv_sub hl [4, 3, 2, 1, 0] rfl) hN
    · rw [if_pos c13] at hN
      refine lv_iconst (v := 1) hx hb dX1_nextChoice_21 (by decide) ?_
      refine lv_goto (tgt := 26) hx hb dX1_nextChoice_22 (by decide) ?_
      refine lv_istore_n (lv' := [(1, .int (1 : Int32)), (0, .ref h0)]) hx hb dX1_nextChoice_26 rfl hl (by decide) rfl (fun ls hl => ?_)
      refine lv_iconst (v := (-1)) hx hb dX1_nextChoice_27 (by decide) ?_
      refine lv_istore_n (lv' := [(2, .int ((-1) : Int32)), (1, .int (1 : Int32)), (0, .ref h0)]) hx hb dX1_nextChoice_28 rfl hl (by decide) rfl (fun ls hl => ?_)
      refine lv_bipush (v := 7) hx hb dX1_nextChoice_29 (by decide) ?_
      refine lv_istore_n (lv' := [(3, .int (7 : Int32)), (2, .int ((-1) : Int32)), (1, .int (1 : Int32)), (0, .ref h0)]) hx hb dX1_nextChoice_31 rfl hl (by decide) rfl (fun ls hl => ?_)
      refine lv_iconst (v := 0) hx hb dX1_nextChoice_32 (by decide) ?_
      refine lv_istore (lv' := [(4, .int (0 : Int32)), (3, .int (7 : Int32)), (2, .int ((-1) : Int32)), (1, .int (1 : Int32)), (0, .ref h0)]) hx hb dX1_nextChoice_33 hl (by decide) rfl (fun ls hl => ?_)
      exact lp35 fuel (1 : Int32) ((-1) : Int32) (7 : Int32) (0 : Int32)  _ _ _ hP hS (lv_sub hl [4, 3, 2, 1, 0] rfl) hN
set_option maxHeartbeats 4000000 in
set_option maxRecDepth 100000 in
theorem c_X1_resolveWithDone (l : Launch) (g : Gm) (L : List Nat) {A : Nat → Prop} (hL : kL L A) (G : Nat → va_E) (h0 : Nat) (r : Nat → Nat) (u : St) (hV : vS g L G h0 r u) (p0 : Int32) (v : Int32) (w : St) (hF : F_X1_resolveWithDone u p0 = some (v, w)) : Met l yX1_resolveWithDone wsX1_resolveWithDone ({ frames := 4, cells := 0, slots := 0, locals := 97 } : Room) (va_Pc [.ref h0, .int p0] (kB g L A G)) (va_Qi (fun x (G9 : Nat → va_E) => x = v ∧ (vS g L G9 h0 r w ∧ frS h0 r 8 G G9)) (kE g L) A) 0 0 A := by
  refine Met.ofW (cc := cX1_resolveWithDone) (maxL := 10) (ret := (some .boolean)) (by decide) rfl ?_
  intro p e s m args below meth c s₁ B hml hv
  obtain ⟨rfl, hP, hC⟩ := hv
  have hx := B.exec
  have hb := B.bytes
  have hr := B.returns
  have hts := atoms_spec (ws := wsX1_resolveWithDone) B.pre
  have hown : s.vm.findClass RX1 = some m.cls := findClass_of_methodNamed B.named
  have hlk := B.notSynchronized
  have hS : va_S A s.heap s.heap [] := va_S.rf
  have hV0 := hV
  have hfr : frS h0 r 8 G G := frS.rf
  have lp47 : ∀ (n : Nat) (u : St) (x1 : Int32) (x2 : Int32) (x3 : Int32) (x4 : Int32) (x5 : Int32) (x6 : Int32) (x7 : Int32) (G1 : Nat → va_E) (H : Heap) (locs : List Loc) (ls : Array Slot), vS g L G1 h0 r u → frS h0 r 8 G G1 → va_P g.1 vwCl (va_pl L G1) H → va_S A s.heap H locs → lv_has ls 10 [(0, .ref h0), (1, .int x1), (2, .int x2), (3, .int x3), (4, .int x4), (5, .int x5), (6, .int x6), (7, .int x7)] → FL_X1_resolveWithDone_47  n u x1 x2 x3 x4 x5 x6 x7 = some (v, w) → W p l e (headSpec wsX1_resolveWithDone ({ frames := 4, cells := 0, slots := 0, locals := 97 } : Room)).room s m ([.ref h0, .int p0] : List Value).toArray below meth c H locs 0 0 (MQ below (va_Qi (fun x (G9 : Nat → va_E) => x = v ∧ (vS g L G9 h0 r w ∧ frS h0 r 8 G G9)) (kE g L) A) ([.ref h0, .int p0] : List Value).toArray s 0 0 A) (F0 m 47 ls []) := by
    intro n
    induction n with
    | zero =>
      intro u x1 x2 x3 x4 x5 x6 x7 G1 H locs ls hV hfr hP hS hl hN
      exact absurd hN (by simp [FL_X1_resolveWithDone_47])
    | succ n ih =>
      intro u x1 x2 x3 x4 x5 x6 x7 G1 H locs ls hV hfr hP hS hl hN
      rw [FL_X1_resolveWithDone_47] at hN
      refine lv_iload hx hb dX1_resolveWithDone_47 (lv_at hl 7 rfl) ?_
      refine lv_iload hx hb dX1_resolveWithDone_49 (lv_at hl 6 rfl) ?_
      refine lv_icmp_ge (tgt := 165) hx hb dX1_resolveWithDone_51 (by decide) (fun c6 => ?_) (fun c6 => ?_)
      · rw [if_pos c6] at hN
        refine lv_iconst (v := 1) hx hb dX1_resolveWithDone_165 (by decide) ?_
        obtain ⟨hE, hE2⟩ := spair hN
        exact k_zretW hx hb hr (by decide) hE ⟨hE2 ▸ hV, hfr⟩ hP hS hlk dX1_resolveWithDone_166
      · rw [if_neg c6] at hN
        refine lv_aload_n hx hb dX1_resolveWithDone_54 rfl (lv_at hl 0 rfl) ?_
        refine lv_iload_n hx hb dX1_resolveWithDone_55 rfl (lv_at hl 1 rfl) ?_
        obtain ⟨v7, hv7, hN⟩ := oB_spec hN
        refine k_iR hS (va_runV (As := [.int x1]) (rest := []) ⟨hx, hb, hml, hown, hts⟩ (c_X1_isDropped l g L hL G1 h0 r u hV x1 v7 hv7) (cwV 1 hts gX1_resolveWithDone_X1_isDropped rfl rfl rfl (by decide +kernel) ⟨Nat.le_of_ble_eq_true rfl, Nat.le_of_ble_eq_true rfl⟩) (k_preV hC hS hP (vO.m hV) (vO.o hV) rfl) rfl rfl hl.1 rfl (lv_room (Nat.le_of_ble_eq_true rfl)) dX1_resolveWithDone_56 ⟨Nat.zero_le _, Nat.zero_le _⟩) (fun H locs hP hS => ?_)
        refine lv_if_ne (tgt := 165) hx hb dX1_resolveWithDone_59 (by decide) (fun c9 => ?_) (fun c9 => ?_)
        · rw [if_neg c9] at hN
          refine lv_iconst (v := 1) hx hb dX1_resolveWithDone_165 (by decide) ?_
          obtain ⟨hE, hE2⟩ := spair hN
          exact k_zretW hx hb hr (by decide) hE ⟨hE2 ▸ hV, hfr⟩ hP hS hlk dX1_resolveWithDone_166
        · rw [if_pos c9] at hN
          refine lv_aload_n hx hb dX1_resolveWithDone_62 rfl (lv_at hl 0 rfl) ?_
          refine k_get (C := RX1) (T := TX1) (N := 13) (ci := 1) (v := .ref (r 2)) hx hb hts (fun _ h => List.mem_cons_of_mem _ (List.mem_append_right _ h)) hown hC hP (vO.m hV) (vO.o hV) rfl 2 (by decide) (hts (.fieldLink RX1 18 "OrderedClauses$Store" "status" "[I") (List.mem_of_getElem? (i := 3) rfl)) rfl dX1_resolveWithDone_63 ?_
          refine lv_iload hx hb dX1_resolveWithDone_66 (lv_at hl 7 rfl) ?_
          obtain ⟨v10, hv10, hN⟩ := oB_spec hN
          refine k_iR hS (va_runSN (As := [.ref (r 2), .int x7]) (rest := []) ⟨hx, hb, hml, hown, hts⟩ (c_X3_at l g L hL G1 (r 2) (u.1 2) (lnS 2) (vO.rm hV 2 (by decide)) (vO.ri hV 2 (by decide)) x7 v10 hv10) ⟨va_cnB 2 hts gX1_resolveWithDone_X3_at_n65 rfl rfl rfl (hC.2.1.2 (RX1, 65, yX3_at, RX3) (List.mem_of_getElem? (i := 6) rfl)) (hts (.initialized RX3) (List.mem_of_getElem? (i := 6) rfl)) (by decide +kernel) ⟨Nat.le_of_ble_eq_true rfl, Nat.le_of_ble_eq_true rfl⟩, (hts (.static yX3_at) (List.mem_of_getElem? (i := 5) rfl)), trivial⟩ (k_pre hC hS hP) rfl rfl hl.1 rfl (lv_room (Nat.le_of_ble_eq_true rfl)) dX1_resolveWithDone_68 ⟨Nat.zero_le _, Nat.zero_le _⟩) (fun H locs hP hS => ?_)
          refine lv_iconst (v := 1) hx hb dX1_resolveWithDone_71 (by decide) ?_
          refine lv_icmp_ne (tgt := 159) hx hb dX1_resolveWithDone_72 (by decide) (fun c12 => ?_) (fun c12 => ?_)
          · rw [if_neg c12] at hN
            refine lv_iinc (v := (x7 + 1)) (lv' := [(7, .int (x7 + 1)), (0, .ref h0), (1, .int x1), (2, .int x2), (3, .int x3), (4, .int x4), (5, .int x5), (6, .int x6)]) hx hb dX1_resolveWithDone_159 hl (k := 7) rfl rfl (by decide) rfl (fun ls hl => ?_)
            refine lv_goto (tgt := 47) hx hb dX1_resolveWithDone_162 (by decide) ?_
            exact ih (u.1, u.2.1, u.2.2) x1 x2 x3 x4 x5 x6 (x7 + 1)  _ _ _ _ hV hfr hP hS (lv_sub hl [1, 2, 3, 4, 5, 6, 7, 0] rfl) hN
          · rw [if_pos c12] at hN
            refine lv_aload_n hx hb dX1_resolveWithDone_75 rfl (lv_at hl 0 rfl) ?_
            refine lv_aload_n hx hb dX1_resolveWithDone_76 rfl (lv_at hl 0 rfl) ?_
            refine k_get (C := RX1) (T := TX1) (N := 13) (ci := 1) (v := .ref (r 1)) hx hb hts (fun _ h => List.mem_cons_of_mem _ (List.mem_append_right _ h)) hown hC hP (vO.m hV) (vO.o hV) rfl 1 (by decide) (hts (.fieldLink RX1 15 "OrderedClauses$Store" "literals" "[I") (List.mem_of_getElem? (i := 1) rfl)) rfl dX1_resolveWithDone_77 ?_
            refine lv_iload hx hb dX1_resolveWithDone_80 (lv_at hl 7 rfl) ?_
            obtain ⟨v13, hv13, hN⟩ := oB_spec hN
            refine k_iR hS (va_runSN (As := [.ref (r 1), .int x7]) (rest := [.ref h0]) ⟨hx, hb, hml, hown, hts⟩ (c_X3_at l g L hL G1 (r 1) (u.1 1) (lnS 1) (vO.rm hV 1 (by decide)) (vO.ri hV 1 (by decide)) x7 v13 hv13) ⟨va_cnB 2 hts gX1_resolveWithDone_X3_at_n65 rfl rfl rfl (hC.2.1.2 (RX1, 65, yX3_at, RX3) (List.mem_of_getElem? (i := 6) rfl)) (hts (.initialized RX3) (List.mem_of_getElem? (i := 6) rfl)) (by decide +kernel) ⟨Nat.le_of_ble_eq_true rfl, Nat.le_of_ble_eq_true rfl⟩, (hts (.static yX3_at) (List.mem_of_getElem? (i := 5) rfl)), trivial⟩ (k_pre hC hS hP) rfl rfl hl.1 rfl (lv_room (Nat.le_of_ble_eq_true rfl)) dX1_resolveWithDone_82 ⟨Nat.zero_le _, Nat.zero_le _⟩) (fun H locs hP hS => ?_)
            obtain ⟨v15, hv15, hN⟩ := oB_spec hN
            refine k_iR hS (va_runV (As := [.int v13]) (rest := []) ⟨hx, hb, hml, hown, hts⟩ (c_X1_greatestOf l g L hL G1 h0 r u hV v13 v15 hv15) (cwV 1 hts gX1_resolveWithDone_X1_greatestOf rfl rfl rfl (by decide +kernel) ⟨Nat.le_of_ble_eq_true rfl, Nat.le_of_ble_eq_true rfl⟩) (k_preV hC hS hP (vO.m hV) (vO.o hV) rfl) rfl rfl hl.1 rfl (lv_room (Nat.le_of_ble_eq_true rfl)) dX1_resolveWithDone_85 ⟨Nat.zero_le _, Nat.zero_le _⟩) (fun H locs hP hS => ?_)
            refine lv_iload_n hx hb dX1_resolveWithDone_88 rfl (lv_at hl 3 rfl) ?_
            refine lv_icmp_ne (tgt := 159) hx hb dX1_resolveWithDone_89 (by decide) (fun c17 => ?_) (fun c17 => ?_)
            · rw [if_neg c17] at hN
              refine lv_iinc (v := (x7 + 1)) (lv' := [(7, .int (x7 + 1)), (0, .ref h0), (1, .int x1), (2, .int x2), (3, .int x3), (4, .int x4), (5, .int x5), (6, .int x6)]) hx hb dX1_resolveWithDone_159 hl (k := 7) rfl rfl (by decide) rfl (fun ls hl => ?_)
              refine lv_goto (tgt := 47) hx hb dX1_resolveWithDone_162 (by decide) ?_
              exact ih (u.1, u.2.1, u.2.2) x1 x2 x3 x4 x5 x6 (x7 + 1)  _ _ _ _ hV hfr hP hS (lv_sub hl [1, 2, 3, 4, 5, 6, 7, 0] rfl) hN
            · rw [if_pos c17] at hN
              refine lv_aload_n hx hb dX1_resolveWithDone_92 rfl (lv_at hl 0 rfl) ?_
              refine k_get (C := RX1) (T := TX1) (N := 13) (ci := 1) (v := .ref (r 1)) hx hb hts (fun _ h => List.mem_cons_of_mem _ (List.mem_append_right _ h)) hown hC hP (vO.m hV) (vO.o hV) rfl 1 (by decide) (hts (.fieldLink RX1 15 "OrderedClauses$Store" "literals" "[I") (List.mem_of_getElem? (i := 1) rfl)) rfl dX1_resolveWithDone_93 ?_
              refine lv_iload_n hx hb dX1_resolveWithDone_96 rfl (lv_at hl 1 rfl) ?_
              obtain ⟨v18, hv18, hN⟩ := oB_spec hN
              refine k_iR hS (va_runSN (As := [.ref (r 1), .int x1]) (rest := []) ⟨hx, hb, hml, hown, hts⟩ (c_X3_at l g L hL G1 (r 1) (u.1 1) (lnS 1) (vO.rm hV 1 (by decide)) (vO.ri hV 1 (by decide)) x1 v18 hv18) ⟨va_cnB 2 hts gX1_resolveWithDone_X3_at_n65 rfl rfl rfl (hC.2.1.2 (RX1, 65, yX3_at, RX3) (List.mem_of_getElem? (i := 6) rfl)) (hts (.initialized RX3) (List.mem_of_getElem? (i := 6) rfl)) (by decide +kernel) ⟨Nat.le_of_ble_eq_true rfl, Nat.le_of_ble_eq_true rfl⟩, (hts (.static yX3_at) (List.mem_of_getElem? (i := 5) rfl)), trivial⟩ (k_pre hC hS hP) rfl rfl hl.1 rfl (lv_room (Nat.le_of_ble_eq_true rfl)) dX1_resolveWithDone_97 ⟨Nat.zero_le _, Nat.zero_le _⟩) (fun H locs hP hS => ?_)
              refine lv_aload_n hx hb dX1_resolveWithDone_100 rfl (lv_at hl 0 rfl) ?_
              refine k_get (C := RX1) (T := TX1) (N := 13) (ci := 1) (v := .ref (r 1)) hx hb hts (fun _ h => List.mem_cons_of_mem _ (List.mem_append_right _ h)) hown hC hP (vO.m hV) (vO.o hV) rfl 1 (by decide) (hts (.fieldLink RX1 15 "OrderedClauses$Store" "literals" "[I") (List.mem_of_getElem? (i := 1) rfl)) rfl dX1_resolveWithDone_101 ?_
              refine lv_iload hx hb dX1_resolveWithDone_104 (lv_at hl 7 rfl) ?_
              obtain ⟨v20, hv20, hN⟩ := oB_spec hN
              refine k_iR hS (va_runSN (As := [.ref (r 1), .int x7]) (rest := [.int v18]) ⟨hx, hb, hml, hown, hts⟩ (c_X3_at l g L hL G1 (r 1) (u.1 1) (lnS 1) (vO.rm hV 1 (by decide)) (vO.ri hV 1 (by decide)) x7 v20 hv20) ⟨va_cnB 2 hts gX1_resolveWithDone_X3_at_n65 rfl rfl rfl (hC.2.1.2 (RX1, 65, yX3_at, RX3) (List.mem_of_getElem? (i := 6) rfl)) (hts (.initialized RX3) (List.mem_of_getElem? (i := 6) rfl)) (by decide +kernel) ⟨Nat.le_of_ble_eq_true rfl, Nat.le_of_ble_eq_true rfl⟩, (hts (.static yX3_at) (List.mem_of_getElem? (i := 5) rfl)), trivial⟩ (k_pre hC hS hP) rfl rfl hl.1 rfl (lv_room (Nat.le_of_ble_eq_true rfl)) dX1_resolveWithDone_106 ⟨Nat.zero_le _, Nat.zero_le _⟩) (fun H locs hP hS => ?_)
              refine lv_ior hx hb dX1_resolveWithDone_109 ?_
              refine lv_iload hx hb dX1_resolveWithDone_110 (lv_at hl 5 rfl) ?_
              refine lv_iconst (v := (-1)) hx hb dX1_resolveWithDone_112 (by decide) ?_
              refine lv_ixor hx hb dX1_resolveWithDone_113 ?_
              refine lv_iand hx hb dX1_resolveWithDone_114 ?_
              refine lv_istore (lv' := [(8, .int ((v18 ||| v20) &&& (x5 ^^^ ((-1) : Int32)))), (0, .ref h0), (1, .int x1), (2, .int x2), (3, .int x3), (4, .int x4), (5, .int x5), (6, .int x6), (7, .int x7)]) hx hb dX1_resolveWithDone_115 hl (by decide) rfl (fun ls hl => ?_)
              refine lv_aload_n hx hb dX1_resolveWithDone_117 rfl (lv_at hl 1 rfl) ?_
              refine lv_iload hx hb dX1_resolveWithDone_118 (lv_at hl 0 rfl) ?_
              refine lv_iload hx hb dX1_resolveWithDone_120 (lv_at hl 5 rfl) ?_
              refine lv_if_eq (tgt := 129) hx hb dX1_resolveWithDone_122 (by decide) (fun c22 => ?_) (fun c22 => ?_)
              · rw [if_pos c22] at hN
                refine lv_iload hx hb dX1_resolveWithDone_129 (lv_at hl 8 rfl) ?_
                refine lv_iload hx hb dX1_resolveWithDone_131 (lv_at hl 5 rfl) ?_
                refine lv_if_eq (tgt := 141) hx hb dX1_resolveWithDone_133 (by decide) (fun c23 => ?_) (fun c23 => ?_)
                · rw [if_pos c23] at hN
                  refine lv_iload_n hx hb dX1_resolveWithDone_141 rfl (lv_at hl 2 rfl) ?_
                  refine lv_iload_n hx hb dX1_resolveWithDone_142 rfl (lv_at hl 3 rfl) ?_
                  refine lv_iconst (v := 1) hx hb dX1_resolveWithDone_143 (by decide) ?_
                  refine lv_ishr hx hb dX1_resolveWithDone_144 ?_
                  obtain ⟨v24, w25, hv24, hN⟩ := oB2_spec hN
                  refine k_iW hS (va_runV (As := [.int ((v18 ||| v20) &&& (x5 ^^^ ((-1) : Int32))), .int x7, .int x1, .int (x2 >>> ((1 : Int32) &&& 31))]) (rest := []) ⟨hx, hb, hml, hown, hts⟩ (c_X1_bring l g L hL G1 h0 r u hV ((v18 ||| v20) &&& (x5 ^^^ ((-1) : Int32))) x7 x1 (x2 >>> ((1 : Int32) &&& 31)) v24 w25 hv24) (cwV 4 hts gX1_resolveWithDone_X1_bring rfl rfl rfl (by decide +kernel) ⟨Nat.le_of_ble_eq_true rfl, Nat.le_of_ble_eq_true rfl⟩) (k_preV hC hS hP (vO.m hV) (vO.o hV) rfl) rfl rfl hl.1 rfl (lv_room (Nat.le_of_ble_eq_true rfl)) dX1_resolveWithDone_145 ⟨Nat.zero_le _, Nat.zero_le _⟩) (fun G26 H locs hq hP hS => ?_)
                  obtain ⟨hV, hfq⟩ := hq
                  have hfr := frS.tr hfr hfq
                  refine lv_istore (lv' := [(9, .int v24), (8, .int ((v18 ||| v20) &&& (x5 ^^^ ((-1) : Int32)))), (0, .ref h0), (1, .int x1), (2, .int x2), (3, .int x3), (4, .int x4), (5, .int x5), (6, .int x6), (7, .int x7)]) hx hb dX1_resolveWithDone_148 hl (by decide) rfl (fun ls hl => ?_)
                  refine lv_iload hx hb dX1_resolveWithDone_150 (lv_at hl 0 rfl) ?_
                  refine lv_ldc (v := (-1000003)) hx hb hown (hts (.constant RX1 94 (-1000003)) (List.mem_of_getElem? (i := 4) rfl)) dX1_resolveWithDone_152 ?_
                  refine lv_icmp_ne (tgt := 159) hx hb dX1_resolveWithDone_154 (by decide) (fun c27 => ?_) (fun c27 => ?_)
                  · rw [if_neg c27] at hN
                    refine lv_iinc (v := (x7 + 1)) (lv' := [(7, .int (x7 + 1)), (9, .int v24), (8, .int ((v18 ||| v20) &&& (x5 ^^^ ((-1) : Int32)))), (0, .ref h0), (1, .int x1), (2, .int x2), (3, .int x3), (4, .int x4), (5, .int x5), (6, .int x6)]) hx hb dX1_resolveWithDone_159 hl (k := 9) rfl rfl (by decide) rfl (fun ls hl => ?_)
                    refine lv_goto (tgt := 47) hx hb dX1_resolveWithDone_162 (by decide) ?_
                    exact ih (w25.1, w25.2.1, w25.2.2) x1 x2 x3 x4 x5 x6 (x7 + 1)  _ _ _ _ hV hfr hP hS (lv_sub hl [3, 4, 5, 6, 7, 8, 9, 0] rfl) hN
                  · rw [if_pos c27] at hN
                    refine lv_iconst (v := 0) hx hb dX1_resolveWithDone_157 (by decide) ?_
                    obtain ⟨hE, hE2⟩ := spair hN
                    exact k_zretW hx hb hr (by decide) hE ⟨hE2 ▸ hV, hfr⟩ hP hS hlk dX1_resolveWithDone_158
                · rw [if_neg c23] at hN
                  refine lv_iload hx hb dX1_resolveWithDone_136 (lv_at hl 8 rfl) ?_
                  refine lv_goto (tgt := 142) hx hb dX1_resolveWithDone_138 (by decide) ?_
                  refine lv_iload_n hx hb dX1_resolveWithDone_142 rfl (lv_at hl 3 rfl) ?_
                  refine lv_iconst (v := 1) hx hb dX1_resolveWithDone_143 (by decide) ?_
                  refine lv_ishr hx hb dX1_resolveWithDone_144 ?_
                  obtain ⟨v28, w29, hv28, hN⟩ := oB2_spec hN
                  refine k_iW hS (va_runV (As := [.int ((v18 ||| v20) &&& (x5 ^^^ ((-1) : Int32))), .int x7, .int x7, .int (x2 >>> ((1 : Int32) &&& 31))]) (rest := []) ⟨hx, hb, hml, hown, hts⟩ (c_X1_bring l g L hL G1 h0 r u hV ((v18 ||| v20) &&& (x5 ^^^ ((-1) : Int32))) x7 x7 (x2 >>> ((1 : Int32) &&& 31)) v28 w29 hv28) (cwV 4 hts gX1_resolveWithDone_X1_bring rfl rfl rfl (by decide +kernel) ⟨Nat.le_of_ble_eq_true rfl, Nat.le_of_ble_eq_true rfl⟩) (k_preV hC hS hP (vO.m hV) (vO.o hV) rfl) rfl rfl hl.1 rfl (lv_room (Nat.le_of_ble_eq_true rfl)) dX1_resolveWithDone_145 ⟨Nat.zero_le _, Nat.zero_le _⟩) (fun G30 H locs hq hP hS => ?_)
                  obtain ⟨hV, hfq⟩ := hq
                  have hfr := frS.tr hfr hfq
                  refine lv_istore (lv' := [(9, .int v28), (8, .int ((v18 ||| v20) &&& (x5 ^^^ ((-1) : Int32)))), (0, .ref h0), (1, .int x1), (2, .int x2), (3, .int x3), (4, .int x4), (5, .int x5), (6, .int x6), (7, .int x7)]) hx hb dX1_resolveWithDone_148 hl (by decide) rfl (fun ls hl => ?_)
                  refine lv_iload hx hb dX1_resolveWithDone_150 (lv_at hl 0 rfl) ?_
                  refine lv_ldc (v := (-1000003)) hx hb hown (hts (.constant RX1 94 (-1000003)) (List.mem_of_getElem? (i := 4) rfl)) dX1_resolveWithDone_152 ?_
                  refine lv_icmp_ne (tgt := 159) hx hb dX1_resolveWithDone_154 (by decide) (fun c31 => ?_) (fun c31 => ?_)
                  · rw [if_neg c31] at hN
                    refine lv_iinc (v := (x7 + 1)) (lv' := [(7, .int (x7 + 1)), (9, .int v28), (8, .int ((v18 ||| v20) &&& (x5 ^^^ ((-1) : Int32)))), (0, .ref h0), (1, .int x1), (2, .int x2), (3, .int x3), (4, .int x4), (5, .int x5), (6, .int x6)]) hx hb dX1_resolveWithDone_159 hl (k := 9) rfl rfl (by decide) rfl (fun ls hl => ?_)
                    refine lv_goto (tgt := 47) hx hb dX1_resolveWithDone_162 (by decide) ?_
                    exact ih (w29.1, w29.2.1, w29.2.2) x1 x2 x3 x4 x5 x6 (x7 + 1)  _ _ _ _ hV hfr hP hS (lv_sub hl [3, 4, 5, 6, 7, 8, 9, 0] rfl) hN
                  · rw [if_pos c31] at hN
                    refine lv_iconst (v := 0) hx hb dX1_resolveWithDone_157 (by decide) ?_
                    obtain ⟨hE, hE2⟩ := spair hN
                    exact k_zretW hx hb hr (by decide) hE ⟨hE2 ▸ hV, hfr⟩ hP hS hlk dX1_resolveWithDone_158
              · rw [if_neg c22] at hN
                refine lv_iload_n hx hb dX1_resolveWithDone_125 rfl (lv_at hl 2 rfl) ?_
                refine lv_goto (tgt := 131) hx hb dX1_resolveWithDone_126 (by decide) ?_
                refine lv_iload hx hb dX1_resolveWithDone_131 (lv_at hl 5 rfl) ?_
                refine lv_if_eq (tgt := 141) hx hb dX1_resolveWithDone_133 (by decide) (fun c32 => ?_) (fun c32 => ?_)
                · rw [if_pos c32] at hN
                  refine lv_iload_n hx hb dX1_resolveWithDone_141 rfl (lv_at hl 2 rfl) ?_
                  refine lv_iload_n hx hb dX1_resolveWithDone_142 rfl (lv_at hl 3 rfl) ?_
                  refine lv_iconst (v := 1) hx hb dX1_resolveWithDone_143 (by decide) ?_
                  refine lv_ishr hx hb dX1_resolveWithDone_144 ?_
                  obtain ⟨v33, w34, hv33, hN⟩ := oB2_spec hN
                  refine k_iW hS (va_runV (As := [.int ((v18 ||| v20) &&& (x5 ^^^ ((-1) : Int32))), .int x1, .int x1, .int (x2 >>> ((1 : Int32) &&& 31))]) (rest := []) ⟨hx, hb, hml, hown, hts⟩ (c_X1_bring l g L hL G1 h0 r u hV ((v18 ||| v20) &&& (x5 ^^^ ((-1) : Int32))) x1 x1 (x2 >>> ((1 : Int32) &&& 31)) v33 w34 hv33) (cwV 4 hts gX1_resolveWithDone_X1_bring rfl rfl rfl (by decide +kernel) ⟨Nat.le_of_ble_eq_true rfl, Nat.le_of_ble_eq_true rfl⟩) (k_preV hC hS hP (vO.m hV) (vO.o hV) rfl) rfl rfl hl.1 rfl (lv_room (Nat.le_of_ble_eq_true rfl)) dX1_resolveWithDone_145 ⟨Nat.zero_le _, Nat.zero_le _⟩) (fun G35 H locs hq hP hS => ?_)
                  obtain ⟨hV, hfq⟩ := hq
                  have hfr := frS.tr hfr hfq
                  refine lv_istore (lv' := [(9, .int v33), (8, .int ((v18 ||| v20) &&& (x5 ^^^ ((-1) : Int32)))), (0, .ref h0), (1, .int x1), (2, .int x2), (3, .int x3), (4, .int x4), (5, .int x5), (6, .int x6), (7, .int x7)]) hx hb dX1_resolveWithDone_148 hl (by decide) rfl (fun ls hl => ?_)
                  refine lv_iload hx hb dX1_resolveWithDone_150 (lv_at hl 0 rfl) ?_
                  refine lv_ldc (v := (-1000003)) hx hb hown (hts (.constant RX1 94 (-1000003)) (List.mem_of_getElem? (i := 4) rfl)) dX1_resolveWithDone_152 ?_
                  refine lv_icmp_ne (tgt := 159) hx hb dX1_resolveWithDone_154 (by decide) (fun c36 => ?_) (fun c36 => ?_)
                  · rw [if_neg c36] at hN
                    refine lv_iinc (v := (x7 + 1)) (lv' := [(7, .int (x7 + 1)), (9, .int v33), (8, .int ((v18 ||| v20) &&& (x5 ^^^ ((-1) : Int32)))), (0, .ref h0), (1, .int x1), (2, .int x2), (3, .int x3), (4, .int x4), (5, .int x5), (6, .int x6)]) hx hb dX1_resolveWithDone_159 hl (k := 9) rfl rfl (by decide) rfl (fun ls hl => ?_)
                    refine lv_goto (tgt := 47) hx hb dX1_resolveWithDone_162 (by decide) ?_
                    exact ih (w34.1, w34.2.1, w34.2.2) x1 x2 x3 x4 x5 x6 (x7 + 1)  _ _ _ _ hV hfr hP hS (lv_sub hl [3, 4, 5, 6, 7, 8, 9, 0] rfl) hN
                  · rw [if_pos c36] at hN
                    refine lv_iconst (v := 0) hx hb dX1_resolveWithDone_157 (by decide) ?_
                    obtain ⟨hE, hE2⟩ := spair hN
                    exact k_zretW hx hb hr (by decide) hE ⟨hE2 ▸ hV, hfr⟩ hP hS hlk dX1_resolveWithDone_158
                · rw [if_neg c32] at hN
                  refine lv_iload hx hb dX1_resolveWithDone_136 (lv_at hl 8 rfl) ?_
                  refine lv_goto (tgt := 142) hx hb dX1_resolveWithDone_138 (by decide) ?_
                  refine lv_iload_n hx hb dX1_resolveWithDone_142 rfl (lv_at hl 3 rfl) ?_
                  refine lv_iconst (v := 1) hx hb dX1_resolveWithDone_143 (by decide) ?_
                  refine lv_ishr hx hb dX1_resolveWithDone_144 ?_
                  obtain ⟨v37, w38, hv37, hN⟩ := oB2_spec hN
                  refine k_iW hS (va_runV (As := [.int ((v18 ||| v20) &&& (x5 ^^^ ((-1) : Int32))), .int x1, .int x7, .int (x2 >>> ((1 : Int32) &&& 31))]) (rest := []) ⟨hx, hb, hml, hown, hts⟩ (c_X1_bring l g L hL G1 h0 r u hV ((v18 ||| v20) &&& (x5 ^^^ ((-1) : Int32))) x1 x7 (x2 >>> ((1 : Int32) &&& 31)) v37 w38 hv37) (cwV 4 hts gX1_resolveWithDone_X1_bring rfl rfl rfl (by decide +kernel) ⟨Nat.le_of_ble_eq_true rfl, Nat.le_of_ble_eq_true rfl⟩) (k_preV hC hS hP (vO.m hV) (vO.o hV) rfl) rfl rfl hl.1 rfl (lv_room (Nat.le_of_ble_eq_true rfl)) dX1_resolveWithDone_145 ⟨Nat.zero_le _, Nat.zero_le _⟩) (fun G39 H locs hq hP hS => ?_)
                  obtain ⟨hV, hfq⟩ := hq
                  have hfr := frS.tr hfr hfq
                  refine lv_istore (lv' := [(9, .int v37), (8, .int ((v18 ||| v20) &&& (x5 ^^^ ((-1) : Int32)))), (0, .ref h0), (1, .int x1), (2, .int x2), (3, .int x3), (4, .int x4), (5, .int x5), (6, .int x6), (7, .int x7)]) hx hb dX1_resolveWithDone_148 hl (by decide) rfl (fun ls hl => ?_)
                  refine lv_iload hx hb dX1_resolveWithDone_150 (lv_at hl 0 rfl) ?_
                  refine lv_ldc (v := (-1000003)) hx hb hown (hts (.constant RX1 94 (-1000003)) (List.mem_of_getElem? (i := 4) rfl)) dX1_resolveWithDone_152 ?_
                  refine lv_icmp_ne (tgt := 159) hx hb dX1_resolveWithDone_154 (by decide) (fun c40 => ?_) (fun c40 => ?_)
                  · rw [if_neg c40] at hN
                    refine lv_iinc (v := (x7 + 1)) (lv' := [(7, .int (x7 + 1)), (9, .int v37), (8, .int ((v18 ||| v20) &&& (x5 ^^^ ((-1) : Int32)))), (0, .ref h0), (1, .int x1), (2, .int x2), (3, .int x3), (4, .int x4), (5, .int x5), (6, .int x6)]) hx hb dX1_resolveWithDone_159 hl (k := 9) rfl rfl (by decide) rfl (fun ls hl => ?_)
                    refine lv_goto (tgt := 47) hx hb dX1_resolveWithDone_162 (by decide) ?_
                    exact ih (w38.1, w38.2.1, w38.2.2) x1 x2 x3 x4 x5 x6 (x7 + 1)  _ _ _ _ hV hfr hP hS (lv_sub hl [3, 4, 5, 6, 7, 8, 9, 0] rfl) hN
                  · rw [if_pos c40] at hN
                    refine lv_iconst (v := 0) hx hb dX1_resolveWithDone_157 (by decide) ?_
                    obtain ⟨hE, hE2⟩ := spair hN
                    exact k_zretW hx hb hr (by decide) hE ⟨hE2 ▸ hV, hfr⟩ hP hS hlk dX1_resolveWithDone_158
  have hl := lv_entry ([.ref h0, .int p0]) (n := 10) (Nat.le_of_ble_eq_true rfl)
  rw [lg_entry_eq]
  generalize (lg_sl ([.ref h0, .int p0]) ++ List.replicate (10 - (lg_sl ([.ref h0, .int p0])).length) Slot.unset).toArray = ls at hl ⊢
  have hl : lv_has ls 10 [(0, .ref h0), (1, .int p0)] := hl
  have hN := hF
  unfold F_X1_resolveWithDone at hN
  refine lv_aload_n hx hb dX1_resolveWithDone_0 rfl (lv_at hl 0 rfl) ?_
  refine lv_aload_n hx hb dX1_resolveWithDone_1 rfl (lv_at hl 0 rfl) ?_
  refine k_get (C := RX1) (T := TX1) (N := 13) (ci := 1) (v := .ref (r 1)) hx hb hts (fun _ h => List.mem_cons_of_mem _ (List.mem_append_right _ h)) hown hC hP (vO.m hV) (vO.o hV) rfl 1 (by decide) (hts (.fieldLink RX1 15 "OrderedClauses$Store" "literals" "[I") (List.mem_of_getElem? (i := 1) rfl)) rfl dX1_resolveWithDone_2 ?_
  refine lv_iload_n hx hb dX1_resolveWithDone_5 rfl (lv_at hl 1 rfl) ?_
  obtain ⟨v1, hv1, hN⟩ := oB_spec hN
  refine k_iR hS (va_runSN (As := [.ref (r 1), .int p0]) (rest := [.ref h0]) ⟨hx, hb, hml, hown, hts⟩ (c_X3_at l g L hL G (r 1) (u.1 1) (lnS 1) (vO.rm hV 1 (by decide)) (vO.ri hV 1 (by decide)) p0 v1 hv1) ⟨va_cnB 2 hts gX1_resolveWithDone_X3_at_n65 rfl rfl rfl (hC.2.1.2 (RX1, 65, yX3_at, RX3) (List.mem_of_getElem? (i := 6) rfl)) (hts (.initialized RX3) (List.mem_of_getElem? (i := 6) rfl)) (by decide +kernel) ⟨Nat.le_of_ble_eq_true rfl, Nat.le_of_ble_eq_true rfl⟩, (hts (.static yX3_at) (List.mem_of_getElem? (i := 5) rfl)), trivial⟩ (k_pre hC hS hP) rfl rfl hl.1 rfl (lv_room (Nat.le_of_ble_eq_true rfl)) dX1_resolveWithDone_6 ⟨Nat.zero_le _, Nat.zero_le _⟩) (fun H locs hP hS => ?_)
  obtain ⟨v3, hv3, hN⟩ := oB_spec hN
  refine k_iR hS (va_runV (As := [.int v1]) (rest := []) ⟨hx, hb, hml, hown, hts⟩ (c_X1_greatestOf l g L hL G h0 r u hV v1 v3 hv3) (cwV 1 hts gX1_resolveWithDone_X1_greatestOf rfl rfl rfl (by decide +kernel) ⟨Nat.le_of_ble_eq_true rfl, Nat.le_of_ble_eq_true rfl⟩) (k_preV hC hS hP (vO.m hV) (vO.o hV) rfl) rfl rfl hl.1 rfl (lv_room (Nat.le_of_ble_eq_true rfl)) dX1_resolveWithDone_9 ⟨Nat.zero_le _, Nat.zero_le _⟩) (fun H locs hP hS => ?_)
  refine lv_istore_n (lv' := [(2, .int v3), (0, .ref h0), (1, .int p0)]) hx hb dX1_resolveWithDone_12 rfl hl (by decide) rfl (fun ls hl => ?_)
  refine lv_iload_n hx hb dX1_resolveWithDone_13 rfl (lv_at hl 0 rfl) ?_
  refine lv_iconst (v := 1) hx hb dX1_resolveWithDone_14 (by decide) ?_
  refine lv_ixor hx hb dX1_resolveWithDone_15 ?_
  refine lv_istore_n (lv' := [(3, .int (v3 ^^^ (1 : Int32))), (2, .int v3), (0, .ref h0), (1, .int p0)]) hx hb dX1_resolveWithDone_16 rfl hl (by decide) rfl (fun ls hl => ?_)
  refine lv_iload_n hx hb dX1_resolveWithDone_17 rfl (lv_at hl 1 rfl) ?_
  refine lv_iload_n hx hb dX1_resolveWithDone_18 rfl (lv_at hl 0 rfl) ?_
  refine lv_icmp_ge (tgt := 26) hx hb dX1_resolveWithDone_19 (by decide) (fun c5 => ?_) (fun c5 => ?_)
  · rw [if_pos c5] at hN
    refine lv_iconst (v := 0) hx hb dX1_resolveWithDone_26 (by decide) ?_
    refine lv_istore (lv' := [(4, .int (0 : Int32)), (3, .int (v3 ^^^ (1 : Int32))), (2, .int v3), (0, .ref h0), (1, .int p0)]) hx hb dX1_resolveWithDone_27 hl (by decide) rfl (fun ls hl => ?_)
    refine lv_iconst (v := 1) hx hb dX1_resolveWithDone_29 (by decide) ?_
    refine lv_iload_n hx hb dX1_resolveWithDone_30 rfl (lv_at hl 2 rfl) ?_
    refine lv_ishl hx hb dX1_resolveWithDone_31 ?_
    refine lv_iconst (v := 1) hx hb dX1_resolveWithDone_32 (by decide) ?_
    refine lv_iload_n hx hb dX1_resolveWithDone_33 rfl (lv_at hl 1 rfl) ?_
    refine lv_ishl hx hb dX1_resolveWithDone_34 ?_
    refine lv_ior hx hb dX1_resolveWithDone_35 ?_
    refine lv_istore (lv' := [(5, .int (((1 : Int32) <<< (v3 &&& 31)) ||| ((1 : Int32) <<< ((v3 ^^^ (1 : Int32)) &&& 31)))), (4, .int (0 : Int32)), (3, .int (v3 ^^^ (1 : Int32))), (2, .int v3), (0, .ref h0), (1, .int p0)]) hx hb dX1_resolveWithDone_36 hl (by decide) rfl (fun ls hl => ?_)
    refine lv_aload_n hx hb dX1_resolveWithDone_38 rfl (lv_at hl 4 rfl) ?_
    refine k_get (C := RX1) (T := TX1) (N := 13) (ci := 1) (v := .int (u.2.2 0)) hx hb hts (fun _ h => List.mem_cons_of_mem _ (List.mem_append_right _ h)) hown hC hP (vO.m hV) (vO.o hV) rfl 8 (by decide) (hts (.fieldLink RX1 37 "OrderedClauses$Store" "clauses" "I") (List.mem_of_getElem? (i := 2) rfl)) rfl dX1_resolveWithDone_39 ?_
    refine lv_istore (lv' := [(6, .int (u.2.2 0)), (5, .int (((1 : Int32) <<< (v3 &&& 31)) ||| ((1 : Int32) <<< ((v3 ^^^ (1 : Int32)) &&& 31)))), (4, .int (0 : Int32)), (3, .int (v3 ^^^ (1 : Int32))), (2, .int v3), (0, .ref h0), (1, .int p0)]) hx hb dX1_resolveWithDone_42 hl (by decide) rfl (fun ls hl => ?_)
    refine lv_iconst (v := 0) hx hb dX1_resolveWithDone_44 (by decide) ?_
    refine lv_istore (lv' := [(7, .int (0 : Int32)), (6, .int (u.2.2 0)), (5, .int (((1 : Int32) <<< (v3 &&& 31)) ||| ((1 : Int32) <<< ((v3 ^^^ (1 : Int32)) &&& 31)))), (4, .int (0 : Int32)), (3, .int (v3 ^^^ (1 : Int32))), (2, .int v3), (0, .ref h0), (1, .int p0)]) hx hb dX1_resolveWithDone_45 hl (by decide) rfl (fun ls hl => ?_)
    exact lp47 fuel (u.1, u.2.1, u.2.2) p0 v3 (v3 ^^^ (1 : Int32)) (0 : Int32) (((1 : Int32) <<< (v3 &&& 31)) ||| ((1 : Int32) <<< ((v3 ^^^ (1 : Int32)) &&& 31))) (u.2.2 0) (0 : Int32)  _ _ _ _ hV hfr hP hS (lv_sub hl [6, 7, 5, 4, 3, 2, 1, 0] rfl) hN
  · rw [if_neg c5] at hN
    refine lv_iconst (v := 1) hx hb dX1_resolveWithDone_22 (by decide) ?_
    refine lv_goto (tgt := 27) hx hb dX1_resolveWithDone_23 (by decide) ?_
    refine lv_istore (lv' := [(4, .int (1 : Int32)), (3, .int (v3 ^^^ (1 : Int32))), (2, .int v3), (0, .ref h0), (1, .int p0)]) hx hb dX1_resolveWithDone_27 hl (by decide) rfl (fun ls hl => ?_)
    refine lv_iconst (v := 1) hx hb dX1_resolveWithDone_29 (by decide) ?_
    refine lv_iload_n hx hb dX1_resolveWithDone_30 rfl (lv_at hl 2 rfl) ?_
    refine lv_ishl hx hb dX1_resolveWithDone_31 ?_
    refine lv_iconst (v := 1) hx hb dX1_resolveWithDone_32 (by decide) ?_
    refine lv_iload_n hx hb dX1_resolveWithDone_33 rfl (lv_at hl 1 rfl) ?_
    refine lv_ishl hx hb dX1_resolveWithDone_34 ?_
    refine lv_ior hx hb dX1_resolveWithDone_35 ?_
    refine lv_istore (lv' := [(5, .int (((1 : Int32) <<< (v3 &&& 31)) ||| ((1 : Int32) <<< ((v3 ^^^ (1 : Int32)) &&& 31)))), (4, .int (1 : Int32)), (3, .int (v3 ^^^ (1 : Int32))), (2, .int v3), (0, .ref h0), (1, .int p0)]) hx hb dX1_resolveWithDone_36 hl (by decide) rfl (fun ls hl => ?_)
    refine lv_aload_n hx hb dX1_resolveWithDone_38 rfl (lv_at hl 4 rfl) ?_
    refine k_get (C := RX1) (T := TX1) (N := 13) (ci := 1) (v := .int (u.2.2 0)) hx hb hts (fun _ h => List.mem_cons_of_mem _ (List.mem_append_right _ h)) hown hC hP (vO.m hV) (vO.o hV) rfl 8 (by decide) (hts (.fieldLink RX1 37 "OrderedClauses$Store" "clauses" "I") (List.mem_of_getElem? (i := 2) rfl)) rfl dX1_resolveWithDone_39 ?_
    refine lv_istore (lv' := [(6, .int (u.2.2 0)), (5, .int (((1 : Int32) <<< (v3 &&& 31)) ||| ((1 : Int32) <<< ((v3 ^^^ (1 : Int32)) &&& 31)))), (4, .int (1 : Int32)), (3, .int (v3 ^^^ (1 : Int32))), (2, .int v3), (0, .ref h0), (1, .int p0)]) hx hb dX1_resolveWithDone_42 hl (by decide) rfl (fun ls hl => ?_)
    refine lv_iconst (v := 0) hx hb dX1_resolveWithDone_44 (by decide) ?_
    refine lv_istore (lv' := [(7, .int (0 : Int32)), (6, .int (u.2.2 0)), (5, .int (((1 : Int32) <<< (v3 &&& 31)) ||| ((1 : Int32) <<< ((v3 ^^^ (1 : Int32)) &&& 31)))), (4, .int (1 : Int32)), (3, .int (v3 ^^^ (1 : Int32))), (2, .int v3), (0, .ref h0), (1, .int p0)]) hx hb dX1_resolveWithDone_45 hl (by decide) rfl (fun ls hl => ?_)
    exact lp47 fuel (u.1, u.2.1, u.2.2) p0 v3 (v3 ^^^ (1 : Int32)) (1 : Int32) (((1 : Int32) <<< (v3 &&& 31)) ||| ((1 : Int32) <<< ((v3 ^^^ (1 : Int32)) &&& 31))) (u.2.2 0) (0 : Int32)  _ _ _ _ hV hfr hP hS (lv_sub hl [6, 7, 5, 4, 3, 2, 1, 0] rfl) hN
set_option maxHeartbeats 4000000 in
set_option maxRecDepth 100000 in
theorem c_X1_takeStep (l : Launch) (g : Gm) (L : List Nat) {A : Nat → Prop} (hL : kL L A) (G : Nat → va_E) (h0 : Nat) (r : Nat → Nat) (u : St) (hV : vS g L G h0 r u) (v : Int32) (w : St) (hF : F_X1_takeStep u = some (v, w)) : Met l yX1_takeStep wsX1_takeStep ({ frames := 5, cells := 0, slots := 0, locals := 126 } : Room) (va_Pc [.ref h0] (kB g L A G)) (va_Qi (fun x (G9 : Nat → va_E) => x = v ∧ (vS g L G9 h0 r w ∧ frS h0 r 8 G G9)) (kE g L) A) 0 0 A := by
  refine Met.ofW (cc := cX1_takeStep) (maxL := 2) (ret := (some .int)) (by decide) rfl ?_
  intro p e s m args below meth c s₁ B hml hv
  obtain ⟨rfl, hP, hC⟩ := hv
  have hx := B.exec
  have hb := B.bytes
  have hr := B.returns
  have hts := atoms_spec (ws := wsX1_takeStep) B.pre
  have hown : s.vm.findClass RX1 = some m.cls := findClass_of_methodNamed B.named
  have hlk := B.notSynchronized
  have hS : va_S A s.heap s.heap [] := va_S.rf
  have hV0 := hV
  have hfr : frS h0 r 8 G G := frS.rf
  have hl := lv_entry ([.ref h0]) (n := 2) (Nat.le_of_ble_eq_true rfl)
  rw [lg_entry_eq]
  generalize (lg_sl ([.ref h0]) ++ List.replicate (2 - (lg_sl ([.ref h0])).length) Slot.unset).toArray = ls at hl ⊢
  have hl : lv_has ls 2 [(0, .ref h0)] := hl
  have hN := hF
  unfold F_X1_takeStep at hN
  refine lv_aload_n hx hb dX1_takeStep_0 rfl (lv_at hl 0 rfl) ?_
  obtain ⟨v1, hv1, hN⟩ := oB_spec hN
  refine k_iR hS (va_runV (As := []) (rest := []) ⟨hx, hb, hml, hown, hts⟩ (c_X1_emptyClause l g L hL G h0 r u hV v1 hv1) (cwV 0 hts gX1_takeStep_X1_emptyClause rfl rfl rfl (by decide +kernel) ⟨Nat.le_of_ble_eq_true rfl, Nat.le_of_ble_eq_true rfl⟩) (k_preV hC hS hP (vO.m hV) (vO.o hV) rfl) rfl rfl hl.1 rfl (lv_room (Nat.le_of_ble_eq_true rfl)) dX1_takeStep_1 ⟨Nat.zero_le _, Nat.zero_le _⟩) (fun H locs hP hS => ?_)
  refine lv_iconst (v := (-1)) hx hb dX1_takeStep_4 (by decide) ?_
  refine lv_icmp_ne (tgt := 15) hx hb dX1_takeStep_5 (by decide) (fun c3 => ?_) (fun c3 => ?_)
  · rw [if_neg c3] at hN
    refine lv_iconst (v := (-1)) hx hb dX1_takeStep_15 (by decide) ?_
    refine lv_istore_n (lv' := [(1, .int ((-1) : Int32)), (0, .ref h0)]) hx hb dX1_takeStep_16 rfl hl (by decide) rfl (fun ls hl => ?_)
    refine lv_iload_n hx hb dX1_takeStep_17 rfl (lv_at hl 0 rfl) ?_
    refine lv_iconst (v := (-1)) hx hb dX1_takeStep_18 (by decide) ?_
    refine lv_icmp_ne (tgt := 25) hx hb dX1_takeStep_19 (by decide) (fun c9 => absurd c9 (by decide)) (fun _ => ?_)
    refine lv_ldc (v := (-1000002)) hx hb hown (hts (.constant RX1 127 (-1000002)) (List.mem_of_getElem? (i := 1) rfl)) dX1_takeStep_22 ?_
    obtain ⟨hE, hE2⟩ := spair hN
    exact k_iretW hx hb hr hE ⟨hE2 ▸ hV, hfr⟩ hP hS hlk dX1_takeStep_24
  · rw [if_pos c3] at hN
    refine lv_aload_n hx hb dX1_takeStep_8 rfl (lv_at hl 0 rfl) ?_
    obtain ⟨v4, hv4, hN⟩ := oB_spec hN
    refine k_iR hS (va_runV (As := []) (rest := []) ⟨hx, hb, hml, hown, hts⟩ (c_X1_nextChoice l g L hL G h0 r u hV v4 hv4) (cwV 0 hts gX1_takeStep_X1_nextChoice rfl rfl rfl (by decide +kernel) ⟨Nat.le_of_ble_eq_true rfl, Nat.le_of_ble_eq_true rfl⟩) (k_preV hC hS hP (vO.m hV) (vO.o hV) rfl) rfl rfl hl.1 rfl (lv_room (Nat.le_of_ble_eq_true rfl)) dX1_takeStep_9 ⟨Nat.zero_le _, Nat.zero_le _⟩) (fun H locs hP hS => ?_)
    refine lv_goto (tgt := 16) hx hb dX1_takeStep_12 (by decide) ?_
    refine lv_istore_n (lv' := [(1, .int v4), (0, .ref h0)]) hx hb dX1_takeStep_16 rfl hl (by decide) rfl (fun ls hl => ?_)
    refine lv_iload_n hx hb dX1_takeStep_17 rfl (lv_at hl 0 rfl) ?_
    refine lv_iconst (v := (-1)) hx hb dX1_takeStep_18 (by decide) ?_
    refine lv_icmp_ne (tgt := 25) hx hb dX1_takeStep_19 (by decide) (fun c6 => ?_) (fun c6 => ?_)
    · rw [if_neg c6] at hN
      refine lv_aload_n hx hb dX1_takeStep_25 rfl (lv_at hl 1 rfl) ?_
      refine lv_dup hx hb dX1_takeStep_26 rfl ?_
      refine k_get (C := RX1) (T := TX1) (N := 13) (ci := 1) (v := .int (u.2.2 1)) hx hb hts (fun _ h => List.mem_cons_of_mem _ (List.mem_append_right _ h)) hown hC hP (vO.m hV) (vO.o hV) rfl 9 (by decide) (hts (.fieldLink RX1 41 "OrderedClauses$Store" "steps" "I") (List.mem_of_getElem? (i := 2) rfl)) rfl dX1_takeStep_27 ?_
      refine lv_iconst (v := 1) hx hb dX1_takeStep_30 (by decide) ?_
      refine lv_iadd hx hb dX1_takeStep_31 ?_
      refine k_putE (C := RX1) (T := TX1) (N := 13) (ci := 1) hx hb hts (fun _ h => List.mem_cons_of_mem _ (List.mem_append_right _ h)) tyX1 tyX1_ok nmX1 hown hL hC hP hS (vO.m hV) (vO.o hV) rfl 9 (by decide) (hts (.fieldLink RX1 41 "OrderedClauses$Store" "steps" "I") (List.mem_of_getElem? (i := 2) rfl)) (by decide +kernel) (by decide +kernel) (Nat.le_of_ble_eq_true rfl) dX1_takeStep_32 (fun G7 H locs hq hP hS => ?_)
      have hV : vS g L G7 h0 r (u.1, u.2.1, (va_up u.2.2 1 ((u.2.2 1) + (1 : Int32)))) := by rw [hq]; exact vO.setK (f := u.1) (gg := u.2.1) (k := u.2.2) hV rfl
      have hfr : frS h0 r 8 G G7 := by rw [hq]; exact vO.frK hfr _
      refine lv_aload_n hx hb dX1_takeStep_35 rfl (lv_at hl 1 rfl) ?_
      refine k_get (C := RX1) (T := TX1) (N := 13) (ci := 1) (v := .ref (r 2)) hx hb hts (fun _ h => List.mem_cons_of_mem _ (List.mem_append_right _ h)) hown hC hP (vO.m hV) (vO.o hV) rfl 2 (by decide) (hts (.fieldLink RX1 18 "OrderedClauses$Store" "status" "[I") (List.mem_of_getElem? (i := 3) rfl)) rfl dX1_takeStep_36 ?_
      refine lv_iload_n hx hb dX1_takeStep_39 rfl (lv_at hl 0 rfl) ?_
      refine lv_iconst (v := 1) hx hb dX1_takeStep_40 (by decide) ?_
      obtain ⟨w9, hw9, hN⟩ := oB_spec hN
      refine k_v hS (va_runSN (As := [.ref (r 2), .int v4, .int (1 : Int32)]) (rest := []) ⟨hx, hb, hml, hown, hts⟩ (c_X3_put l g L hL G7 (r 2) (u.1 2) (lnS 2) (vO.rm hV 2 (by decide)) (vO.ri hV 2 (by decide)) v4 (1 : Int32) w9 hw9) ⟨va_cnB 3 hts gX1_takeStep_X3_put_n53 rfl rfl rfl (hC.2.1.2 (RX1, 53, yX3_put, RX3) (List.mem_of_getElem? (i := 1) rfl)) (hts (.initialized RX3) (List.mem_of_getElem? (i := 13) rfl)) (by decide +kernel) ⟨Nat.le_of_ble_eq_true rfl, Nat.le_of_ble_eq_true rfl⟩, (hts (.static yX3_put) (List.mem_of_getElem? (i := 27) rfl)), trivial⟩ (k_pre hC hS hP) rfl rfl hl.1 rfl (lv_room (Nat.le_of_ble_eq_true rfl)) dX1_takeStep_41 ⟨Nat.zero_le _, Nat.zero_le _⟩) (fun G10 H locs hq hP hS => ?_)
      have hV : vS g L G10 h0 r ((va_up u.1 2 w9), u.2.1, (va_up u.2.2 1 ((u.2.2 1) + (1 : Int32)))) := by rw [hq]; exact vO.setI (f := u.1) (gg := u.2.1) (k := (va_up u.2.2 1 ((u.2.2 1) + (1 : Int32)))) hV (by decide) 2 (by decide) _
      have hfr : frS h0 r 8 G G10 := by rw [hq]; exact vO.frI hfr 2 (by decide) _
      refine lv_aload_n hx hb dX1_takeStep_44 rfl (lv_at hl 1 rfl) ?_
      refine lv_iload_n hx hb dX1_takeStep_45 rfl (lv_at hl 0 rfl) ?_
      obtain ⟨v11, w12, hv11, hN⟩ := oB2_spec hN
      refine k_iW hS (va_runV (As := [.int v4]) (rest := []) ⟨hx, hb, hml, hown, hts⟩ (c_X1_resolveWithDone l g L hL G10 h0 r ((va_up u.1 2 w9), u.2.1, (va_up u.2.2 1 ((u.2.2 1) + (1 : Int32)))) hV v4 v11 w12 hv11) (cwV 1 hts gX1_takeStep_X1_resolveWithDone rfl rfl rfl (by decide +kernel) ⟨Nat.le_of_ble_eq_true rfl, Nat.le_of_ble_eq_true rfl⟩) (k_preV hC hS hP (vO.m hV) (vO.o hV) rfl) rfl rfl hl.1 rfl (lv_room (Nat.le_of_ble_eq_true rfl)) dX1_takeStep_46 ⟨Nat.zero_le _, Nat.zero_le _⟩) (fun G13 H locs hq hP hS => ?_)
      obtain ⟨hV, hfq⟩ := hq
      have hfr := frS.tr hfr hfq
      refine lv_if_eq (tgt := 56) hx hb dX1_takeStep_49 (by decide) (fun c14 => ?_) (fun c14 => ?_)
      · rw [if_pos c14] at hN
        refine lv_ldc (v := (-1000003)) hx hb hown (hts (.constant RX1 94 (-1000003)) (List.mem_of_getElem? (i := 4) rfl)) dX1_takeStep_56 ?_
        obtain ⟨hE, hE2⟩ := spair hN
        exact k_iretW hx hb hr hE ⟨hE2 ▸ hV, hfr⟩ hP hS hlk dX1_takeStep_58
      · rw [if_neg c14] at hN
        refine lv_iload_n hx hb dX1_takeStep_52 rfl (lv_at hl 0 rfl) ?_
        refine lv_goto (tgt := 58) hx hb dX1_takeStep_53 (by decide) ?_
        obtain ⟨hE, hE2⟩ := spair hN
        exact k_iretW hx hb hr hE ⟨hE2 ▸ hV, hfr⟩ hP hS hlk dX1_takeStep_58
    · rw [if_pos c6] at hN
      refine lv_ldc (v := (-1000002)) hx hb hown (hts (.constant RX1 127 (-1000002)) (List.mem_of_getElem? (i := 1) rfl)) dX1_takeStep_22 ?_
      obtain ⟨hE, hE2⟩ := spair hN
      exact k_iretW hx hb hr hE ⟨hE2 ▸ hV, hfr⟩ hP hS hlk dX1_takeStep_24
set_option maxHeartbeats 4000000 in
set_option maxRecDepth 100000 in
theorem c_X1_treeOf (l : Launch) (g : Gm) (L : List Nat) {A : Nat → Prop} (hL : kL L A) (G : Nat → va_E) (h0 : Nat) (r : Nat → Nat) (u : St) (hV : vS g L G h0 r u) (p0 : Int32) (v : Int64) (hF : F_X1_treeOf u p0 = some v) : Met l yX1_treeOf wsX1_treeOf ({ frames := 1, cells := 0, slots := 0, locals := 22 } : Room) (va_Pc [.ref h0, .int p0] (kB g L A G)) (va_Ql (fun x9 (G9 : Nat → va_E) => x9 = v ∧ G9 = G) (kE g L) A) 0 0 A := by
  refine Met.ofW (cc := cX1_treeOf) (maxL := 5) (ret := (some .long)) (by decide) rfl ?_
  intro p e s m args below meth c s₁ B hml hv
  obtain ⟨rfl, hP, hC⟩ := hv
  have hx := B.exec
  have hb := B.bytes
  have hr := B.returns
  have hts := atoms_spec (ws := wsX1_treeOf) B.pre
  have hown : s.vm.findClass RX1 = some m.cls := findClass_of_methodNamed B.named
  have hlk := B.notSynchronized
  have hS : va_S A s.heap s.heap [] := va_S.rf
  have lp8 : ∀ (n : Nat) (x2 : Int64) (x4 : Int32) (H : Heap) (locs : List Loc) (ls : Array Slot), va_P g.1 vwCl (va_pl L G) H → va_S A s.heap H locs → lv_has ls 5 [(0, .ref h0), (2, .long x2), (4, .int x4)] → FL_X1_treeOf_8 u n x2 x4 = some v → W p l e (headSpec wsX1_treeOf ({ frames := 1, cells := 0, slots := 0, locals := 22 } : Room)).room s m ([.ref h0, .int p0] : List Value).toArray below meth c H locs 0 0 (MQ below (va_Ql (fun x9 (G9 : Nat → va_E) => x9 = v ∧ G9 = G) (kE g L) A) ([.ref h0, .int p0] : List Value).toArray s 0 0 A) (F0 m 8 ls []) := by
    intro n
    induction n with
    | zero =>
      intro x2 x4 H locs ls hP hS hl hN
      exact absurd hN (by simp [FL_X1_treeOf_8])
    | succ n ih =>
      intro x2 x4 H locs ls hP hS hl hN
      rw [FL_X1_treeOf_8] at hN
      refine lv_iload hx hb dX1_treeOf_8 (lv_at hl 2 rfl) ?_
      refine lv_if_lt (tgt := 56) hx hb dX1_treeOf_10 (by decide) (fun c3 => ?_) (fun c3 => ?_)
      · rw [if_pos c3] at hN
        refine lv_lload_n hx hb dX1_treeOf_56 rfl (lv_at hl 1 rfl) ?_
        exact k_lretR hx hb hr (Option.some.inj hN) hP hS hlk dX1_treeOf_57
      · rw [if_neg c3] at hN
        refine lv_lload_n hx hb dX1_treeOf_13 rfl (lv_at hl 1 rfl) ?_
        refine lv_iload hx hb dX1_treeOf_14 (lv_at hl 2 rfl) ?_
        obtain ⟨v4, hv4, hN⟩ := oB_spec hN
        refine k_iR hS (va_runSN (As := [.long x2, .int x4]) (rest := []) ⟨hx, hb, hml, hown, hts⟩ (c_X3_isIn l g L hL G x2 x4 v4 hv4) ⟨va_cnB 2 hts gX1_treeOf_X3_isIn_n76 rfl rfl rfl (hC.2.1.2 (RX1, 76, yX3_isIn, RX3) (List.mem_of_getElem? (i := 15) rfl)) (hts (.initialized RX3) (List.mem_of_getElem? (i := 4) rfl)) (by decide +kernel) ⟨Nat.le_of_ble_eq_true rfl, Nat.le_of_ble_eq_true rfl⟩, (hts (.static yX3_isIn) (List.mem_of_getElem? (i := 6) rfl)), trivial⟩ (k_pre hC hS hP) rfl rfl hl.1 rfl (lv_room (Nat.le_of_ble_eq_true rfl)) dX1_treeOf_16 ⟨Nat.zero_le _, Nat.zero_le _⟩) (fun H locs hP hS => ?_)
        refine lv_if_eq (tgt := 50) hx hb dX1_treeOf_19 (by decide) (fun c6 => ?_) (fun c6 => ?_)
        · rw [if_pos c6] at hN
          refine lv_iinc (v := (x4 - 1)) (lv' := [(4, .int (x4 - 1)), (0, .ref h0), (2, .long x2)]) hx hb dX1_treeOf_50 hl (k := 2) rfl (by rw [Int32.sub_eq_add_neg]; rfl) (by decide) rfl (fun ls hl => ?_)
          refine lv_goto (tgt := 8) hx hb dX1_treeOf_53 (by decide) ?_
          exact ih x2 (x4 - 1)  _ _ _ hP hS (lv_sub hl [1, 2, 0] rfl) hN
        · rw [if_neg c6] at hN
          refine lv_lload_n hx hb dX1_treeOf_22 rfl (lv_at hl 1 rfl) ?_
          refine lv_aload_n hx hb dX1_treeOf_23 rfl (lv_at hl 0 rfl) ?_
          refine k_get (C := RX1) (T := TX1) (N := 13) (ci := 1) (v := .ref (r 3)) hx hb hts (fun _ h => List.mem_cons_of_mem _ (List.mem_append_right _ h)) hown hC hP (vO.m hV) (vO.o hV) rfl 3 (by decide) (hts (.fieldLink RX1 21 "OrderedClauses$Store" "holdingParent" "[I") (List.mem_of_getElem? (i := 1) rfl)) rfl dX1_treeOf_24 ?_
          refine lv_iload hx hb dX1_treeOf_27 (lv_at hl 2 rfl) ?_
          obtain ⟨v7, hv7, hN⟩ := oB_spec hN
          refine k_iR hS (va_runSN (As := [.ref (r 3), .int x4]) (rest := [.long x2]) ⟨hx, hb, hml, hown, hts⟩ (c_X3_at l g L hL G (r 3) (u.1 3) (lnS 3) (vO.rm hV 3 (by decide)) (vO.ri hV 3 (by decide)) x4 v7 hv7) ⟨va_cnB 2 hts gX1_treeOf_X3_at_n65 rfl rfl rfl (hC.2.1.2 (RX1, 65, yX3_at, RX3) (List.mem_of_getElem? (i := 6) rfl)) (hts (.initialized RX3) (List.mem_of_getElem? (i := 4) rfl)) (by decide +kernel) ⟨Nat.le_of_ble_eq_true rfl, Nat.le_of_ble_eq_true rfl⟩, (hts (.static yX3_at) (List.mem_of_getElem? (i := 8) rfl)), trivial⟩ (k_pre hC hS hP) rfl rfl hl.1 rfl (lv_room (Nat.le_of_ble_eq_true rfl)) dX1_treeOf_29 ⟨Nat.zero_le _, Nat.zero_le _⟩) (fun H locs hP hS => ?_)
          obtain ⟨v9, hv9, hN⟩ := oB_spec hN
          refine k_lR hS (va_runSN (As := [.int v7]) (rest := [.long x2]) ⟨hx, hb, hml, hown, hts⟩ (c_X3_setOf l g L hL G v7 v9 hv9) ⟨va_cnB 1 hts gX1_treeOf_X3_setOf_n139 rfl rfl rfl (hC.2.1.2 (RX1, 139, yX3_setOf, RX3) (List.mem_of_getElem? (i := 17) rfl)) (hts (.initialized RX3) (List.mem_of_getElem? (i := 4) rfl)) (by decide +kernel) ⟨Nat.le_of_ble_eq_true rfl, Nat.le_of_ble_eq_true rfl⟩, (hts (.static yX3_setOf) (List.mem_of_getElem? (i := 3) rfl)), trivial⟩ (k_pre hC hS hP) rfl rfl hl.1 rfl (lv_room (Nat.le_of_ble_eq_true rfl)) dX1_treeOf_32 ⟨Nat.zero_le _, Nat.zero_le _⟩) (fun H locs hP hS => ?_)
          refine lv_aload_n hx hb dX1_treeOf_35 rfl (lv_at hl 0 rfl) ?_
          refine k_get (C := RX1) (T := TX1) (N := 13) (ci := 1) (v := .ref (r 4)) hx hb hts (fun _ h => List.mem_cons_of_mem _ (List.mem_append_right _ h)) hown hC hP (vO.m hV) (vO.o hV) rfl 4 (by decide) (hts (.fieldLink RX1 24 "OrderedClauses$Store" "otherParent" "[I") (List.mem_of_getElem? (i := 2) rfl)) rfl dX1_treeOf_36 ?_
          refine lv_iload hx hb dX1_treeOf_39 (lv_at hl 2 rfl) ?_
          obtain ⟨v11, hv11, hN⟩ := oB_spec hN
          refine k_iR hS (va_runSN (As := [.ref (r 4), .int x4]) (rest := [.long v9, .long x2]) ⟨hx, hb, hml, hown, hts⟩ (c_X3_at l g L hL G (r 4) (u.1 4) (lnS 4) (vO.rm hV 4 (by decide)) (vO.ri hV 4 (by decide)) x4 v11 hv11) ⟨va_cnB 2 hts gX1_treeOf_X3_at_n65 rfl rfl rfl (hC.2.1.2 (RX1, 65, yX3_at, RX3) (List.mem_of_getElem? (i := 6) rfl)) (hts (.initialized RX3) (List.mem_of_getElem? (i := 4) rfl)) (by decide +kernel) ⟨Nat.le_of_ble_eq_true rfl, Nat.le_of_ble_eq_true rfl⟩, (hts (.static yX3_at) (List.mem_of_getElem? (i := 8) rfl)), trivial⟩ (k_pre hC hS hP) rfl rfl hl.1 rfl (lv_room (Nat.le_of_ble_eq_true rfl)) dX1_treeOf_41 ⟨Nat.zero_le _, Nat.zero_le _⟩) (fun H locs hP hS => ?_)
          obtain ⟨v13, hv13, hN⟩ := oB_spec hN
          refine k_lR hS (va_runSN (As := [.int v11]) (rest := [.long v9, .long x2]) ⟨hx, hb, hml, hown, hts⟩ (c_X3_setOf l g L hL G v11 v13 hv13) ⟨va_cnB 1 hts gX1_treeOf_X3_setOf_n139 rfl rfl rfl (hC.2.1.2 (RX1, 139, yX3_setOf, RX3) (List.mem_of_getElem? (i := 17) rfl)) (hts (.initialized RX3) (List.mem_of_getElem? (i := 4) rfl)) (by decide +kernel) ⟨Nat.le_of_ble_eq_true rfl, Nat.le_of_ble_eq_true rfl⟩, (hts (.static yX3_setOf) (List.mem_of_getElem? (i := 3) rfl)), trivial⟩ (k_pre hC hS hP) rfl rfl hl.1 rfl (lv_room (Nat.le_of_ble_eq_true rfl)) dX1_treeOf_44 ⟨Nat.zero_le _, Nat.zero_le _⟩) (fun H locs hP hS => ?_)
          refine lv_lor hx hb dX1_treeOf_47 ?_
          refine lv_lor hx hb dX1_treeOf_48 ?_
          refine lv_lstore_n (lv' := [(2, .long (x2 ||| (v9 ||| v13))), (0, .ref h0), (4, .int x4)]) hx hb dX1_treeOf_49 rfl hl (by decide) rfl (fun ls hl => ?_)
          refine lv_iinc (v := (x4 - 1)) (lv' := [(4, .int (x4 - 1)), (2, .long (x2 ||| (v9 ||| v13))), (0, .ref h0)]) hx hb dX1_treeOf_50 hl (k := 2) rfl (by rw [Int32.sub_eq_add_neg]; rfl) (by decide) rfl (fun ls hl => ?_)
          refine lv_goto (tgt := 8) hx hb dX1_treeOf_53 (by decide) ?_
          exact ih (x2 ||| (v9 ||| v13)) (x4 - 1)  _ _ _ hP hS (lv_sub hl [2, 1, 0] rfl) hN
  have hl := lv_entry ([.ref h0, .int p0]) (n := 5) (Nat.le_of_ble_eq_true rfl)
  rw [lg_entry_eq]
  generalize (lg_sl ([.ref h0, .int p0]) ++ List.replicate (5 - (lg_sl ([.ref h0, .int p0])).length) Slot.unset).toArray = ls at hl ⊢
  have hl : lv_has ls 5 [(0, .ref h0), (1, .int p0)] := hl
  have hN := hF
  unfold F_X1_treeOf at hN
  refine lv_iload_n hx hb dX1_treeOf_0 rfl (lv_at hl 1 rfl) ?_
  obtain ⟨v1, hv1, hN⟩ := oB_spec hN
  refine k_lR hS (va_runSN (As := [.int p0]) (rest := []) ⟨hx, hb, hml, hown, hts⟩ (c_X3_setOf l g L hL G p0 v1 hv1) ⟨va_cnB 1 hts gX1_treeOf_X3_setOf_n139 rfl rfl rfl (hC.2.1.2 (RX1, 139, yX3_setOf, RX3) (List.mem_of_getElem? (i := 17) rfl)) (hts (.initialized RX3) (List.mem_of_getElem? (i := 4) rfl)) (by decide +kernel) ⟨Nat.le_of_ble_eq_true rfl, Nat.le_of_ble_eq_true rfl⟩, (hts (.static yX3_setOf) (List.mem_of_getElem? (i := 3) rfl)), trivial⟩ (k_pre hC hS hP) rfl rfl hl.1 rfl (lv_room (Nat.le_of_ble_eq_true rfl)) dX1_treeOf_1 ⟨Nat.zero_le _, Nat.zero_le _⟩) (fun H locs hP hS => ?_)
  refine lv_lstore_n (lv' := [(2, .long v1), (0, .ref h0), (1, .int p0)]) hx hb dX1_treeOf_4 rfl hl (by decide) rfl (fun ls hl => ?_)
  refine lv_iload_n hx hb dX1_treeOf_5 rfl (lv_at hl 2 rfl) ?_
  refine lv_istore (lv' := [(4, .int p0), (2, .long v1), (0, .ref h0), (1, .int p0)]) hx hb dX1_treeOf_6 hl (by decide) rfl (fun ls hl => ?_)
  exact lp8 fuel v1 p0  _ _ _ hP hS (lv_sub hl [2, 1, 0] rfl) hN
set_option maxHeartbeats 4000000 in
set_option maxRecDepth 100000 in
theorem c_X1_toldClauses (l : Launch) (g : Gm) (L : List Nat) {A : Nat → Prop} (hL : kL L A) (G : Nat → va_E) (h0 : Nat) (r : Nat → Nat) (u : St) (hV : vS g L G h0 r u) (v : Int64) (hF : F_X1_toldClauses u = some v) : Met l yX1_toldClauses wsX1_toldClauses ({ frames := 2, cells := 0, slots := 0, locals := 42 } : Room) (va_Pc [.ref h0] (kB g L A G)) (va_Ql (fun x9 (G9 : Nat → va_E) => x9 = v ∧ G9 = G) (kE g L) A) 0 0 A := by
  refine Met.ofW (cc := cX1_toldClauses) (maxL := 4) (ret := (some .long)) (by decide) rfl ?_
  intro p e s m args below meth c s₁ B hml hv
  obtain ⟨rfl, hP, hC⟩ := hv
  have hx := B.exec
  have hb := B.bytes
  have hr := B.returns
  have hts := atoms_spec (ws := wsX1_toldClauses) B.pre
  have hown : s.vm.findClass RX1 = some m.cls := findClass_of_methodNamed B.named
  have hlk := B.notSynchronized
  have hS : va_S A s.heap s.heap [] := va_S.rf
  have lp4 : ∀ (n : Nat) (x1 : Int64) (x3 : Int32) (H : Heap) (locs : List Loc) (ls : Array Slot), va_P g.1 vwCl (va_pl L G) H → va_S A s.heap H locs → lv_has ls 4 [(0, .ref h0), (1, .long x1), (3, .int x3)] → FL_X1_toldClauses_4 u n x1 x3 = some v → W p l e (headSpec wsX1_toldClauses ({ frames := 2, cells := 0, slots := 0, locals := 42 } : Room)).room s m ([.ref h0] : List Value).toArray below meth c H locs 0 0 (MQ below (va_Ql (fun x9 (G9 : Nat → va_E) => x9 = v ∧ G9 = G) (kE g L) A) ([.ref h0] : List Value).toArray s 0 0 A) (F0 m 4 ls []) := by
    intro n
    induction n with
    | zero =>
      intro x1 x3 H locs ls hP hS hl hN
      exact absurd hN (by simp [FL_X1_toldClauses_4])
    | succ n ih =>
      intro x1 x3 H locs ls hP hS hl hN
      rw [FL_X1_toldClauses_4] at hN
      refine lv_iload_n hx hb dX1_toldClauses_4 rfl (lv_at hl 2 rfl) ?_
      refine lv_aload_n hx hb dX1_toldClauses_5 rfl (lv_at hl 0 rfl) ?_
      refine k_get (C := RX1) (T := TX1) (N := 13) (ci := 1) (v := .int (u.2.2 0)) hx hb hts (fun _ h => List.mem_cons_of_mem _ (List.mem_append_right _ h)) hown hC hP (vO.m hV) (vO.o hV) rfl 8 (by decide) (hts (.fieldLink RX1 37 "OrderedClauses$Store" "clauses" "I") (List.mem_of_getElem? (i := 1) rfl)) rfl dX1_toldClauses_6 ?_
      refine lv_icmp_ge (tgt := 37) hx hb dX1_toldClauses_9 (by decide) (fun c1 => ?_) (fun c1 => ?_)
      · rw [if_pos c1] at hN
        refine lv_lload_n hx hb dX1_toldClauses_37 rfl (lv_at hl 1 rfl) ?_
        exact k_lretR hx hb hr (Option.some.inj hN) hP hS hlk dX1_toldClauses_38
      · rw [if_neg c1] at hN
        refine lv_lload_n hx hb dX1_toldClauses_12 rfl (lv_at hl 1 rfl) ?_
        refine lv_aload_n hx hb dX1_toldClauses_13 rfl (lv_at hl 0 rfl) ?_
        refine lv_iload_n hx hb dX1_toldClauses_14 rfl (lv_at hl 2 rfl) ?_
        obtain ⟨v2, hv2, hN⟩ := oB_spec hN
        refine k_iR hS (va_runV (As := [.int x3]) (rest := [.long x1]) ⟨hx, hb, hml, hown, hts⟩ (c_X1_wasTold l g L hL G h0 r u hV x3 v2 hv2) (cwV 1 hts gX1_toldClauses_X1_wasTold rfl rfl rfl (by decide +kernel) ⟨Nat.le_of_ble_eq_true rfl, Nat.le_of_ble_eq_true rfl⟩) (k_preV hC hS hP (vO.m hV) (vO.o hV) rfl) rfl rfl hl.1 rfl (lv_room (Nat.le_of_ble_eq_true rfl)) dX1_toldClauses_15 ⟨Nat.zero_le _, Nat.zero_le _⟩) (fun H locs hP hS => ?_)
        refine lv_if_eq (tgt := 28) hx hb dX1_toldClauses_18 (by decide) (fun c4 => ?_) (fun c4 => ?_)
        · rw [if_pos c4] at hN
          refine lv_lconst (v := 0) hx hb dX1_toldClauses_28 (by decide) ?_
          refine lv_lor hx hb dX1_toldClauses_29 ?_
          refine lv_lstore_n (lv' := [(1, .long (x1 ||| (0 : Int64))), (0, .ref h0), (3, .int x3)]) hx hb dX1_toldClauses_30 rfl hl (by decide) rfl (fun ls hl => ?_)
          refine lv_iinc (v := (x3 + 1)) (lv' := [(3, .int (x3 + 1)), (1, .long (x1 ||| (0 : Int64))), (0, .ref h0)]) hx hb dX1_toldClauses_31 hl (k := 2) rfl rfl (by decide) rfl (fun ls hl => ?_)
          refine lv_goto (tgt := 4) hx hb dX1_toldClauses_34 (by decide) ?_
          exact ih (x1 ||| (0 : Int64)) (x3 + 1)  _ _ _ hP hS (lv_sub hl [2, 1, 0] rfl) hN
        · rw [if_neg c4] at hN
          refine lv_iload_n hx hb dX1_toldClauses_21 rfl (lv_at hl 2 rfl) ?_
          obtain ⟨v5, hv5, hN⟩ := oB_spec hN
          refine k_lR hS (va_runSN (As := [.int x3]) (rest := [.long x1]) ⟨hx, hb, hml, hown, hts⟩ (c_X3_setOf l g L hL G x3 v5 hv5) ⟨va_cnB 1 hts gX1_toldClauses_X3_setOf_n139 rfl rfl rfl (hC.2.1.2 (RX1, 139, yX3_setOf, RX3) (List.mem_of_getElem? (i := 17) rfl)) (hts (.initialized RX3) (List.mem_of_getElem? (i := 9) rfl)) (by decide +kernel) ⟨Nat.le_of_ble_eq_true rfl, Nat.le_of_ble_eq_true rfl⟩, (hts (.static yX3_setOf) (List.mem_of_getElem? (i := 11) rfl)), trivial⟩ (k_pre hC hS hP) rfl rfl hl.1 rfl (lv_room (Nat.le_of_ble_eq_true rfl)) dX1_toldClauses_22 ⟨Nat.zero_le _, Nat.zero_le _⟩) (fun H locs hP hS => ?_)
          refine lv_goto (tgt := 29) hx hb dX1_toldClauses_25 (by decide) ?_
          refine lv_lor hx hb dX1_toldClauses_29 ?_
          refine lv_lstore_n (lv' := [(1, .long (x1 ||| v5)), (0, .ref h0), (3, .int x3)]) hx hb dX1_toldClauses_30 rfl hl (by decide) rfl (fun ls hl => ?_)
          refine lv_iinc (v := (x3 + 1)) (lv' := [(3, .int (x3 + 1)), (1, .long (x1 ||| v5)), (0, .ref h0)]) hx hb dX1_toldClauses_31 hl (k := 2) rfl rfl (by decide) rfl (fun ls hl => ?_)
          refine lv_goto (tgt := 4) hx hb dX1_toldClauses_34 (by decide) ?_
          exact ih (x1 ||| v5) (x3 + 1)  _ _ _ hP hS (lv_sub hl [2, 1, 0] rfl) hN
  have hl := lv_entry ([.ref h0]) (n := 4) (Nat.le_of_ble_eq_true rfl)
  rw [lg_entry_eq]
  generalize (lg_sl ([.ref h0]) ++ List.replicate (4 - (lg_sl ([.ref h0])).length) Slot.unset).toArray = ls at hl ⊢
  have hl : lv_has ls 4 [(0, .ref h0)] := hl
  have hN := hF
  unfold F_X1_toldClauses at hN
  refine lv_lconst (v := 0) hx hb dX1_toldClauses_0 (by decide) ?_
  refine lv_lstore_n (lv' := [(1, .long (0 : Int64)), (0, .ref h0)]) hx hb dX1_toldClauses_1 rfl hl (by decide) rfl (fun ls hl => ?_)
  refine lv_iconst (v := 0) hx hb dX1_toldClauses_2 (by decide) ?_
  refine lv_istore_n (lv' := [(3, .int (0 : Int32)), (1, .long (0 : Int64)), (0, .ref h0)]) hx hb dX1_toldClauses_3 rfl hl (by decide) rfl (fun ls hl => ?_)
  exact lp4 fuel (0 : Int64) (0 : Int32)  _ _ _ hP hS (lv_sub hl [2, 1, 0] rfl) hN
set_option maxHeartbeats 4000000 in
set_option maxRecDepth 100000 in
theorem c_X1_valuesFulfilling (l : Launch) (g : Gm) (L : List Nat) {A : Nat → Prop} (hL : kL L A) (G : Nat → va_E) (h0 : Nat) (r : Nat → Nat) (u : St) (hV : vS g L G h0 r u) (p0 : Int64) (v : Int64) (hF : F_X1_valuesFulfilling u p0 = some v) : Met l yX1_valuesFulfilling wsX1_valuesFulfilling ({ frames := 1, cells := 0, slots := 0, locals := 22 } : Room) (va_Pc [.ref h0, .long p0] (kB g L A G)) (va_Ql (fun x9 (G9 : Nat → va_E) => x9 = v ∧ G9 = G) (kE g L) A) 0 0 A := by
  refine Met.ofW (cc := cX1_valuesFulfilling) (maxL := 6) (ret := (some .long)) (by decide) rfl ?_
  intro p e s m args below meth c s₁ B hml hv
  obtain ⟨rfl, hP, hC⟩ := hv
  have hx := B.exec
  have hb := B.bytes
  have hr := B.returns
  have hts := atoms_spec (ws := wsX1_valuesFulfilling) B.pre
  have hown : s.vm.findClass RX1 = some m.cls := findClass_of_methodNamed B.named
  have hlk := B.notSynchronized
  have hS : va_S A s.heap s.heap [] := va_S.rf
  have lp7 : ∀ (n : Nat) (x1 : Int64) (x3 : Int64) (x5 : Int32) (H : Heap) (locs : List Loc) (ls : Array Slot), va_P g.1 vwCl (va_pl L G) H → va_S A s.heap H locs → lv_has ls 6 [(0, .ref h0), (1, .long x1), (3, .long x3), (5, .int x5)] → FL_X1_valuesFulfilling_7 u n x1 x3 x5 = some v → W p l e (headSpec wsX1_valuesFulfilling ({ frames := 1, cells := 0, slots := 0, locals := 22 } : Room)).room s m ([.ref h0, .long p0] : List Value).toArray below meth c H locs 0 0 (MQ below (va_Ql (fun x9 (G9 : Nat → va_E) => x9 = v ∧ G9 = G) (kE g L) A) ([.ref h0, .long p0] : List Value).toArray s 0 0 A) (F0 m 7 ls []) := by
    intro n
    induction n with
    | zero =>
      intro x1 x3 x5 H locs ls hP hS hl hN
      exact absurd hN (by simp [FL_X1_valuesFulfilling_7])
    | succ n ih =>
      intro x1 x3 x5 H locs ls hP hS hl hN
      rw [FL_X1_valuesFulfilling_7] at hN
      refine lv_iload hx hb dX1_valuesFulfilling_7 (lv_at hl 3 rfl) ?_
      refine lv_aload_n hx hb dX1_valuesFulfilling_9 rfl (lv_at hl 0 rfl) ?_
      refine k_get (C := RX1) (T := TX1) (N := 13) (ci := 1) (v := .int (u.2.2 0)) hx hb hts (fun _ h => List.mem_cons_of_mem _ (List.mem_append_right _ h)) hown hC hP (vO.m hV) (vO.o hV) rfl 8 (by decide) (hts (.fieldLink RX1 37 "OrderedClauses$Store" "clauses" "I") (List.mem_of_getElem? (i := 2) rfl)) rfl dX1_valuesFulfilling_10 ?_
      refine lv_icmp_ge (tgt := 49) hx hb dX1_valuesFulfilling_13 (by decide) (fun c1 => ?_) (fun c1 => ?_)
      · rw [if_pos c1] at hN
        refine lv_lload_n hx hb dX1_valuesFulfilling_49 rfl (lv_at hl 2 rfl) ?_
        exact k_lretR hx hb hr (Option.some.inj hN) hP hS hlk dX1_valuesFulfilling_50
      · rw [if_neg c1] at hN
        refine lv_lload_n hx hb dX1_valuesFulfilling_16 rfl (lv_at hl 2 rfl) ?_
        refine lv_lconst (v := 0) hx hb dX1_valuesFulfilling_17 (by decide) ?_
        refine W.lcmp hx hb dX1_valuesFulfilling_18 ?_
        refine lv_if_eq (tgt := 49) hx hb dX1_valuesFulfilling_19 (by decide) (fun c2 => ?_) (fun c2 => ?_)
        · rw [if_pos c2] at hN
          refine lv_lload_n hx hb dX1_valuesFulfilling_49 rfl (lv_at hl 2 rfl) ?_
          exact k_lretR hx hb hr (Option.some.inj hN) hP hS hlk dX1_valuesFulfilling_50
        · rw [if_neg c2] at hN
          refine lv_lload_n hx hb dX1_valuesFulfilling_22 rfl (lv_at hl 1 rfl) ?_
          refine lv_iload hx hb dX1_valuesFulfilling_23 (lv_at hl 3 rfl) ?_
          obtain ⟨v3, hv3, hN⟩ := oB_spec hN
          refine k_iR hS (va_runSN (As := [.long x1, .int x5]) (rest := []) ⟨hx, hb, hml, hown, hts⟩ (c_X3_isIn l g L hL G x1 x5 v3 hv3) ⟨va_cnB 2 hts gX1_valuesFulfilling_X3_isIn_n76 rfl rfl rfl (hC.2.1.2 (RX1, 76, yX3_isIn, RX3) (List.mem_of_getElem? (i := 15) rfl)) (hts (.initialized RX3) (List.mem_of_getElem? (i := 5) rfl)) (by decide +kernel) ⟨Nat.le_of_ble_eq_true rfl, Nat.le_of_ble_eq_true rfl⟩, (hts (.static yX3_isIn) (List.mem_of_getElem? (i := 4) rfl)), trivial⟩ (k_pre hC hS hP) rfl rfl hl.1 rfl (lv_room (Nat.le_of_ble_eq_true rfl)) dX1_valuesFulfilling_25 ⟨Nat.zero_le _, Nat.zero_le _⟩) (fun H locs hP hS => ?_)
          refine lv_if_eq (tgt := 43) hx hb dX1_valuesFulfilling_28 (by decide) (fun c5 => ?_) (fun c5 => ?_)
          · rw [if_pos c5] at hN
            refine lv_iinc (v := (x5 + 1)) (lv' := [(5, .int (x5 + 1)), (0, .ref h0), (1, .long x1), (3, .long x3)]) hx hb dX1_valuesFulfilling_43 hl (k := 3) rfl rfl (by decide) rfl (fun ls hl => ?_)
            refine lv_goto (tgt := 7) hx hb dX1_valuesFulfilling_46 (by decide) ?_
            exact ih x1 x3 (x5 + 1)  _ _ _ hP hS (lv_sub hl [1, 2, 3, 0] rfl) hN
          · rw [if_neg c5] at hN
            refine lv_lload_n hx hb dX1_valuesFulfilling_31 rfl (lv_at hl 2 rfl) ?_
            refine lv_aload_n hx hb dX1_valuesFulfilling_32 rfl (lv_at hl 0 rfl) ?_
            refine k_get (C := RX1) (T := TX1) (N := 13) (ci := 1) (v := .ref (r 7)) hx hb hts (fun _ h => List.mem_cons_of_mem _ (List.mem_append_right _ h)) hown hC hP (vO.m hV) (vO.o hV) rfl 7 (by decide) (hts (.fieldLink RX1 33 "OrderedClauses$Store" "fulfilledBy" "[J") (List.mem_of_getElem? (i := 3) rfl)) rfl dX1_valuesFulfilling_33 ?_
            refine lv_iload hx hb dX1_valuesFulfilling_36 (lv_at hl 3 rfl) ?_
            obtain ⟨v6, hv6, hN⟩ := oB_spec hN
            refine k_lR hS (va_runSN (As := [.ref (r 7), .int x5]) (rest := [.long x3]) ⟨hx, hb, hml, hown, hts⟩ (c_X3_longAt l g L hL G (r 7) u.2.1 (lnS 7) (vO.rm hV 7 (by decide)) (vO.rl hV 7 (by decide) (by decide)) x5 v6 hv6) ⟨va_cnB 2 hts gX1_valuesFulfilling_X3_longAt_n147 rfl rfl rfl (hC.2.1.2 (RX1, 147, yX3_longAt, RX3) (List.mem_of_getElem? (i := 19) rfl)) (hts (.initialized RX3) (List.mem_of_getElem? (i := 5) rfl)) (by decide +kernel) ⟨Nat.le_of_ble_eq_true rfl, Nat.le_of_ble_eq_true rfl⟩, (hts (.static yX3_longAt) (List.mem_of_getElem? (i := 7) rfl)), trivial⟩ (k_pre hC hS hP) rfl rfl hl.1 rfl (lv_room (Nat.le_of_ble_eq_true rfl)) dX1_valuesFulfilling_38 ⟨Nat.zero_le _, Nat.zero_le _⟩) (fun H locs hP hS => ?_)
            refine lv_land hx hb dX1_valuesFulfilling_41 ?_
            refine lv_lstore_n (lv' := [(3, .long (x3 &&& v6)), (0, .ref h0), (1, .long x1), (5, .int x5)]) hx hb dX1_valuesFulfilling_42 rfl hl (by decide) rfl (fun ls hl => ?_)
            refine lv_iinc (v := (x5 + 1)) (lv' := [(5, .int (x5 + 1)), (3, .long (x3 &&& v6)), (0, .ref h0), (1, .long x1)]) hx hb dX1_valuesFulfilling_43 hl (k := 3) rfl rfl (by decide) rfl (fun ls hl => ?_)
            refine lv_goto (tgt := 7) hx hb dX1_valuesFulfilling_46 (by decide) ?_
            exact ih x1 (x3 &&& v6) (x5 + 1)  _ _ _ hP hS (lv_sub hl [2, 3, 1, 0] rfl) hN
  have hl := lv_entry ([.ref h0, .long p0]) (n := 6) (Nat.le_of_ble_eq_true rfl)
  rw [lg_entry_eq]
  generalize (lg_sl ([.ref h0, .long p0]) ++ List.replicate (6 - (lg_sl ([.ref h0, .long p0])).length) Slot.unset).toArray = ls at hl ⊢
  have hl : lv_has ls 6 [(0, .ref h0), (1, .long p0)] := hl
  have hN := hF
  unfold F_X1_valuesFulfilling at hN
  refine lv_ldc2 (v := (-1)) hx hb hown (hts (.constantLong RX1 145 (-1)) (List.mem_of_getElem? (i := 1) rfl)) dX1_valuesFulfilling_0 ?_
  refine lv_lstore_n (lv' := [(3, .long ((-1) : Int64)), (0, .ref h0), (1, .long p0)]) hx hb dX1_valuesFulfilling_3 rfl hl (by decide) rfl (fun ls hl => ?_)
  refine lv_iconst (v := 0) hx hb dX1_valuesFulfilling_4 (by decide) ?_
  refine lv_istore (lv' := [(5, .int (0 : Int32)), (3, .long ((-1) : Int64)), (0, .ref h0), (1, .long p0)]) hx hb dX1_valuesFulfilling_5 hl (by decide) rfl (fun ls hl => ?_)
  exact lp7 fuel p0 ((-1) : Int64) (0 : Int32)  _ _ _ hP hS (lv_sub hl [2, 3, 1, 0] rfl) hN
set_option maxHeartbeats 4000000 in
set_option maxRecDepth 100000 in
theorem c_X1_fewestUnfulfillable (l : Launch) (g : Gm) (L : List Nat) {A : Nat → Prop} (hL : kL L A) (G : Nat → va_E) (h0 : Nat) (r : Nat → Nat) (u : St) (hV : vS g L G h0 r u) (p0 : Int64) (v : Int64) (hF : F_X1_fewestUnfulfillable u p0 = some v) : Met l yX1_fewestUnfulfillable wsX1_fewestUnfulfillable ({ frames := 2, cells := 0, slots := 0, locals := 47 } : Room) (va_Pc [.ref h0, .long p0] (kB g L A G)) (va_Ql (fun x9 (G9 : Nat → va_E) => x9 = v ∧ G9 = G) (kE g L) A) 0 0 A := by
  refine Met.ofW (cc := cX1_fewestUnfulfillable) (maxL := 8) (ret := (some .long)) (by decide) rfl ?_
  intro p e s m args below meth c s₁ B hml hv
  obtain ⟨rfl, hP, hC⟩ := hv
  have hx := B.exec
  have hb := B.bytes
  have hr := B.returns
  have hts := atoms_spec (ws := wsX1_fewestUnfulfillable) B.pre
  have hown : s.vm.findClass RX1 = some m.cls := findClass_of_methodNamed B.named
  have hlk := B.notSynchronized
  have hS : va_S A s.heap s.heap [] := va_S.rf
  have lp5 : ∀ (n : Nat) (x3 : Int64) (x5 : Int32) (H : Heap) (locs : List Loc) (ls : Array Slot), va_P g.1 vwCl (va_pl L G) H → va_S A s.heap H locs → lv_has ls 8 [(0, .ref h0), (3, .long x3), (5, .int x5)] → FL_X1_fewestUnfulfillable_5 u n x3 x5 = some v → W p l e (headSpec wsX1_fewestUnfulfillable ({ frames := 2, cells := 0, slots := 0, locals := 47 } : Room)).room s m ([.ref h0, .long p0] : List Value).toArray below meth c H locs 0 0 (MQ below (va_Ql (fun x9 (G9 : Nat → va_E) => x9 = v ∧ G9 = G) (kE g L) A) ([.ref h0, .long p0] : List Value).toArray s 0 0 A) (F0 m 5 ls []) := by
    intro n
    induction n with
    | zero =>
      intro x3 x5 H locs ls hP hS hl hN
      exact absurd hN (by simp [FL_X1_fewestUnfulfillable_5])
    | succ n ih =>
      intro x3 x5 H locs ls hP hS hl hN
      rw [FL_X1_fewestUnfulfillable_5] at hN
      refine lv_iload hx hb dX1_fewestUnfulfillable_5 (lv_at hl 2 rfl) ?_
      refine lv_aload_n hx hb dX1_fewestUnfulfillable_7 rfl (lv_at hl 0 rfl) ?_
      refine k_get (C := RX1) (T := TX1) (N := 13) (ci := 1) (v := .int (u.2.2 0)) hx hb hts (fun _ h => List.mem_cons_of_mem _ (List.mem_append_right _ h)) hown hC hP (vO.m hV) (vO.o hV) rfl 8 (by decide) (hts (.fieldLink RX1 37 "OrderedClauses$Store" "clauses" "I") (List.mem_of_getElem? (i := 1) rfl)) rfl dX1_fewestUnfulfillable_8 ?_
      refine lv_icmp_ge (tgt := 47) hx hb dX1_fewestUnfulfillable_11 (by decide) (fun c1 => ?_) (fun c1 => ?_)
      · rw [if_pos c1] at hN
        refine lv_lload_n hx hb dX1_fewestUnfulfillable_47 rfl (lv_at hl 1 rfl) ?_
        exact k_lretR hx hb hr (Option.some.inj hN) hP hS hlk dX1_fewestUnfulfillable_48
      · rw [if_neg c1] at hN
        refine lv_lload_n hx hb dX1_fewestUnfulfillable_14 rfl (lv_at hl 1 rfl) ?_
        refine lv_iload hx hb dX1_fewestUnfulfillable_15 (lv_at hl 2 rfl) ?_
        obtain ⟨v2, hv2, hN⟩ := oB_spec hN
        refine k_lR hS (va_runSN (As := [.int x5]) (rest := [.long x3]) ⟨hx, hb, hml, hown, hts⟩ (c_X3_setOf l g L hL G x5 v2 hv2) ⟨va_cnB 1 hts gX1_fewestUnfulfillable_X3_setOf_n139 rfl rfl rfl (hC.2.1.2 (RX1, 139, yX3_setOf, RX3) (List.mem_of_getElem? (i := 17) rfl)) (hts (.initialized RX3) (List.mem_of_getElem? (i := 4) rfl)) (by decide +kernel) ⟨Nat.le_of_ble_eq_true rfl, Nat.le_of_ble_eq_true rfl⟩, (hts (.static yX3_setOf) (List.mem_of_getElem? (i := 3) rfl)), trivial⟩ (k_pre hC hS hP) rfl rfl hl.1 rfl (lv_room (Nat.le_of_ble_eq_true rfl)) dX1_fewestUnfulfillable_17 ⟨Nat.zero_le _, Nat.zero_le _⟩) (fun H locs hP hS => ?_)
        refine lv_ldc2 (v := (-1)) hx hb hown (hts (.constantLong RX1 145 (-1)) (List.mem_of_getElem? (i := 2) rfl)) dX1_fewestUnfulfillable_20 ?_
        refine lv_lxor hx hb dX1_fewestUnfulfillable_23 ?_
        refine lv_land hx hb dX1_fewestUnfulfillable_24 ?_
        refine lv_lstore (lv' := [(6, .long (x3 &&& (v2 ^^^ ((-1) : Int64)))), (0, .ref h0), (3, .long x3), (5, .int x5)]) hx hb dX1_fewestUnfulfillable_25 hl (by decide) rfl (fun ls hl => ?_)
        refine lv_aload_n hx hb dX1_fewestUnfulfillable_27 rfl (lv_at hl 1 rfl) ?_
        refine lv_lload hx hb dX1_fewestUnfulfillable_28 (lv_at hl 0 rfl) ?_
        obtain ⟨v4, hv4, hN⟩ := oB_spec hN
        refine k_lR hS (va_runV (As := [.long (x3 &&& (v2 ^^^ ((-1) : Int64)))]) (rest := []) ⟨hx, hb, hml, hown, hts⟩ (c_X1_valuesFulfilling l g L hL G h0 r u hV (x3 &&& (v2 ^^^ ((-1) : Int64))) v4 hv4) (cwV 1 hts gX1_fewestUnfulfillable_X1_valuesFulfilling rfl rfl rfl (by decide +kernel) ⟨Nat.le_of_ble_eq_true rfl, Nat.le_of_ble_eq_true rfl⟩) (k_preV hC hS hP (vO.m hV) (vO.o hV) rfl) rfl rfl hl.1 rfl (lv_room (Nat.le_of_ble_eq_true rfl)) dX1_fewestUnfulfillable_30 ⟨Nat.zero_le _, Nat.zero_le _⟩) (fun H locs hP hS => ?_)
        refine lv_lconst (v := 0) hx hb dX1_fewestUnfulfillable_33 (by decide) ?_
        refine W.lcmp hx hb dX1_fewestUnfulfillable_34 ?_
        refine lv_if_ne (tgt := 41) hx hb dX1_fewestUnfulfillable_35 (by decide) (fun c6 => ?_) (fun c6 => ?_)
        · rw [if_neg c6] at hN
          refine lv_iinc (v := (x5 + 1)) (lv' := [(5, .int (x5 + 1)), (6, .long (x3 &&& (v2 ^^^ ((-1) : Int64)))), (0, .ref h0), (3, .long x3)]) hx hb dX1_fewestUnfulfillable_41 hl (k := 3) rfl rfl (by decide) rfl (fun ls hl => ?_)
          refine lv_goto (tgt := 5) hx hb dX1_fewestUnfulfillable_44 (by decide) ?_
          exact ih x3 (x5 + 1)  _ _ _ hP hS (lv_sub hl [2, 3, 0] rfl) hN
        · rw [if_pos c6] at hN
          refine lv_lload hx hb dX1_fewestUnfulfillable_38 (lv_at hl 0 rfl) ?_
          refine lv_lstore_n (lv' := [(3, .long (x3 &&& (v2 ^^^ ((-1) : Int64)))), (6, .long (x3 &&& (v2 ^^^ ((-1) : Int64)))), (0, .ref h0), (5, .int x5)]) hx hb dX1_fewestUnfulfillable_40 rfl hl (by decide) rfl (fun ls hl => ?_)
          refine lv_iinc (v := (x5 + 1)) (lv' := [(5, .int (x5 + 1)), (3, .long (x3 &&& (v2 ^^^ ((-1) : Int64)))), (6, .long (x3 &&& (v2 ^^^ ((-1) : Int64)))), (0, .ref h0)]) hx hb dX1_fewestUnfulfillable_41 hl (k := 3) rfl rfl (by decide) rfl (fun ls hl => ?_)
          refine lv_goto (tgt := 5) hx hb dX1_fewestUnfulfillable_44 (by decide) ?_
          exact ih (x3 &&& (v2 ^^^ ((-1) : Int64))) (x5 + 1)  _ _ _ hP hS (lv_sub hl [3, 1, 0] rfl) hN
  have hl := lv_entry ([.ref h0, .long p0]) (n := 8) (Nat.le_of_ble_eq_true rfl)
  rw [lg_entry_eq]
  generalize (lg_sl ([.ref h0, .long p0]) ++ List.replicate (8 - (lg_sl ([.ref h0, .long p0])).length) Slot.unset).toArray = ls at hl ⊢
  have hl : lv_has ls 8 [(0, .ref h0), (1, .long p0)] := hl
  have hN := hF
  unfold F_X1_fewestUnfulfillable at hN
  refine lv_lload_n hx hb dX1_fewestUnfulfillable_0 rfl (lv_at hl 1 rfl) ?_
  refine lv_lstore_n (lv' := [(3, .long p0), (0, .ref h0), (1, .long p0)]) hx hb dX1_fewestUnfulfillable_1 rfl hl (by decide) rfl (fun ls hl => ?_)
  refine lv_iconst (v := 0) hx hb dX1_fewestUnfulfillable_2 (by decide) ?_
  refine lv_istore (lv' := [(5, .int (0 : Int32)), (3, .long p0), (0, .ref h0), (1, .long p0)]) hx hb dX1_fewestUnfulfillable_3 hl (by decide) rfl (fun ls hl => ?_)
  exact lp5 fuel p0 (0 : Int32)  _ _ _ hP hS (lv_sub hl [2, 1, 0] rfl) hN
