/-! Each method meets its partial function: printed by program (wip/p25/gen.py) -/
set_option maxHeartbeats 4000000 in
set_option maxRecDepth 100000 in
theorem c_X2_add (l : Launch) (g : Gm) (L : List Nat) {A : Nat → Prop} (hL : kL L A) (G : Nat → va_E) (h0 : Nat) (r : Nat → Nat) (u : St) (hV : vT g L G h0 r u) (p0 : Int32) (v : Int32) (w : St) (hF : F_X2_add u p0 = some (v, w)) : Met l yX2_add wsX2_add ({ frames := 1, cells := 0, slots := 0, locals := 22 } : Room) (va_Pc [.ref h0, .int p0] (kB g L A G)) (va_Qi (fun x (G9 : Nat → va_E) => x = v ∧ (vT g L G9 h0 r w ∧ frS h0 r 1 G G9)) (kE g L) A) 0 0 A := by
  refine Met.ofW (cc := cX2_add) (maxL := 2) (ret := (some .boolean)) (by decide) rfl ?_
  intro p e s m args below meth c s₁ B hml hv
  obtain ⟨rfl, hP, hC⟩ := hv
  have hx := B.exec
  have hb := B.bytes
  have hr := B.returns
  have hts := atoms_spec (ws := wsX2_add) B.pre
  have hown : s.vm.findClass RX2 = some m.cls := findClass_of_methodNamed B.named
  have hlk := B.notSynchronized
  have hS : va_S A s.heap s.heap [] := va_S.rf
  have hV0 := hV
  have hfr : frS h0 r 1 G G := frS.rf
  have hl := lv_entry ([.ref h0, .int p0]) (n := 2) (Nat.le_of_ble_eq_true rfl)
  rw [lg_entry_eq]
  generalize (lg_sl ([.ref h0, .int p0]) ++ List.replicate (2 - (lg_sl ([.ref h0, .int p0])).length) Slot.unset).toArray = ls at hl ⊢
  have hl : lv_has ls 2 [(0, .ref h0), (1, .int p0)] := hl
  have hN := hF
  unfold F_X2_add at hN
  refine lv_aload_n hx hb dX2_add_0 rfl (lv_at hl 0 rfl) ?_
  refine k_get (C := RX2) (T := TX2) (N := 2) (ci := 2) (v := .int (u.2.2 0)) hx hb hts (fun _ h => List.mem_cons_of_mem _ (List.mem_append_right _ h)) hown hC hP (vO.m hV) (vO.o hV) rfl 1 (by decide) (hts (.fieldLink RX2 15 "OrderedClauses$Text" "length" "I") (List.mem_of_getElem? (i := 1) rfl)) rfl dX2_add_1 ?_
  refine lv_bipush (v := 60) hx hb dX2_add_4 (by decide) ?_
  refine lv_icmp_lt (tgt := 11) hx hb dX2_add_6 (by decide) (fun c1 => ?_) (fun c1 => ?_)
  · rw [if_pos c1] at hN
    refine lv_aload_n hx hb dX2_add_11 rfl (lv_at hl 0 rfl) ?_
    refine k_get (C := RX2) (T := TX2) (N := 2) (ci := 2) (v := .ref (r 0)) hx hb hts (fun _ h => List.mem_cons_of_mem _ (List.mem_append_right _ h)) hown hC hP (vO.m hV) (vO.o hV) rfl 0 (by decide) (hts (.fieldLink RX2 9 "OrderedClauses$Text" "characters" "[I") (List.mem_of_getElem? (i := 2) rfl)) rfl dX2_add_12 ?_
    refine lv_aload_n hx hb dX2_add_15 rfl (lv_at hl 0 rfl) ?_
    refine k_get (C := RX2) (T := TX2) (N := 2) (ci := 2) (v := .int (u.2.2 0)) hx hb hts (fun _ h => List.mem_cons_of_mem _ (List.mem_append_right _ h)) hown hC hP (vO.m hV) (vO.o hV) rfl 1 (by decide) (hts (.fieldLink RX2 15 "OrderedClauses$Text" "length" "I") (List.mem_of_getElem? (i := 1) rfl)) rfl dX2_add_16 ?_
    refine lv_iload_n hx hb dX2_add_19 rfl (lv_at hl 1 rfl) ?_
    obtain ⟨w3, hw3, hN⟩ := oB_spec hN
    refine k_v hS (va_runSN (As := [.ref (r 0), .int (u.2.2 0), .int p0]) (rest := []) ⟨hx, hb, hml, hown, hts⟩ (c_X3_put l g L hL G (r 0) (u.1 0) (lnT 0) (vO.rm hV 0 (by decide)) (vO.ri hV 0 (by decide)) (u.2.2 0) p0 w3 hw3) ⟨va_cnB 3 hts gX2_add_X3_put_n19 rfl rfl rfl (hC.2.1.2 (RX2, 19, yX3_put, RX3) (List.mem_of_getElem? (i := 34) rfl)) (hts (.initialized RX3) (List.mem_of_getElem? (i := 4) rfl)) (by decide +kernel) ⟨Nat.le_of_ble_eq_true rfl, Nat.le_of_ble_eq_true rfl⟩, (hts (.static yX3_put) (List.mem_of_getElem? (i := 3) rfl)), trivial⟩ (k_pre hC hS hP) rfl rfl hl.1 rfl (lv_room (Nat.le_of_ble_eq_true rfl)) dX2_add_20 ⟨Nat.zero_le _, Nat.zero_le _⟩) (fun G4 H locs hq hP hS => ?_)
    have hV : vT g L G4 h0 r ((va_up u.1 0 w3), u.2.1, u.2.2) := by rw [hq]; exact vO.setI (f := u.1) (gg := u.2.1) (k := u.2.2) hV (by decide) 0 (by decide) _
    have hfr : frS h0 r 1 G G4 := by rw [hq]; exact vO.frI hfr 0 (by decide) _
    refine lv_aload_n hx hb dX2_add_23 rfl (lv_at hl 0 rfl) ?_
    refine lv_dup hx hb dX2_add_24 rfl ?_
    refine k_get (C := RX2) (T := TX2) (N := 2) (ci := 2) (v := .int (u.2.2 0)) hx hb hts (fun _ h => List.mem_cons_of_mem _ (List.mem_append_right _ h)) hown hC hP (vO.m hV) (vO.o hV) rfl 1 (by decide) (hts (.fieldLink RX2 15 "OrderedClauses$Text" "length" "I") (List.mem_of_getElem? (i := 1) rfl)) rfl dX2_add_25 ?_
    refine lv_iconst (v := 1) hx hb dX2_add_28 (by decide) ?_
    refine lv_iadd hx hb dX2_add_29 ?_
    refine k_putE (C := RX2) (T := TX2) (N := 2) (ci := 2) hx hb hts (fun _ h => List.mem_cons_of_mem _ (List.mem_append_right _ h)) tyX2 tyX2_ok nmX2 hown hL hC hP hS (vO.m hV) (vO.o hV) rfl 1 (by decide) (hts (.fieldLink RX2 15 "OrderedClauses$Text" "length" "I") (List.mem_of_getElem? (i := 1) rfl)) (by decide +kernel) (by decide +kernel) (Nat.le_of_ble_eq_true rfl) dX2_add_30 (fun G5 H locs hq hP hS => ?_)
    have hV : vT g L G5 h0 r ((va_up u.1 0 w3), u.2.1, (va_up u.2.2 0 ((u.2.2 0) + (1 : Int32)))) := by rw [hq]; exact vO.setK (f := (va_up u.1 0 w3)) (gg := u.2.1) (k := u.2.2) hV rfl
    have hfr : frS h0 r 1 G G5 := by rw [hq]; exact vO.frK hfr _
    refine lv_iconst (v := 1) hx hb dX2_add_33 (by decide) ?_
    obtain ⟨hE, hE2⟩ := spair hN
    exact k_zretW hx hb hr (by decide) hE ⟨hE2 ▸ hV, hfr⟩ hP hS hlk dX2_add_34
  · rw [if_neg c1] at hN
    refine lv_iconst (v := 0) hx hb dX2_add_9 (by decide) ?_
    obtain ⟨hE, hE2⟩ := spair hN
    exact k_zretW hx hb hr (by decide) hE ⟨hE2 ▸ hV, hfr⟩ hP hS hlk dX2_add_10
set_option maxHeartbeats 4000000 in
set_option maxRecDepth 100000 in
theorem c_X2_whereItBreaksOff (l : Launch) (g : Gm) (L : List Nat) {A : Nat → Prop} (hL : kL L A) (G : Nat → va_E) (h0 : Nat) (r : Nat → Nat) (u : St) (hV : vT g L G h0 r u) (v : Int32) (hF : F_X2_whereItBreaksOff u = some v) : Met l yX2_whereItBreaksOff wsX2_whereItBreaksOff ({ frames := 1, cells := 0, slots := 0, locals := 21 } : Room) (va_Pc [.ref h0] (kB g L A G)) (va_Qi (fun x9 (G9 : Nat → va_E) => x9 = v ∧ G9 = G) (kE g L) A) 0 0 A := by
  refine Met.ofW (cc := cX2_whereItBreaksOff) (maxL := 5) (ret := (some .int)) (by decide) rfl ?_
  intro p e s m args below meth c s₁ B hml hv
  obtain ⟨rfl, hP, hC⟩ := hv
  have hx := B.exec
  have hb := B.bytes
  have hr := B.returns
  have hts := atoms_spec (ws := wsX2_whereItBreaksOff) B.pre
  have hown : s.vm.findClass RX2 = some m.cls := findClass_of_methodNamed B.named
  have hlk := B.notSynchronized
  have hS : va_S A s.heap s.heap [] := va_S.rf
  have lp4 : ∀ (n : Nat) (x1 : Int32) (x2 : Int32) (H : Heap) (locs : List Loc) (ls : Array Slot), va_P g.1 vwCl (va_pl L G) H → va_S A s.heap H locs → lv_has ls 5 [(0, .ref h0), (1, .int x1), (2, .int x2)] → FL_X2_whereItBreaksOff_4 u n x1 x2 = some v → W p l e (headSpec wsX2_whereItBreaksOff ({ frames := 1, cells := 0, slots := 0, locals := 21 } : Room)).room s m ([.ref h0] : List Value).toArray below meth c H locs 0 0 (MQ below (va_Qi (fun x9 (G9 : Nat → va_E) => x9 = v ∧ G9 = G) (kE g L) A) ([.ref h0] : List Value).toArray s 0 0 A) (F0 m 4 ls []) := by
    intro n
    induction n with
    | zero =>
      intro x1 x2 H locs ls hP hS hl hN
      exact absurd hN (by simp [FL_X2_whereItBreaksOff_4])
    | succ n ih =>
      intro x1 x2 H locs ls hP hS hl hN
      rw [FL_X2_whereItBreaksOff_4] at hN
      refine lv_iload_n hx hb dX2_whereItBreaksOff_4 rfl (lv_at hl 2 rfl) ?_
      refine lv_aload_n hx hb dX2_whereItBreaksOff_5 rfl (lv_at hl 0 rfl) ?_
      refine k_get (C := RX2) (T := TX2) (N := 2) (ci := 2) (v := .int (u.2.2 0)) hx hb hts (fun _ h => List.mem_cons_of_mem _ (List.mem_append_right _ h)) hown hC hP (vO.m hV) (vO.o hV) rfl 1 (by decide) (hts (.fieldLink RX2 15 "OrderedClauses$Text" "length" "I") (List.mem_of_getElem? (i := 1) rfl)) rfl dX2_whereItBreaksOff_6 ?_
      refine lv_icmp_ge (tgt := 81) hx hb dX2_whereItBreaksOff_9 (by decide) (fun c1 => ?_) (fun c1 => ?_)
      · rw [if_pos c1] at hN
        refine lv_aload_n hx hb dX2_whereItBreaksOff_81 rfl (lv_at hl 0 rfl) ?_
        refine k_get (C := RX2) (T := TX2) (N := 2) (ci := 2) (v := .int (u.2.2 0)) hx hb hts (fun _ h => List.mem_cons_of_mem _ (List.mem_append_right _ h)) hown hC hP (vO.m hV) (vO.o hV) rfl 1 (by decide) (hts (.fieldLink RX2 15 "OrderedClauses$Text" "length" "I") (List.mem_of_getElem? (i := 1) rfl)) rfl dX2_whereItBreaksOff_82 ?_
        refine lv_if_eq (tgt := 106) hx hb dX2_whereItBreaksOff_85 (by decide) (fun c2 => ?_) (fun c2 => ?_)
        · rw [if_pos c2] at hN
          refine lv_iconst (v := (-1)) hx hb dX2_whereItBreaksOff_106 (by decide) ?_
          refine lv_goto (tgt := 114) hx hb dX2_whereItBreaksOff_107 (by decide) ?_
          exact k_iretR hx hb hr (Option.some.inj hN) hP hS hlk dX2_whereItBreaksOff_114
        · rw [if_neg c2] at hN
          refine lv_aload_n hx hb dX2_whereItBreaksOff_88 rfl (lv_at hl 0 rfl) ?_
          refine k_get (C := RX2) (T := TX2) (N := 2) (ci := 2) (v := .ref (r 0)) hx hb hts (fun _ h => List.mem_cons_of_mem _ (List.mem_append_right _ h)) hown hC hP (vO.m hV) (vO.o hV) rfl 0 (by decide) (hts (.fieldLink RX2 9 "OrderedClauses$Text" "characters" "[I") (List.mem_of_getElem? (i := 2) rfl)) rfl dX2_whereItBreaksOff_89 ?_
          refine lv_aload_n hx hb dX2_whereItBreaksOff_92 rfl (lv_at hl 0 rfl) ?_
          refine k_get (C := RX2) (T := TX2) (N := 2) (ci := 2) (v := .int (u.2.2 0)) hx hb hts (fun _ h => List.mem_cons_of_mem _ (List.mem_append_right _ h)) hown hC hP (vO.m hV) (vO.o hV) rfl 1 (by decide) (hts (.fieldLink RX2 15 "OrderedClauses$Text" "length" "I") (List.mem_of_getElem? (i := 1) rfl)) rfl dX2_whereItBreaksOff_93 ?_
          refine lv_iconst (v := 1) hx hb dX2_whereItBreaksOff_96 (by decide) ?_
          refine lv_isub hx hb dX2_whereItBreaksOff_97 ?_
          obtain ⟨v3, hv3, hN⟩ := oB_spec hN
          refine k_iR hS (va_runSN (As := [.ref (r 0), .int ((u.2.2 0) - (1 : Int32))]) (rest := []) ⟨hx, hb, hml, hown, hts⟩ (c_X3_at l g L hL G (r 0) (u.1 0) (lnT 0) (vO.rm hV 0 (by decide)) (vO.ri hV 0 (by decide)) ((u.2.2 0) - (1 : Int32)) v3 hv3) ⟨va_cnB 2 hts gX2_whereItBreaksOff_X3_at_n23 rfl rfl rfl (hC.2.1.2 (RX2, 23, yX3_at, RX3) (List.mem_of_getElem? (i := 36) rfl)) (hts (.initialized RX3) (List.mem_of_getElem? (i := 4) rfl)) (by decide +kernel) ⟨Nat.le_of_ble_eq_true rfl, Nat.le_of_ble_eq_true rfl⟩, (hts (.static yX3_at) (List.mem_of_getElem? (i := 3) rfl)), trivial⟩ (k_pre hC hS hP) rfl rfl hl.1 rfl (lv_room (Nat.le_of_ble_eq_true rfl)) dX2_whereItBreaksOff_98 ⟨Nat.zero_le _, Nat.zero_le _⟩) (fun H locs hP hS => ?_)
          refine lv_bipush (v := 59) hx hb dX2_whereItBreaksOff_101 (by decide) ?_
          refine lv_icmp_ne (tgt := 110) hx hb dX2_whereItBreaksOff_103 (by decide) (fun c5 => ?_) (fun c5 => ?_)
          · rw [if_neg c5] at hN
            refine lv_aload_n hx hb dX2_whereItBreaksOff_110 rfl (lv_at hl 0 rfl) ?_
            refine k_get (C := RX2) (T := TX2) (N := 2) (ci := 2) (v := .int (u.2.2 0)) hx hb hts (fun _ h => List.mem_cons_of_mem _ (List.mem_append_right _ h)) hown hC hP (vO.m hV) (vO.o hV) rfl 1 (by decide) (hts (.fieldLink RX2 15 "OrderedClauses$Text" "length" "I") (List.mem_of_getElem? (i := 1) rfl)) rfl dX2_whereItBreaksOff_111 ?_
            exact k_iretR hx hb hr (Option.some.inj hN) hP hS hlk dX2_whereItBreaksOff_114
          · rw [if_pos c5] at hN
            refine lv_iconst (v := (-1)) hx hb dX2_whereItBreaksOff_106 (by decide) ?_
            refine lv_goto (tgt := 114) hx hb dX2_whereItBreaksOff_107 (by decide) ?_
            exact k_iretR hx hb hr (Option.some.inj hN) hP hS hlk dX2_whereItBreaksOff_114
      · rw [if_neg c1] at hN
        refine lv_aload_n hx hb dX2_whereItBreaksOff_12 rfl (lv_at hl 0 rfl) ?_
        refine k_get (C := RX2) (T := TX2) (N := 2) (ci := 2) (v := .ref (r 0)) hx hb hts (fun _ h => List.mem_cons_of_mem _ (List.mem_append_right _ h)) hown hC hP (vO.m hV) (vO.o hV) rfl 0 (by decide) (hts (.fieldLink RX2 9 "OrderedClauses$Text" "characters" "[I") (List.mem_of_getElem? (i := 2) rfl)) rfl dX2_whereItBreaksOff_13 ?_
        refine lv_iload_n hx hb dX2_whereItBreaksOff_16 rfl (lv_at hl 2 rfl) ?_
        obtain ⟨v6, hv6, hN⟩ := oB_spec hN
        refine k_iR hS (va_runSN (As := [.ref (r 0), .int x2]) (rest := []) ⟨hx, hb, hml, hown, hts⟩ (c_X3_at l g L hL G (r 0) (u.1 0) (lnT 0) (vO.rm hV 0 (by decide)) (vO.ri hV 0 (by decide)) x2 v6 hv6) ⟨va_cnB 2 hts gX2_whereItBreaksOff_X3_at_n23 rfl rfl rfl (hC.2.1.2 (RX2, 23, yX3_at, RX3) (List.mem_of_getElem? (i := 36) rfl)) (hts (.initialized RX3) (List.mem_of_getElem? (i := 4) rfl)) (by decide +kernel) ⟨Nat.le_of_ble_eq_true rfl, Nat.le_of_ble_eq_true rfl⟩, (hts (.static yX3_at) (List.mem_of_getElem? (i := 3) rfl)), trivial⟩ (k_pre hC hS hP) rfl rfl hl.1 rfl (lv_room (Nat.le_of_ble_eq_true rfl)) dX2_whereItBreaksOff_17 ⟨Nat.zero_le _, Nat.zero_le _⟩) (fun H locs hP hS => ?_)
        refine lv_istore_n (lv' := [(3, .int v6), (0, .ref h0), (1, .int x1), (2, .int x2)]) hx hb dX2_whereItBreaksOff_20 rfl hl (by decide) rfl (fun ls hl => ?_)
        refine lv_iload_n hx hb dX2_whereItBreaksOff_21 rfl (lv_at hl 0 rfl) ?_
        refine lv_bipush (v := 97) hx hb dX2_whereItBreaksOff_22 (by decide) ?_
        refine lv_icmp_lt (tgt := 37) hx hb dX2_whereItBreaksOff_24 (by decide) (fun c8 => ?_) (fun c8 => ?_)
        · rw [if_pos c8] at hN
          refine lv_iconst (v := 0) hx hb dX2_whereItBreaksOff_37 (by decide) ?_
          refine lv_istore (lv' := [(4, .int (0 : Int32)), (3, .int v6), (0, .ref h0), (1, .int x1), (2, .int x2)]) hx hb dX2_whereItBreaksOff_38 hl (by decide) rfl (fun ls hl => ?_)
          refine lv_iload hx hb dX2_whereItBreaksOff_40 (lv_at hl 0 rfl) ?_
          refine lv_if_ne (tgt := 63) hx hb dX2_whereItBreaksOff_42 (by decide) (fun c9 => absurd c9 (by decide)) (fun _ => ?_)
          refine lv_iload_n hx hb dX2_whereItBreaksOff_45 rfl (lv_at hl 3 rfl) ?_
          refine lv_if_ne (tgt := 61) hx hb dX2_whereItBreaksOff_46 (by decide) (fun c9 => ?_) (fun c9 => ?_)
          · rw [if_neg c9] at hN
            refine lv_iload_n hx hb dX2_whereItBreaksOff_61 rfl (lv_at hl 4 rfl) ?_
            exact k_iretR hx hb hr (Option.some.inj hN) hP hS hlk dX2_whereItBreaksOff_62
          · rw [if_pos c9] at hN
            refine lv_iload_n hx hb dX2_whereItBreaksOff_49 rfl (lv_at hl 1 rfl) ?_
            refine lv_bipush (v := 45) hx hb dX2_whereItBreaksOff_50 (by decide) ?_
            refine lv_icmp_eq (tgt := 63) hx hb dX2_whereItBreaksOff_52 (by decide) (fun c10 => ?_) (fun c10 => ?_)
            · rw [if_pos c10] at hN
              refine lv_iload_n hx hb dX2_whereItBreaksOff_63 rfl (lv_at hl 1 rfl) ?_
              refine lv_bipush (v := 45) hx hb dX2_whereItBreaksOff_64 (by decide) ?_
              refine lv_icmp_ne (tgt := 73) hx hb dX2_whereItBreaksOff_66 (by decide) (fun c11 => ?_) (fun c11 => ?_)
              · rw [if_neg c11] at hN
                refine lv_iconst (v := 0) hx hb dX2_whereItBreaksOff_73 (by decide) ?_
                refine lv_istore_n (lv' := [(1, .int (0 : Int32)), (4, .int (0 : Int32)), (3, .int v6), (0, .ref h0), (2, .int x2)]) hx hb dX2_whereItBreaksOff_74 rfl hl (by decide) rfl (fun ls hl => ?_)
                refine lv_iinc (v := (x2 + 1)) (lv' := [(2, .int (x2 + 1)), (1, .int (0 : Int32)), (4, .int (0 : Int32)), (3, .int v6), (0, .ref h0)]) hx hb dX2_whereItBreaksOff_75 hl (k := 4) rfl rfl (by decide) rfl (fun ls hl => ?_)
                refine lv_goto (tgt := 4) hx hb dX2_whereItBreaksOff_78 (by decide) ?_
                exact ih (0 : Int32) (x2 + 1)  _ _ _ hP hS (lv_sub hl [4, 1, 0] rfl) hN
              · rw [if_pos c11] at hN
                refine lv_iconst (v := 1) hx hb dX2_whereItBreaksOff_69 (by decide) ?_
                refine lv_goto (tgt := 74) hx hb dX2_whereItBreaksOff_70 (by decide) ?_
                refine lv_istore_n (lv' := [(1, .int (1 : Int32)), (4, .int (0 : Int32)), (3, .int v6), (0, .ref h0), (2, .int x2)]) hx hb dX2_whereItBreaksOff_74 rfl hl (by decide) rfl (fun ls hl => ?_)
                refine lv_iinc (v := (x2 + 1)) (lv' := [(2, .int (x2 + 1)), (1, .int (1 : Int32)), (4, .int (0 : Int32)), (3, .int v6), (0, .ref h0)]) hx hb dX2_whereItBreaksOff_75 hl (k := 4) rfl rfl (by decide) rfl (fun ls hl => ?_)
                refine lv_goto (tgt := 4) hx hb dX2_whereItBreaksOff_78 (by decide) ?_
                exact ih (1 : Int32) (x2 + 1)  _ _ _ hP hS (lv_sub hl [4, 1, 0] rfl) hN
            · rw [if_neg c10] at hN
              refine lv_iload_n hx hb dX2_whereItBreaksOff_55 rfl (lv_at hl 1 rfl) ?_
              refine lv_bipush (v := 59) hx hb dX2_whereItBreaksOff_56 (by decide) ?_
              refine lv_icmp_eq (tgt := 63) hx hb dX2_whereItBreaksOff_58 (by decide) (fun c12 => ?_) (fun c12 => ?_)
              · rw [if_pos c12] at hN
                refine lv_iload_n hx hb dX2_whereItBreaksOff_63 rfl (lv_at hl 1 rfl) ?_
                refine lv_bipush (v := 45) hx hb dX2_whereItBreaksOff_64 (by decide) ?_
                refine lv_icmp_ne (tgt := 73) hx hb dX2_whereItBreaksOff_66 (by decide) (fun c13 => ?_) (fun c13 => ?_)
                · rw [if_neg c13] at hN
                  refine lv_iconst (v := 0) hx hb dX2_whereItBreaksOff_73 (by decide) ?_
                  refine lv_istore_n (lv' := [(1, .int (0 : Int32)), (4, .int (0 : Int32)), (3, .int v6), (0, .ref h0), (2, .int x2)]) hx hb dX2_whereItBreaksOff_74 rfl hl (by decide) rfl (fun ls hl => ?_)
                  refine lv_iinc (v := (x2 + 1)) (lv' := [(2, .int (x2 + 1)), (1, .int (0 : Int32)), (4, .int (0 : Int32)), (3, .int v6), (0, .ref h0)]) hx hb dX2_whereItBreaksOff_75 hl (k := 4) rfl rfl (by decide) rfl (fun ls hl => ?_)
                  refine lv_goto (tgt := 4) hx hb dX2_whereItBreaksOff_78 (by decide) ?_
                  exact ih (0 : Int32) (x2 + 1)  _ _ _ hP hS (lv_sub hl [4, 1, 0] rfl) hN
                · rw [if_pos c13] at hN
                  refine lv_iconst (v := 1) hx hb dX2_whereItBreaksOff_69 (by decide) ?_
                  refine lv_goto (tgt := 74) hx hb dX2_whereItBreaksOff_70 (by decide) ?_
                  refine lv_istore_n (lv' := [(1, .int (1 : Int32)), (4, .int (0 : Int32)), (3, .int v6), (0, .ref h0), (2, .int x2)]) hx hb dX2_whereItBreaksOff_74 rfl hl (by decide) rfl (fun ls hl => ?_)
                  refine lv_iinc (v := (x2 + 1)) (lv' := [(2, .int (x2 + 1)), (1, .int (1 : Int32)), (4, .int (0 : Int32)), (3, .int v6), (0, .ref h0)]) hx hb dX2_whereItBreaksOff_75 hl (k := 4) rfl rfl (by decide) rfl (fun ls hl => ?_)
                  refine lv_goto (tgt := 4) hx hb dX2_whereItBreaksOff_78 (by decide) ?_
                  exact ih (1 : Int32) (x2 + 1)  _ _ _ hP hS (lv_sub hl [4, 1, 0] rfl) hN
              · rw [if_neg c12] at hN
                refine lv_iload_n hx hb dX2_whereItBreaksOff_61 rfl (lv_at hl 4 rfl) ?_
                exact k_iretR hx hb hr (Option.some.inj hN) hP hS hlk dX2_whereItBreaksOff_62
        · rw [if_neg c8] at hN
          refine lv_iload_n hx hb dX2_whereItBreaksOff_27 rfl (lv_at hl 0 rfl) ?_
          refine lv_bipush (v := 103) hx hb dX2_whereItBreaksOff_28 (by decide) ?_
          refine lv_icmp_ge (tgt := 37) hx hb dX2_whereItBreaksOff_30 (by decide) (fun c14 => ?_) (fun c14 => ?_)
          · rw [if_pos c14] at hN
            refine lv_iconst (v := 0) hx hb dX2_whereItBreaksOff_37 (by decide) ?_
            refine lv_istore (lv' := [(4, .int (0 : Int32)), (3, .int v6), (0, .ref h0), (1, .int x1), (2, .int x2)]) hx hb dX2_whereItBreaksOff_38 hl (by decide) rfl (fun ls hl => ?_)
            refine lv_iload hx hb dX2_whereItBreaksOff_40 (lv_at hl 0 rfl) ?_
            refine lv_if_ne (tgt := 63) hx hb dX2_whereItBreaksOff_42 (by decide) (fun c9 => absurd c9 (by decide)) (fun _ => ?_)
            refine lv_iload_n hx hb dX2_whereItBreaksOff_45 rfl (lv_at hl 3 rfl) ?_
            refine lv_if_ne (tgt := 61) hx hb dX2_whereItBreaksOff_46 (by decide) (fun c15 => ?_) (fun c15 => ?_)
            · rw [if_neg c15] at hN
              refine lv_iload_n hx hb dX2_whereItBreaksOff_61 rfl (lv_at hl 4 rfl) ?_
              exact k_iretR hx hb hr (Option.some.inj hN) hP hS hlk dX2_whereItBreaksOff_62
            · rw [if_pos c15] at hN
              refine lv_iload_n hx hb dX2_whereItBreaksOff_49 rfl (lv_at hl 1 rfl) ?_
              refine lv_bipush (v := 45) hx hb dX2_whereItBreaksOff_50 (by decide) ?_
              refine lv_icmp_eq (tgt := 63) hx hb dX2_whereItBreaksOff_52 (by decide) (fun c16 => ?_) (fun c16 => ?_)
              · rw [if_pos c16] at hN
                refine lv_iload_n hx hb dX2_whereItBreaksOff_63 rfl (lv_at hl 1 rfl) ?_
                refine lv_bipush (v := 45) hx hb dX2_whereItBreaksOff_64 (by decide) ?_
                refine lv_icmp_ne (tgt := 73) hx hb dX2_whereItBreaksOff_66 (by decide) (fun c17 => ?_) (fun c17 => ?_)
                · rw [if_neg c17] at hN
                  refine lv_iconst (v := 0) hx hb dX2_whereItBreaksOff_73 (by decide) ?_
                  refine lv_istore_n (lv' := [(1, .int (0 : Int32)), (4, .int (0 : Int32)), (3, .int v6), (0, .ref h0), (2, .int x2)]) hx hb dX2_whereItBreaksOff_74 rfl hl (by decide) rfl (fun ls hl => ?_)
                  refine lv_iinc (v := (x2 + 1)) (lv' := [(2, .int (x2 + 1)), (1, .int (0 : Int32)), (4, .int (0 : Int32)), (3, .int v6), (0, .ref h0)]) hx hb dX2_whereItBreaksOff_75 hl (k := 4) rfl rfl (by decide) rfl (fun ls hl => ?_)
                  refine lv_goto (tgt := 4) hx hb dX2_whereItBreaksOff_78 (by decide) ?_
                  exact ih (0 : Int32) (x2 + 1)  _ _ _ hP hS (lv_sub hl [4, 1, 0] rfl) hN
                · rw [if_pos c17] at hN
                  refine lv_iconst (v := 1) hx hb dX2_whereItBreaksOff_69 (by decide) ?_
                  refine lv_goto (tgt := 74) hx hb dX2_whereItBreaksOff_70 (by decide) ?_
                  refine lv_istore_n (lv' := [(1, .int (1 : Int32)), (4, .int (0 : Int32)), (3, .int v6), (0, .ref h0), (2, .int x2)]) hx hb dX2_whereItBreaksOff_74 rfl hl (by decide) rfl (fun ls hl => ?_)
                  refine lv_iinc (v := (x2 + 1)) (lv' := [(2, .int (x2 + 1)), (1, .int (1 : Int32)), (4, .int (0 : Int32)), (3, .int v6), (0, .ref h0)]) hx hb dX2_whereItBreaksOff_75 hl (k := 4) rfl rfl (by decide) rfl (fun ls hl => ?_)
                  refine lv_goto (tgt := 4) hx hb dX2_whereItBreaksOff_78 (by decide) ?_
                  exact ih (1 : Int32) (x2 + 1)  _ _ _ hP hS (lv_sub hl [4, 1, 0] rfl) hN
              · rw [if_neg c16] at hN
                refine lv_iload_n hx hb dX2_whereItBreaksOff_55 rfl (lv_at hl 1 rfl) ?_
                refine lv_bipush (v := 59) hx hb dX2_whereItBreaksOff_56 (by decide) ?_
                refine lv_icmp_eq (tgt := 63) hx hb dX2_whereItBreaksOff_58 (by decide) (fun c18 => ?_) (fun c18 => ?_)
                · rw [if_pos c18] at hN
                  refine lv_iload_n hx hb dX2_whereItBreaksOff_63 rfl (lv_at hl 1 rfl) ?_
                  refine lv_bipush (v := 45) hx hb dX2_whereItBreaksOff_64 (by decide) ?_
                  refine lv_icmp_ne (tgt := 73) hx hb dX2_whereItBreaksOff_66 (by decide) (fun c19 => ?_) (fun c19 => ?_)
                  · rw [if_neg c19] at hN
                    refine lv_iconst (v := 0) hx hb dX2_whereItBreaksOff_73 (by decide) ?_
                    refine lv_istore_n (lv' := [(1, .int (0 : Int32)), (4, .int (0 : Int32)), (3, .int v6), (0, .ref h0), (2, .int x2)]) hx hb dX2_whereItBreaksOff_74 rfl hl (by decide) rfl (fun ls hl => ?_)
                    refine lv_iinc (v := (x2 + 1)) (lv' := [(2, .int (x2 + 1)), (1, .int (0 : Int32)), (4, .int (0 : Int32)), (3, .int v6), (0, .ref h0)]) hx hb dX2_whereItBreaksOff_75 hl (k := 4) rfl rfl (by decide) rfl (fun ls hl => ?_)
                    refine lv_goto (tgt := 4) hx hb dX2_whereItBreaksOff_78 (by decide) ?_
                    exact ih (0 : Int32) (x2 + 1)  _ _ _ hP hS (lv_sub hl [4, 1, 0] rfl) hN
                  · rw [if_pos c19] at hN
                    refine lv_iconst (v := 1) hx hb dX2_whereItBreaksOff_69 (by decide) ?_
                    refine lv_goto (tgt := 74) hx hb dX2_whereItBreaksOff_70 (by decide) ?_
                    refine lv_istore_n (lv' := [(1, .int (1 : Int32)), (4, .int (0 : Int32)), (3, .int v6), (0, .ref h0), (2, .int x2)]) hx hb dX2_whereItBreaksOff_74 rfl hl (by decide) rfl (fun ls hl => ?_)
                    refine lv_iinc (v := (x2 + 1)) (lv' := [(2, .int (x2 + 1)), (1, .int (1 : Int32)), (4, .int (0 : Int32)), (3, .int v6), (0, .ref h0)]) hx hb dX2_whereItBreaksOff_75 hl (k := 4) rfl rfl (by decide) rfl (fun ls hl => ?_)
                    refine lv_goto (tgt := 4) hx hb dX2_whereItBreaksOff_78 (by decide) ?_
                    exact ih (1 : Int32) (x2 + 1)  _ _ _ hP hS (lv_sub hl [4, 1, 0] rfl) hN
                · rw [if_neg c18] at hN
                  refine lv_iload_n hx hb dX2_whereItBreaksOff_61 rfl (lv_at hl 4 rfl) ?_
                  exact k_iretR hx hb hr (Option.some.inj hN) hP hS hlk dX2_whereItBreaksOff_62
          · rw [if_neg c14] at hN
            refine lv_iconst (v := 1) hx hb dX2_whereItBreaksOff_33 (by decide) ?_
            refine lv_goto (tgt := 38) hx hb dX2_whereItBreaksOff_34 (by decide) ?_
            refine lv_istore (lv' := [(4, .int (1 : Int32)), (3, .int v6), (0, .ref h0), (1, .int x1), (2, .int x2)]) hx hb dX2_whereItBreaksOff_38 hl (by decide) rfl (fun ls hl => ?_)
            refine lv_iload hx hb dX2_whereItBreaksOff_40 (lv_at hl 0 rfl) ?_
            refine lv_if_ne (tgt := 63) hx hb dX2_whereItBreaksOff_42 (by decide) (fun _ => ?_) (fun c9 => absurd c9 (by decide))
            refine lv_iload_n hx hb dX2_whereItBreaksOff_63 rfl (lv_at hl 1 rfl) ?_
            refine lv_bipush (v := 45) hx hb dX2_whereItBreaksOff_64 (by decide) ?_
            refine lv_icmp_ne (tgt := 73) hx hb dX2_whereItBreaksOff_66 (by decide) (fun c20 => ?_) (fun c20 => ?_)
            · rw [if_neg c20] at hN
              refine lv_iconst (v := 0) hx hb dX2_whereItBreaksOff_73 (by decide) ?_
              refine lv_istore_n (lv' := [(1, .int (0 : Int32)), (4, .int (1 : Int32)), (3, .int v6), (0, .ref h0), (2, .int x2)]) hx hb dX2_whereItBreaksOff_74 rfl hl (by decide) rfl (fun ls hl => ?_)
              refine lv_iinc (v := (x2 + 1)) (lv' := [(2, .int (x2 + 1)), (1, .int (0 : Int32)), (4, .int (1 : Int32)), (3, .int v6), (0, .ref h0)]) hx hb dX2_whereItBreaksOff_75 hl (k := 4) rfl rfl (by decide) rfl (fun ls hl => ?_)
              refine lv_goto (tgt := 4) hx hb dX2_whereItBreaksOff_78 (by decide) ?_
              exact ih (0 : Int32) (x2 + 1)  _ _ _ hP hS (lv_sub hl [4, 1, 0] rfl) hN
            · rw [if_pos c20] at hN
              refine lv_iconst (v := 1) hx hb dX2_whereItBreaksOff_69 (by decide) ?_
              refine lv_goto (tgt := 74) hx hb dX2_whereItBreaksOff_70 (by decide) ?_
              refine lv_istore_n (lv' := [(1, .int (1 : Int32)), (4, .int (1 : Int32)), (3, .int v6), (0, .ref h0), (2, .int x2)]) hx hb dX2_whereItBreaksOff_74 rfl hl (by decide) rfl (fun ls hl => ?_)
              refine lv_iinc (v := (x2 + 1)) (lv' := [(2, .int (x2 + 1)), (1, .int (1 : Int32)), (4, .int (1 : Int32)), (3, .int v6), (0, .ref h0)]) hx hb dX2_whereItBreaksOff_75 hl (k := 4) rfl rfl (by decide) rfl (fun ls hl => ?_)
              refine lv_goto (tgt := 4) hx hb dX2_whereItBreaksOff_78 (by decide) ?_
              exact ih (1 : Int32) (x2 + 1)  _ _ _ hP hS (lv_sub hl [4, 1, 0] rfl) hN
  have hl := lv_entry ([.ref h0]) (n := 5) (Nat.le_of_ble_eq_true rfl)
  rw [lg_entry_eq]
  generalize (lg_sl ([.ref h0]) ++ List.replicate (5 - (lg_sl ([.ref h0])).length) Slot.unset).toArray = ls at hl ⊢
  have hl : lv_has ls 5 [(0, .ref h0)] := hl
  have hN := hF
  unfold F_X2_whereItBreaksOff at hN
  refine lv_iconst (v := 0) hx hb dX2_whereItBreaksOff_0 (by decide) ?_
  refine lv_istore_n (lv' := [(1, .int (0 : Int32)), (0, .ref h0)]) hx hb dX2_whereItBreaksOff_1 rfl hl (by decide) rfl (fun ls hl => ?_)
  refine lv_iconst (v := 0) hx hb dX2_whereItBreaksOff_2 (by decide) ?_
  refine lv_istore_n (lv' := [(2, .int (0 : Int32)), (1, .int (0 : Int32)), (0, .ref h0)]) hx hb dX2_whereItBreaksOff_3 rfl hl (by decide) rfl (fun ls hl => ?_)
  exact lp4 fuel (0 : Int32) (0 : Int32)  _ _ _ hP hS (lv_sub hl [2, 1, 0] rfl) hN
set_option maxHeartbeats 4000000 in
set_option maxRecDepth 100000 in
theorem c_X2_startOfClause (l : Launch) (g : Gm) (L : List Nat) {A : Nat → Prop} (hL : kL L A) (G : Nat → va_E) (h0 : Nat) (r : Nat → Nat) (u : St) (hV : vT g L G h0 r u) (p0 : Int32) (v : Int32) (hF : F_X2_startOfClause u p0 = some v) : Met l yX2_startOfClause wsX2_startOfClause ({ frames := 1, cells := 0, slots := 0, locals := 21 } : Room) (va_Pc [.ref h0, .int p0] (kB g L A G)) (va_Qi (fun x9 (G9 : Nat → va_E) => x9 = v ∧ G9 = G) (kE g L) A) 0 0 A := by
  refine Met.ofW (cc := cX2_startOfClause) (maxL := 3) (ret := (some .int)) (by decide) rfl ?_
  intro p e s m args below meth c s₁ B hml hv
  obtain ⟨rfl, hP, hC⟩ := hv
  have hx := B.exec
  have hb := B.bytes
  have hr := B.returns
  have hts := atoms_spec (ws := wsX2_startOfClause) B.pre
  have hown : s.vm.findClass RX2 = some m.cls := findClass_of_methodNamed B.named
  have hlk := B.notSynchronized
  have hS : va_S A s.heap s.heap [] := va_S.rf
  have lp4 : ∀ (n : Nat) (x2 : Int32) (H : Heap) (locs : List Loc) (ls : Array Slot), va_P g.1 vwCl (va_pl L G) H → va_S A s.heap H locs → lv_has ls 3 [(0, .ref h0), (2, .int x2)] → FL_X2_startOfClause_4 u n x2 = some v → W p l e (headSpec wsX2_startOfClause ({ frames := 1, cells := 0, slots := 0, locals := 21 } : Room)).room s m ([.ref h0, .int p0] : List Value).toArray below meth c H locs 0 0 (MQ below (va_Qi (fun x9 (G9 : Nat → va_E) => x9 = v ∧ G9 = G) (kE g L) A) ([.ref h0, .int p0] : List Value).toArray s 0 0 A) (F0 m 4 ls []) := by
    intro n
    induction n with
    | zero =>
      intro x2 H locs ls hP hS hl hN
      exact absurd hN (by simp [FL_X2_startOfClause_4])
    | succ n ih =>
      intro x2 H locs ls hP hS hl hN
      rw [FL_X2_startOfClause_4] at hN
      refine lv_iload_n hx hb dX2_startOfClause_4 rfl (lv_at hl 1 rfl) ?_
      refine lv_if_lt (tgt := 31) hx hb dX2_startOfClause_5 (by decide) (fun c1 => ?_) (fun c1 => ?_)
      · rw [if_pos c1] at hN
        refine lv_iconst (v := 0) hx hb dX2_startOfClause_31 (by decide) ?_
        exact k_iretR hx hb hr (Option.some.inj hN) hP hS hlk dX2_startOfClause_32
      · rw [if_neg c1] at hN
        refine lv_aload_n hx hb dX2_startOfClause_8 rfl (lv_at hl 0 rfl) ?_
        refine k_get (C := RX2) (T := TX2) (N := 2) (ci := 2) (v := .ref (r 0)) hx hb hts (fun _ h => List.mem_cons_of_mem _ (List.mem_append_right _ h)) hown hC hP (vO.m hV) (vO.o hV) rfl 0 (by decide) (hts (.fieldLink RX2 9 "OrderedClauses$Text" "characters" "[I") (List.mem_of_getElem? (i := 1) rfl)) rfl dX2_startOfClause_9 ?_
        refine lv_iload_n hx hb dX2_startOfClause_12 rfl (lv_at hl 1 rfl) ?_
        obtain ⟨v2, hv2, hN⟩ := oB_spec hN
        refine k_iR hS (va_runSN (As := [.ref (r 0), .int x2]) (rest := []) ⟨hx, hb, hml, hown, hts⟩ (c_X3_at l g L hL G (r 0) (u.1 0) (lnT 0) (vO.rm hV 0 (by decide)) (vO.ri hV 0 (by decide)) x2 v2 hv2) ⟨va_cnB 2 hts gX2_startOfClause_X3_at_n23 rfl rfl rfl (hC.2.1.2 (RX2, 23, yX3_at, RX3) (List.mem_of_getElem? (i := 36) rfl)) (hts (.initialized RX3) (List.mem_of_getElem? (i := 3) rfl)) (by decide +kernel) ⟨Nat.le_of_ble_eq_true rfl, Nat.le_of_ble_eq_true rfl⟩, (hts (.static yX3_at) (List.mem_of_getElem? (i := 2) rfl)), trivial⟩ (k_pre hC hS hP) rfl rfl hl.1 rfl (lv_room (Nat.le_of_ble_eq_true rfl)) dX2_startOfClause_13 ⟨Nat.zero_le _, Nat.zero_le _⟩) (fun H locs hP hS => ?_)
        refine lv_bipush (v := 59) hx hb dX2_startOfClause_16 (by decide) ?_
        refine lv_icmp_ne (tgt := 25) hx hb dX2_startOfClause_18 (by decide) (fun c4 => ?_) (fun c4 => ?_)
        · rw [if_neg c4] at hN
          refine lv_iinc (v := (x2 - 1)) (lv' := [(2, .int (x2 - 1)), (0, .ref h0)]) hx hb dX2_startOfClause_25 hl (k := 1) rfl (by rw [Int32.sub_eq_add_neg]; rfl) (by decide) rfl (fun ls hl => ?_)
          refine lv_goto (tgt := 4) hx hb dX2_startOfClause_28 (by decide) ?_
          exact ih (x2 - 1)  _ _ _ hP hS (lv_sub hl [1, 0] rfl) hN
        · rw [if_pos c4] at hN
          refine lv_iload_n hx hb dX2_startOfClause_21 rfl (lv_at hl 1 rfl) ?_
          refine lv_iconst (v := 1) hx hb dX2_startOfClause_22 (by decide) ?_
          refine lv_iadd hx hb dX2_startOfClause_23 ?_
          exact k_iretR hx hb hr (Option.some.inj hN) hP hS hlk dX2_startOfClause_24
  have hl := lv_entry ([.ref h0, .int p0]) (n := 3) (Nat.le_of_ble_eq_true rfl)
  rw [lg_entry_eq]
  generalize (lg_sl ([.ref h0, .int p0]) ++ List.replicate (3 - (lg_sl ([.ref h0, .int p0])).length) Slot.unset).toArray = ls at hl ⊢
  have hl : lv_has ls 3 [(0, .ref h0), (1, .int p0)] := hl
  have hN := hF
  unfold F_X2_startOfClause at hN
  refine lv_iload_n hx hb dX2_startOfClause_0 rfl (lv_at hl 1 rfl) ?_
  refine lv_iconst (v := 1) hx hb dX2_startOfClause_1 (by decide) ?_
  refine lv_isub hx hb dX2_startOfClause_2 ?_
  refine lv_istore_n (lv' := [(2, .int (p0 - (1 : Int32))), (0, .ref h0), (1, .int p0)]) hx hb dX2_startOfClause_3 rfl hl (by decide) rfl (fun ls hl => ?_)
  exact lp4 fuel (p0 - (1 : Int32))  _ _ _ hP hS (lv_sub hl [1, 0] rfl) hN
