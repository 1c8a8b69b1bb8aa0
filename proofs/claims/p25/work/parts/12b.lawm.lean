/-! Each method meets its partial function: printed by program (wip/p25/gen.py) -/
set_option maxHeartbeats 4000000 in
set_option maxRecDepth 100000 in
theorem c_L_low (l : Launch) (g : Gm) (L : List Nat) {A : Nat → Prop} (hL : kL L A) (G : Nat → va_E) (p0 : Int32) (p1 : Int32) (v : Int32) (hF : F_L_low p0 p1 = some v) : Met l yL_low wsL_low ({ frames := 0, cells := 0, slots := 0, locals := 0 } : Room) (va_Pc [.int p0, .int p1] (kB g L A G)) (va_Qi (fun x9 (G9 : Nat → va_E) => x9 = v ∧ G9 = G) (kE g L) A) 0 0 A := by
  refine Met.ofW (cc := cL_low) (maxL := 2) (ret := (some .int)) (by decide) rfl ?_
  intro p e s m args below meth c s₁ B hml hv
  obtain ⟨rfl, hP, hC⟩ := hv
  have hx := B.exec
  have hb := B.bytes
  have hr := B.returns
  have hts := atoms_spec (ws := wsL_low) B.pre
  have hown : s.vm.findClass RL = some m.cls := findClass_of_methodNamed B.named
  have hlk := B.notSynchronized
  have hS : va_S A s.heap s.heap [] := va_S.rf
  have hl := lv_entry ([.int p0, .int p1]) (n := 2) (Nat.le_of_ble_eq_true rfl)
  rw [lg_entry_eq]
  generalize (lg_sl ([.int p0, .int p1]) ++ List.replicate (2 - (lg_sl ([.int p0, .int p1])).length) Slot.unset).toArray = ls at hl ⊢
  have hl : lv_has ls 2 [(0, .int p0), (1, .int p1)] := hl
  have hN := hF
  unfold F_L_low at hN
  refine lv_iload_n hx hb dL_low_0 rfl (lv_at hl 0 rfl) ?_
  refine lv_ldc (v := 2147483647) hx hb hown (hts (.constant RL 8 (2147483647)) (List.mem_of_getElem? (i := 1) rfl)) dL_low_1 ?_
  refine lv_iand hx hb dL_low_3 ?_
  refine lv_iload_n hx hb dL_low_4 rfl (lv_at hl 1 rfl) ?_
  obtain ⟨v1, hv1, hN⟩ := oB_spec hN
  refine lv_iremE hx hb dL_low_5 hv1 ?_
  exact k_iretR hx hb hr (Option.some.inj hN) hP hS hlk dL_low_6
set_option maxHeartbeats 4000000 in
set_option maxRecDepth 100000 in
theorem c_L_digest (l : Launch) (g : Gm) (L : List Nat) {A : Nat → Prop} (hL : kL L A) (G : Nat → va_E) (ad : Nat → Nat) (x : XS) (hX : vX g L G ad x) (v : Int64) (hF : F_L_digest x = some v) : Met l yL_digest wsL_digest ({ frames := 5, cells := 0, slots := 0, locals := 113 } : Room) (va_Pc [.ref (ad 0)] (kB g L A G)) (va_Ql (fun x9 (G9 : Nat → va_E) => x9 = v ∧ G9 = G) (kE g L) A) 0 0 A := by
  refine Met.ofW (cc := cL_digest) (maxL := 4) (ret := (some .long)) (by decide) rfl ?_
  intro p e s m args below meth c s₁ B hml hv
  obtain ⟨rfl, hP, hC⟩ := hv
  have hx := B.exec
  have hb := B.bytes
  have hr := B.returns
  have hts := atoms_spec (ws := wsL_digest) B.pre
  have hown : s.vm.findClass RL = some m.cls := findClass_of_methodNamed B.named
  have hlk := B.notSynchronized
  have hS : va_S A s.heap s.heap [] := va_S.rf
  have lp49 : ∀ (n : Nat) (x1 : Int64) (x3 : Int32) (H : Heap) (locs : List Loc) (ls : Array Slot), va_P g.1 vwCl (va_pl L G) H → va_S A s.heap H locs → lv_has ls 4 [(0, .ref (ad 0)), (1, .long x1), (3, .int x3)] → FL_L_digest_49 x n x1 x3 = some v → W p l e (headSpec wsL_digest ({ frames := 5, cells := 0, slots := 0, locals := 113 } : Room)).room s m ([.ref (ad 0)] : List Value).toArray below meth c H locs 0 0 (MQ below (va_Ql (fun x9 (G9 : Nat → va_E) => x9 = v ∧ G9 = G) (kE g L) A) ([.ref (ad 0)] : List Value).toArray s 0 0 A) (F0 m 49 ls []) := by
    intro n
    induction n with
    | zero =>
      intro x1 x3 H locs ls hP hS hl hN
      exact absurd hN (by simp [FL_L_digest_49])
    | succ n ih =>
      intro x1 x3 H locs ls hP hS hl hN
      rw [FL_L_digest_49] at hN
      refine lv_iload_n hx hb dL_digest_49 rfl (lv_at hl 2 rfl) ?_
      refine lv_aload_n hx hb dL_digest_50 rfl (lv_at hl 0 rfl) ?_
      refine lv_iconst (v := 0) hx hb dL_digest_51 (by decide) ?_
      obtain ⟨v2, hv2, hN⟩ := oB_spec hN
      refine k_iR hS (va_runV (As := [.int (0 : Int32)]) (rest := [.int x3]) ⟨hx, hb, hml, hown, hts⟩ (c_X3_count l g L hL G ad (x.1, x.2.1, x.2.2.1, x.2.2.2.1, x.2.2.2.2) hX (0 : Int32) v2 hv2) (cwV 1 hts gL_digest_X3_count rfl rfl rfl (by decide +kernel) ⟨Nat.le_of_ble_eq_true rfl, Nat.le_of_ble_eq_true rfl⟩) (k_preV (C := RX3) (T := TX3) (N := 3) hC hS hP (hX.m 0 (by omega)) hX.o0 rfl) rfl rfl hl.1 rfl (lv_room (Nat.le_of_ble_eq_true rfl)) dL_digest_52 ⟨Nat.zero_le _, Nat.zero_le _⟩) (fun H locs hP hS => ?_)
      refine lv_icmp_ge (tgt := 114) hx hb dL_digest_55 (by decide) (fun c4 => ?_) (fun c4 => ?_)
      · rw [if_pos c4] at hN
        refine lv_ldc2 (v := 31) hx hb hown (hts (.constantLong RL 11 (31)) (List.mem_of_getElem? (i := 2) rfl)) dL_digest_114 ?_
        refine lv_lload_n hx hb dL_digest_117 rfl (lv_at hl 1 rfl) ?_
        refine lv_lmul hx hb dL_digest_118 ?_
        refine lv_aload_n hx hb dL_digest_119 rfl (lv_at hl 0 rfl) ?_
        obtain ⟨v5, hv5, hN⟩ := oB_spec hN
        refine k_iR hS (va_runV (As := []) (rest := [.long ((31 : Int64) * x1)]) ⟨hx, hb, hml, hown, hts⟩ (c_X3_models l g L hL G ad (x.1, x.2.1, x.2.2.1, x.2.2.2.1, x.2.2.2.2) hX v5 hv5) (cwV 0 hts gL_digest_X3_models rfl rfl rfl (by decide +kernel) ⟨Nat.le_of_ble_eq_true rfl, Nat.le_of_ble_eq_true rfl⟩) (k_preV (C := RX3) (T := TX3) (N := 3) hC hS hP (hX.m 0 (by omega)) hX.o0 rfl) rfl rfl hl.1 rfl (lv_room (Nat.le_of_ble_eq_true rfl)) dL_digest_120 ⟨Nat.zero_le _, Nat.zero_le _⟩) (fun H locs hP hS => ?_)
        refine lv_i2l hx hb dL_digest_123 rfl ?_
        refine lv_ladd hx hb dL_digest_124 ?_
        exact k_lretR hx hb hr (Option.some.inj hN) hP hS hlk dL_digest_125
      · rw [if_neg c4] at hN
        refine lv_ldc2 (v := 31) hx hb hown (hts (.constantLong RL 11 (31)) (List.mem_of_getElem? (i := 2) rfl)) dL_digest_58 ?_
        refine lv_lload_n hx hb dL_digest_61 rfl (lv_at hl 1 rfl) ?_
        refine lv_lmul hx hb dL_digest_62 ?_
        refine lv_aload_n hx hb dL_digest_63 rfl (lv_at hl 0 rfl) ?_
        refine lv_iload_n hx hb dL_digest_64 rfl (lv_at hl 2 rfl) ?_
        refine lv_iconst (v := 0) hx hb dL_digest_65 (by decide) ?_
        obtain ⟨v7, hv7, hN⟩ := oB_spec hN
        refine k_iR hS (va_runV (As := [.int x3, .int (0 : Int32)]) (rest := [.long ((31 : Int64) * x1)]) ⟨hx, hb, hml, hown, hts⟩ (c_X3_clauseOf l g L hL G ad (x.1, x.2.1, x.2.2.1, x.2.2.2.1, x.2.2.2.2) hX x3 (0 : Int32) v7 hv7) (cwV 2 hts gL_digest_X3_clauseOf rfl rfl rfl (by decide +kernel) ⟨Nat.le_of_ble_eq_true rfl, Nat.le_of_ble_eq_true rfl⟩) (k_preV (C := RX3) (T := TX3) (N := 3) hC hS hP (hX.m 0 (by omega)) hX.o0 rfl) rfl rfl hl.1 rfl (lv_room (Nat.le_of_ble_eq_true rfl)) dL_digest_66 ⟨Nat.zero_le _, Nat.zero_le _⟩) (fun H locs hP hS => ?_)
        refine lv_i2l hx hb dL_digest_69 rfl ?_
        refine lv_ladd hx hb dL_digest_70 ?_
        refine lv_ldc2 (v := 4096) hx hb hown (hts (.constantLong RL 23 (4096)) (List.mem_of_getElem? (i := 3) rfl)) dL_digest_71 ?_
        refine lv_aload_n hx hb dL_digest_74 rfl (lv_at hl 0 rfl) ?_
        refine lv_iload_n hx hb dL_digest_75 rfl (lv_at hl 2 rfl) ?_
        refine lv_iconst (v := 1) hx hb dL_digest_76 (by decide) ?_
        obtain ⟨v9, hv9, hN⟩ := oB_spec hN
        refine k_iR hS (va_runV (As := [.int x3, .int (1 : Int32)]) (rest := [.long (4096 : Int64), .long (((31 : Int64) * x1) + (Int32.toInt64 v7))]) ⟨hx, hb, hml, hown, hts⟩ (c_X3_clauseOf l g L hL G ad (x.1, x.2.1, x.2.2.1, x.2.2.2.1, x.2.2.2.2) hX x3 (1 : Int32) v9 hv9) (cwV 2 hts gL_digest_X3_clauseOf rfl rfl rfl (by decide +kernel) ⟨Nat.le_of_ble_eq_true rfl, Nat.le_of_ble_eq_true rfl⟩) (k_preV (C := RX3) (T := TX3) (N := 3) hC hS hP (hX.m 0 (by omega)) hX.o0 rfl) rfl rfl hl.1 rfl (lv_room (Nat.le_of_ble_eq_true rfl)) dL_digest_77 ⟨Nat.zero_le _, Nat.zero_le _⟩) (fun H locs hP hS => ?_)
        refine lv_i2l hx hb dL_digest_80 rfl ?_
        refine lv_lmul hx hb dL_digest_81 ?_
        refine lv_ladd hx hb dL_digest_82 ?_
        refine lv_ldc2 (v := 3) hx hb hown (hts (.constantLong RL 25 (3)) (List.mem_of_getElem? (i := 4) rfl)) dL_digest_83 ?_
        refine lv_aload_n hx hb dL_digest_86 rfl (lv_at hl 0 rfl) ?_
        refine lv_iload_n hx hb dL_digest_87 rfl (lv_at hl 2 rfl) ?_
        refine lv_iconst (v := 3) hx hb dL_digest_88 (by decide) ?_
        obtain ⟨v11, hv11, hN⟩ := oB_spec hN
        refine k_iR hS (va_runV (As := [.int x3, .int (3 : Int32)]) (rest := [.long (3 : Int64), .long ((((31 : Int64) * x1) + (Int32.toInt64 v7)) + ((4096 : Int64) * (Int32.toInt64 v9)))]) ⟨hx, hb, hml, hown, hts⟩ (c_X3_clauseOf l g L hL G ad (x.1, x.2.1, x.2.2.1, x.2.2.2.1, x.2.2.2.2) hX x3 (3 : Int32) v11 hv11) (cwV 2 hts gL_digest_X3_clauseOf rfl rfl rfl (by decide +kernel) ⟨Nat.le_of_ble_eq_true rfl, Nat.le_of_ble_eq_true rfl⟩) (k_preV (C := RX3) (T := TX3) (N := 3) hC hS hP (hX.m 0 (by omega)) hX.o0 rfl) rfl rfl hl.1 rfl (lv_room (Nat.le_of_ble_eq_true rfl)) dL_digest_89 ⟨Nat.zero_le _, Nat.zero_le _⟩) (fun H locs hP hS => ?_)
        refine lv_i2l hx hb dL_digest_92 rfl ?_
        refine lv_lmul hx hb dL_digest_93 ?_
        refine lv_ladd hx hb dL_digest_94 ?_
        refine lv_ldc2 (v := 7) hx hb hown (hts (.constantLong RL 27 (7)) (List.mem_of_getElem? (i := 5) rfl)) dL_digest_95 ?_
        refine lv_aload_n hx hb dL_digest_98 rfl (lv_at hl 0 rfl) ?_
        refine lv_iload_n hx hb dL_digest_99 rfl (lv_at hl 2 rfl) ?_
        refine lv_iconst (v := 4) hx hb dL_digest_100 (by decide) ?_
        obtain ⟨v13, hv13, hN⟩ := oB_spec hN
        refine k_iR hS (va_runV (As := [.int x3, .int (4 : Int32)]) (rest := [.long (7 : Int64), .long (((((31 : Int64) * x1) + (Int32.toInt64 v7)) + ((4096 : Int64) * (Int32.toInt64 v9))) + ((3 : Int64) * (Int32.toInt64 v11)))]) ⟨hx, hb, hml, hown, hts⟩ (c_X3_clauseOf l g L hL G ad (x.1, x.2.1, x.2.2.1, x.2.2.2.1, x.2.2.2.2) hX x3 (4 : Int32) v13 hv13) (cwV 2 hts gL_digest_X3_clauseOf rfl rfl rfl (by decide +kernel) ⟨Nat.le_of_ble_eq_true rfl, Nat.le_of_ble_eq_true rfl⟩) (k_preV (C := RX3) (T := TX3) (N := 3) hC hS hP (hX.m 0 (by omega)) hX.o0 rfl) rfl rfl hl.1 rfl (lv_room (Nat.le_of_ble_eq_true rfl)) dL_digest_101 ⟨Nat.zero_le _, Nat.zero_le _⟩) (fun H locs hP hS => ?_)
        refine lv_i2l hx hb dL_digest_104 rfl ?_
        refine lv_lmul hx hb dL_digest_105 ?_
        refine lv_ladd hx hb dL_digest_106 ?_
        refine lv_lstore_n (lv' := [(1, .long ((((((31 : Int64) * x1) + (Int32.toInt64 v7)) + ((4096 : Int64) * (Int32.toInt64 v9))) + ((3 : Int64) * (Int32.toInt64 v11))) + ((7 : Int64) * (Int32.toInt64 v13)))), (0, .ref (ad 0)), (3, .int x3)]) hx hb dL_digest_107 rfl hl (by decide) rfl (fun ls hl => ?_)
        refine lv_iinc (v := (x3 + 1)) (lv' := [(3, .int (x3 + 1)), (1, .long ((((((31 : Int64) * x1) + (Int32.toInt64 v7)) + ((4096 : Int64) * (Int32.toInt64 v9))) + ((3 : Int64) * (Int32.toInt64 v11))) + ((7 : Int64) * (Int32.toInt64 v13)))), (0, .ref (ad 0))]) hx hb dL_digest_108 hl (k := 2) rfl rfl (by decide) rfl (fun ls hl => ?_)
        refine lv_goto (tgt := 49) hx hb dL_digest_111 (by decide) ?_
        exact ih ((((((31 : Int64) * x1) + (Int32.toInt64 v7)) + ((4096 : Int64) * (Int32.toInt64 v9))) + ((3 : Int64) * (Int32.toInt64 v11))) + ((7 : Int64) * (Int32.toInt64 v13))) (x3 + 1)  _ _ _ hP hS (lv_sub hl [2, 1, 0] rfl) hN
  have lp6 : ∀ (n : Nat) (x1 : Int64) (x3 : Int32) (H : Heap) (locs : List Loc) (ls : Array Slot), va_P g.1 vwCl (va_pl L G) H → va_S A s.heap H locs → lv_has ls 4 [(0, .ref (ad 0)), (1, .long x1), (3, .int x3)] → FL_L_digest_6 x n x1 x3 = some v → W p l e (headSpec wsL_digest ({ frames := 5, cells := 0, slots := 0, locals := 113 } : Room)).room s m ([.ref (ad 0)] : List Value).toArray below meth c H locs 0 0 (MQ below (va_Ql (fun x9 (G9 : Nat → va_E) => x9 = v ∧ G9 = G) (kE g L) A) ([.ref (ad 0)] : List Value).toArray s 0 0 A) (F0 m 6 ls []) := by
    intro n
    induction n with
    | zero =>
      intro x1 x3 H locs ls hP hS hl hN
      exact absurd hN (by simp [FL_L_digest_6])
    | succ n ih =>
      intro x1 x3 H locs ls hP hS hl hN
      rw [FL_L_digest_6] at hN
      refine lv_iload_n hx hb dL_digest_6 rfl (lv_at hl 2 rfl) ?_
      refine lv_bipush (v := 16) hx hb dL_digest_7 (by decide) ?_
      refine lv_icmp_ge (tgt := 47) hx hb dL_digest_9 (by decide) (fun c1 => ?_) (fun c1 => ?_)
      · rw [if_pos c1] at hN
        refine lv_iconst (v := 0) hx hb dL_digest_47 (by decide) ?_
        refine lv_istore_n (lv' := [(3, .int (0 : Int32)), (0, .ref (ad 0)), (1, .long x1)]) hx hb dL_digest_48 rfl hl (by decide) rfl (fun ls hl => ?_)
        exact lp49 fuel x1 (0 : Int32)  _ _ _ hP hS (lv_sub hl [1, 2, 0] rfl) hN
      · rw [if_neg c1] at hN
        refine lv_ldc2 (v := 31) hx hb hown (hts (.constantLong RL 11 (31)) (List.mem_of_getElem? (i := 2) rfl)) dL_digest_12 ?_
        refine lv_lload_n hx hb dL_digest_15 rfl (lv_at hl 1 rfl) ?_
        refine lv_lmul hx hb dL_digest_16 ?_
        refine lv_iload_n hx hb dL_digest_17 rfl (lv_at hl 2 rfl) ?_
        refine lv_bipush (v := 8) hx hb dL_digest_18 (by decide) ?_
        refine lv_icmp_eq (tgt := 29) hx hb dL_digest_20 (by decide) (fun c15 => ?_) (fun c15 => ?_)
        · rw [if_pos c15] at hN
          refine lv_iconst (v := 0) hx hb dL_digest_29 (by decide) ?_
          refine lv_goto (tgt := 38) hx hb dL_digest_30 (by decide) ?_
          refine lv_i2l hx hb dL_digest_38 rfl ?_
          refine lv_ladd hx hb dL_digest_39 ?_
          refine lv_lstore_n (lv' := [(1, .long (((31 : Int64) * x1) + (Int32.toInt64 (0 : Int32)))), (0, .ref (ad 0)), (3, .int x3)]) hx hb dL_digest_40 rfl hl (by decide) rfl (fun ls hl => ?_)
          refine lv_iinc (v := (x3 + 1)) (lv' := [(3, .int (x3 + 1)), (1, .long (((31 : Int64) * x1) + (Int32.toInt64 (0 : Int32)))), (0, .ref (ad 0))]) hx hb dL_digest_41 hl (k := 2) rfl rfl (by decide) rfl (fun ls hl => ?_)
          refine lv_goto (tgt := 6) hx hb dL_digest_44 (by decide) ?_
          exact ih (((31 : Int64) * x1) + (Int32.toInt64 (0 : Int32))) (x3 + 1)  _ _ _ hP hS (lv_sub hl [2, 1, 0] rfl) hN
        · rw [if_neg c15] at hN
          refine lv_iload_n hx hb dL_digest_23 rfl (lv_at hl 2 rfl) ?_
          refine lv_bipush (v := 9) hx hb dL_digest_24 (by decide) ?_
          refine lv_icmp_ne (tgt := 33) hx hb dL_digest_26 (by decide) (fun c16 => ?_) (fun c16 => ?_)
          · rw [if_neg c16] at hN
            refine lv_aload_n hx hb dL_digest_33 rfl (lv_at hl 0 rfl) ?_
            refine lv_iload_n hx hb dL_digest_34 rfl (lv_at hl 2 rfl) ?_
            obtain ⟨v17, hv17, hN⟩ := oB_spec hN
            refine k_iR hS (va_runV (As := [.int x3]) (rest := [.long ((31 : Int64) * x1)]) ⟨hx, hb, hml, hown, hts⟩ (c_X3_count l g L hL G ad (x.1, x.2.1, x.2.2.1, x.2.2.2.1, x.2.2.2.2) hX x3 v17 hv17) (cwV 1 hts gL_digest_X3_count rfl rfl rfl (by decide +kernel) ⟨Nat.le_of_ble_eq_true rfl, Nat.le_of_ble_eq_true rfl⟩) (k_preV (C := RX3) (T := TX3) (N := 3) hC hS hP (hX.m 0 (by omega)) hX.o0 rfl) rfl rfl hl.1 rfl (lv_room (Nat.le_of_ble_eq_true rfl)) dL_digest_35 ⟨Nat.zero_le _, Nat.zero_le _⟩) (fun H locs hP hS => ?_)
            refine lv_i2l hx hb dL_digest_38 rfl ?_
            refine lv_ladd hx hb dL_digest_39 ?_
            refine lv_lstore_n (lv' := [(1, .long (((31 : Int64) * x1) + (Int32.toInt64 v17))), (0, .ref (ad 0)), (3, .int x3)]) hx hb dL_digest_40 rfl hl (by decide) rfl (fun ls hl => ?_)
            refine lv_iinc (v := (x3 + 1)) (lv' := [(3, .int (x3 + 1)), (1, .long (((31 : Int64) * x1) + (Int32.toInt64 v17))), (0, .ref (ad 0))]) hx hb dL_digest_41 hl (k := 2) rfl rfl (by decide) rfl (fun ls hl => ?_)
            refine lv_goto (tgt := 6) hx hb dL_digest_44 (by decide) ?_
            exact ih (((31 : Int64) * x1) + (Int32.toInt64 v17)) (x3 + 1)  _ _ _ hP hS (lv_sub hl [2, 1, 0] rfl) hN
          · rw [if_pos c16] at hN
            refine lv_iconst (v := 0) hx hb dL_digest_29 (by decide) ?_
            refine lv_goto (tgt := 38) hx hb dL_digest_30 (by decide) ?_
            refine lv_i2l hx hb dL_digest_38 rfl ?_
            refine lv_ladd hx hb dL_digest_39 ?_
            refine lv_lstore_n (lv' := [(1, .long (((31 : Int64) * x1) + (Int32.toInt64 (0 : Int32)))), (0, .ref (ad 0)), (3, .int x3)]) hx hb dL_digest_40 rfl hl (by decide) rfl (fun ls hl => ?_)
            refine lv_iinc (v := (x3 + 1)) (lv' := [(3, .int (x3 + 1)), (1, .long (((31 : Int64) * x1) + (Int32.toInt64 (0 : Int32)))), (0, .ref (ad 0))]) hx hb dL_digest_41 hl (k := 2) rfl rfl (by decide) rfl (fun ls hl => ?_)
            refine lv_goto (tgt := 6) hx hb dL_digest_44 (by decide) ?_
            exact ih (((31 : Int64) * x1) + (Int32.toInt64 (0 : Int32))) (x3 + 1)  _ _ _ hP hS (lv_sub hl [2, 1, 0] rfl) hN
  have hl := lv_entry ([.ref (ad 0)]) (n := 4) (Nat.le_of_ble_eq_true rfl)
  rw [lg_entry_eq]
  generalize (lg_sl ([.ref (ad 0)]) ++ List.replicate (4 - (lg_sl ([.ref (ad 0)])).length) Slot.unset).toArray = ls at hl ⊢
  have hl : lv_has ls 4 [(0, .ref (ad 0))] := hl
  have hN := hF
  unfold F_L_digest at hN
  refine lv_ldc2 (v := 43) hx hb hown (hts (.constantLong RL 9 (43)) (List.mem_of_getElem? (i := 1) rfl)) dL_digest_0 ?_
  refine lv_lstore_n (lv' := [(1, .long (43 : Int64)), (0, .ref (ad 0))]) hx hb dL_digest_3 rfl hl (by decide) rfl (fun ls hl => ?_)
  refine lv_iconst (v := 0) hx hb dL_digest_4 (by decide) ?_
  refine lv_istore_n (lv' := [(3, .int (0 : Int32)), (1, .long (43 : Int64)), (0, .ref (ad 0))]) hx hb dL_digest_5 rfl hl (by decide) rfl (fun ls hl => ?_)
  exact lp6 fuel (43 : Int64) (0 : Int32)  _ _ _ hP hS (lv_sub hl [2, 1, 0] rfl) hN
set_option maxHeartbeats 4000000 in
set_option maxRecDepth 100000 in
theorem c_L_holds (l : Launch) (g : Gm) (L : List Nat) {A : Nat → Prop} (hL : kL L A) (G : Nat → va_E) (ad : Nat → Nat) (x : XS) (hX : vX g L G ad x) (v : Int32) (hF : F_L_holds x = some v) : Met l yL_holds wsL_holds ({ frames := 5, cells := 0, slots := 0, locals := 113 } : Room) (va_Pc [.ref (ad 0)] (kB g L A G)) (va_Qi (fun x9 (G9 : Nat → va_E) => x9 = v ∧ G9 = G) (kE g L) A) 0 0 A := by
  refine Met.ofW (cc := cL_holds) (maxL := 12) (ret := (some .boolean)) (by decide) rfl ?_
  intro p e s m args below meth c s₁ B hml hv
  obtain ⟨rfl, hP, hC⟩ := hv
  have hx := B.exec
  have hb := B.bytes
  have hr := B.returns
  have hts := atoms_spec (ws := wsL_holds) B.pre
  have hown : s.vm.findClass RL = some m.cls := findClass_of_methodNamed B.named
  have hlk := B.notSynchronized
  have hS : va_S A s.heap s.heap [] := va_S.rf
  have lp10 : ∀ (n : Nat) (x1 : Int32) (x2 : Int32) (x3 : Int32) (H : Heap) (locs : List Loc) (ls : Array Slot), va_P g.1 vwCl (va_pl L G) H → va_S A s.heap H locs → lv_has ls 12 [(0, .ref (ad 0)), (1, .int x1), (2, .int x2), (3, .int x3)] → FL_L_holds_10 x n x1 x2 x3 = some v → W p l e (headSpec wsL_holds ({ frames := 5, cells := 0, slots := 0, locals := 113 } : Room)).room s m ([.ref (ad 0)] : List Value).toArray below meth c H locs 0 0 (MQ below (va_Qi (fun x9 (G9 : Nat → va_E) => x9 = v ∧ G9 = G) (kE g L) A) ([.ref (ad 0)] : List Value).toArray s 0 0 A) (F0 m 10 ls []) := by
    intro n
    induction n with
    | zero =>
      intro x1 x2 x3 H locs ls hP hS hl hN
      exact absurd hN (by simp [FL_L_holds_10])
    | succ n ih =>
      intro x1 x2 x3 H locs ls hP hS hl hN
      rw [FL_L_holds_10] at hN
      refine lv_iload_n hx hb dL_holds_10 rfl (lv_at hl 3 rfl) ?_
      refine lv_iload_n hx hb dL_holds_11 rfl (lv_at hl 1 rfl) ?_
      refine lv_icmp_ge (tgt := 332) hx hb dL_holds_12 (by decide) (fun c3 => ?_) (fun c3 => ?_)
      · rw [if_pos c3] at hN
        refine lv_aload_n hx hb dL_holds_332 rfl (lv_at hl 0 rfl) ?_
        refine lv_iconst (v := 1) hx hb dL_holds_333 (by decide) ?_
        obtain ⟨v4, hv4, hN⟩ := oB_spec hN
        refine k_iR hS (va_runV (As := [.int (1 : Int32)]) (rest := []) ⟨hx, hb, hml, hown, hts⟩ (c_X3_count l g L hL G ad (x.1, x.2.1, x.2.2.1, x.2.2.2.1, x.2.2.2.2) hX (1 : Int32) v4 hv4) (cwV 1 hts gL_holds_X3_count rfl rfl rfl (by decide +kernel) ⟨Nat.le_of_ble_eq_true rfl, Nat.le_of_ble_eq_true rfl⟩) (k_preV (C := RX3) (T := TX3) (N := 3) hC hS hP (hX.m 0 (by omega)) hX.o0 rfl) rfl rfl hl.1 rfl (lv_room (Nat.le_of_ble_eq_true rfl)) dL_holds_334 ⟨Nat.zero_le _, Nat.zero_le _⟩) (fun H locs hP hS => ?_)
        refine lv_if_gt (tgt := 354) hx hb dL_holds_337 (by decide) (fun c6 => ?_) (fun c6 => ?_)
        · rw [if_pos c6] at hN
          refine lv_iconst (v := 1) hx hb dL_holds_354 (by decide) ?_
          refine lv_goto (tgt := 359) hx hb dL_holds_355 (by decide) ?_
          refine lv_istore_n (lv' := [(3, .int (1 : Int32)), (0, .ref (ad 0)), (1, .int x1), (2, .int x2)]) hx hb dL_holds_359 rfl hl (by decide) rfl (fun ls hl => ?_)
          refine lv_iload_n hx hb dL_holds_360 rfl (lv_at hl 0 rfl) ?_
          refine lv_if_eq (tgt := 439) hx hb dL_holds_361 (by decide) (fun c9 => absurd c9 (by decide)) (fun _ => ?_)
          refine lv_iload_n hx hb dL_holds_364 rfl (lv_at hl 3 rfl) ?_
          refine lv_aload_n hx hb dL_holds_365 rfl (lv_at hl 1 rfl) ?_
          refine lv_iconst (v := 1) hx hb dL_holds_366 (by decide) ?_
          obtain ⟨v7, hv7, hN⟩ := oB_spec hN
          refine k_iR hS (va_runV (As := [.int (1 : Int32)]) (rest := [.int x2]) ⟨hx, hb, hml, hown, hts⟩ (c_X3_count l g L hL G ad (x.1, x.2.1, x.2.2.1, x.2.2.2.1, x.2.2.2.2) hX (1 : Int32) v7 hv7) (cwV 1 hts gL_holds_X3_count rfl rfl rfl (by decide +kernel) ⟨Nat.le_of_ble_eq_true rfl, Nat.le_of_ble_eq_true rfl⟩) (k_preV (C := RX3) (T := TX3) (N := 3) hC hS hP (hX.m 0 (by omega)) hX.o0 rfl) rfl rfl hl.1 rfl (lv_room (Nat.le_of_ble_eq_true rfl)) dL_holds_367 ⟨Nat.zero_le _, Nat.zero_le _⟩) (fun H locs hP hS => ?_)
          refine lv_aload_n hx hb dL_holds_370 rfl (lv_at hl 1 rfl) ?_
          refine lv_iconst (v := 2) hx hb dL_holds_371 (by decide) ?_
          obtain ⟨v9, hv9, hN⟩ := oB_spec hN
          refine k_iR hS (va_runV (As := [.int (2 : Int32)]) (rest := [.int v7, .int x2]) ⟨hx, hb, hml, hown, hts⟩ (c_X3_count l g L hL G ad (x.1, x.2.1, x.2.2.1, x.2.2.2.1, x.2.2.2.2) hX (2 : Int32) v9 hv9) (cwV 1 hts gL_holds_X3_count rfl rfl rfl (by decide +kernel) ⟨Nat.le_of_ble_eq_true rfl, Nat.le_of_ble_eq_true rfl⟩) (k_preV (C := RX3) (T := TX3) (N := 3) hC hS hP (hX.m 0 (by omega)) hX.o0 rfl) rfl rfl hl.1 rfl (lv_room (Nat.le_of_ble_eq_true rfl)) dL_holds_372 ⟨Nat.zero_le _, Nat.zero_le _⟩) (fun H locs hP hS => ?_)
          refine lv_iadd hx hb dL_holds_375 ?_
          refine lv_icmp_ne (tgt := 439) hx hb dL_holds_376 (by decide) (fun c11 => ?_) (fun c11 => ?_)
          · rw [if_neg c11] at hN
            refine lv_iconst (v := 0) hx hb dL_holds_439 (by decide) ?_
            exact k_zretR hx hb hr (by decide) (Option.some.inj hN) hP hS hlk dL_holds_440
          · rw [if_pos c11] at hN
            refine lv_iload_n hx hb dL_holds_379 rfl (lv_at hl 2 rfl) ?_
            refine lv_iload_n hx hb dL_holds_380 rfl (lv_at hl 3 rfl) ?_
            refine lv_aload_n hx hb dL_holds_381 rfl (lv_at hl 1 rfl) ?_
            refine lv_iconst (v := 3) hx hb dL_holds_382 (by decide) ?_
            obtain ⟨v12, hv12, hN⟩ := oB_spec hN
            refine k_iR hS (va_runV (As := [.int (3 : Int32)]) (rest := [.int x2, .int x1]) ⟨hx, hb, hml, hown, hts⟩ (c_X3_count l g L hL G ad (x.1, x.2.1, x.2.2.1, x.2.2.2.1, x.2.2.2.2) hX (3 : Int32) v12 hv12) (cwV 1 hts gL_holds_X3_count rfl rfl rfl (by decide +kernel) ⟨Nat.le_of_ble_eq_true rfl, Nat.le_of_ble_eq_true rfl⟩) (k_preV (C := RX3) (T := TX3) (N := 3) hC hS hP (hX.m 0 (by omega)) hX.o0 rfl) rfl rfl hl.1 rfl (lv_room (Nat.le_of_ble_eq_true rfl)) dL_holds_383 ⟨Nat.zero_le _, Nat.zero_le _⟩) (fun H locs hP hS => ?_)
            refine lv_iadd hx hb dL_holds_386 ?_
            refine lv_icmp_ne (tgt := 439) hx hb dL_holds_387 (by decide) (fun c14 => ?_) (fun c14 => ?_)
            · rw [if_neg c14] at hN
              refine lv_iconst (v := 0) hx hb dL_holds_439 (by decide) ?_
              exact k_zretR hx hb hr (by decide) (Option.some.inj hN) hP hS hlk dL_holds_440
            · rw [if_pos c14] at hN
              refine lv_aload_n hx hb dL_holds_390 rfl (lv_at hl 1 rfl) ?_
              obtain ⟨v15, hv15, hN⟩ := oB_spec hN
              refine k_lR hS (va_runV (As := []) (rest := []) ⟨hx, hb, hml, hown, hts⟩ (c_X3_core l g L hL G ad (x.1, x.2.1, x.2.2.1, x.2.2.2.1, x.2.2.2.2) hX v15 hv15) (cwV 0 hts gL_holds_X3_core rfl rfl rfl (by decide +kernel) ⟨Nat.le_of_ble_eq_true rfl, Nat.le_of_ble_eq_true rfl⟩) (k_preV (C := RX3) (T := TX3) (N := 3) hC hS hP (hX.m 0 (by omega)) hX.o0 rfl) rfl rfl hl.1 rfl (lv_room (Nat.le_of_ble_eq_true rfl)) dL_holds_391 ⟨Nat.zero_le _, Nat.zero_le _⟩) (fun H locs hP hS => ?_)
              refine lv_ldc2 (v := (-1000004)) hx hb hown (hts (.constantLong RL 50 (-1000004)) (List.mem_of_getElem? (i := 2) rfl)) dL_holds_394 ?_
              refine W.lcmp hx hb dL_holds_397 ?_
              have hj398 : W p l e (headSpec wsL_holds ({ frames := 5, cells := 0, slots := 0, locals := 113 } : Room)).room s m ([.ref (ad 0)] : List Value).toArray below meth c H locs 0 0 (MQ below (va_Qi (fun x9 (G9 : Nat → va_E) => x9 = v ∧ G9 = G) (kE g L) A) ([.ref (ad 0)] : List Value).toArray s 0 0 A) (F0 m 406 ls [.int (if (lg_cmp v15 ((-1000004) : Int64)) = 0 then (1 : Int32) else (0 : Int32))]) := by
                refine lv_aload_n hx hb dL_holds_406 rfl (lv_at hl 1 rfl) ?_
                obtain ⟨v18, hv18, hN⟩ := oB_spec hN
                refine k_iR hS (va_runV (As := []) (rest := [.int (if (lg_cmp v15 ((-1000004) : Int64)) = 0 then (1 : Int32) else (0 : Int32))]) ⟨hx, hb, hml, hown, hts⟩ (c_X3_models l g L hL G ad (x.1, x.2.1, x.2.2.1, x.2.2.2.1, x.2.2.2.2) hX v18 hv18) (cwV 0 hts gL_holds_X3_models rfl rfl rfl (by decide +kernel) ⟨Nat.le_of_ble_eq_true rfl, Nat.le_of_ble_eq_true rfl⟩) (k_preV (C := RX3) (T := TX3) (N := 3) hC hS hP (hX.m 0 (by omega)) hX.o0 rfl) rfl rfl hl.1 rfl (lv_room (Nat.le_of_ble_eq_true rfl)) dL_holds_407 ⟨Nat.zero_le _, Nat.zero_le _⟩) (fun H locs hP hS => ?_)
                have hj410 : W p l e (headSpec wsL_holds ({ frames := 5, cells := 0, slots := 0, locals := 113 } : Room)).room s m ([.ref (ad 0)] : List Value).toArray below meth c H locs 0 0 (MQ below (va_Qi (fun x9 (G9 : Nat → va_E) => x9 = v ∧ G9 = G) (kE g L) A) ([.ref (ad 0)] : List Value).toArray s 0 0 A) (F0 m 418 ls [.int (if v18 ≤ 0 then (0 : Int32) else (1 : Int32)), .int (if (lg_cmp v15 ((-1000004) : Int64)) = 0 then (1 : Int32) else (0 : Int32))]) := by
                  refine lv_icmp_ne (tgt := 439) hx hb dL_holds_418 (by decide) (fun c21 => ?_) (fun c21 => ?_)
                  · rw [if_neg c21] at hN
                    refine lv_iconst (v := 0) hx hb dL_holds_439 (by decide) ?_
                    exact k_zretR hx hb hr (by decide) (Option.some.inj hN) hP hS hlk dL_holds_440
                  · rw [if_pos c21] at hN
                    refine lv_aload_n hx hb dL_holds_421 rfl (lv_at hl 1 rfl) ?_
                    obtain ⟨v22, hv22, hN⟩ := oB_spec hN
                    refine k_iR hS (va_runV (As := []) (rest := []) ⟨hx, hb, hml, hown, hts⟩ (c_X3_refutation l g L hL G ad (x.1, x.2.1, x.2.2.1, x.2.2.2.1, x.2.2.2.2) hX v22 hv22) (cwV 0 hts gL_holds_X3_refutation rfl rfl rfl (by decide +kernel) ⟨Nat.le_of_ble_eq_true rfl, Nat.le_of_ble_eq_true rfl⟩) (k_preV (C := RX3) (T := TX3) (N := 3) hC hS hP (hX.m 0 (by omega)) hX.o0 rfl) rfl rfl hl.1 rfl (lv_room (Nat.le_of_ble_eq_true rfl)) dL_holds_422 ⟨Nat.zero_le _, Nat.zero_le _⟩) (fun H locs hP hS => ?_)
                    refine lv_if_lt (tgt := 435) hx hb dL_holds_425 (by decide) (fun c24 => ?_) (fun c24 => ?_)
                    · rw [if_pos c24] at hN
                      refine lv_iconst (v := 1) hx hb dL_holds_435 (by decide) ?_
                      refine lv_goto (tgt := 440) hx hb dL_holds_436 (by decide) ?_
                      exact k_zretR hx hb hr (by decide) (Option.some.inj hN) hP hS hlk dL_holds_440
                    · rw [if_neg c24] at hN
                      refine lv_aload_n hx hb dL_holds_428 rfl (lv_at hl 1 rfl) ?_
                      obtain ⟨v25, hv25, hN⟩ := oB_spec hN
                      refine k_iR hS (va_runV (As := []) (rest := []) ⟨hx, hb, hml, hown, hts⟩ (c_X3_models l g L hL G ad (x.1, x.2.1, x.2.2.1, x.2.2.2.1, x.2.2.2.2) hX v25 hv25) (cwV 0 hts gL_holds_X3_models rfl rfl rfl (by decide +kernel) ⟨Nat.le_of_ble_eq_true rfl, Nat.le_of_ble_eq_true rfl⟩) (k_preV (C := RX3) (T := TX3) (N := 3) hC hS hP (hX.m 0 (by omega)) hX.o0 rfl) rfl rfl hl.1 rfl (lv_room (Nat.le_of_ble_eq_true rfl)) dL_holds_429 ⟨Nat.zero_le _, Nat.zero_le _⟩) (fun H locs hP hS => ?_)
                      refine lv_if_ne (tgt := 439) hx hb dL_holds_432 (by decide) (fun c27 => ?_) (fun c27 => ?_)
                      · rw [if_neg c27] at hN
                        refine lv_iconst (v := 0) hx hb dL_holds_439 (by decide) ?_
                        exact k_zretR hx hb hr (by decide) (Option.some.inj hN) hP hS hlk dL_holds_440
                      · rw [if_pos c27] at hN
                        refine lv_iconst (v := 1) hx hb dL_holds_435 (by decide) ?_
                        refine lv_goto (tgt := 440) hx hb dL_holds_436 (by decide) ?_
                        exact k_zretR hx hb hr (by decide) (Option.some.inj hN) hP hS hlk dL_holds_440
                refine lv_if_le (tgt := 417) hx hb dL_holds_410 (by decide) (fun c20 => ?_) (fun c20 => ?_)
                · rw [if_pos c20] at hj410
                  refine lv_iconst (v := 0) hx hb dL_holds_417 (by decide) ?_
                  exact hj410
                · rw [if_neg c20] at hj410
                  refine lv_iconst (v := 1) hx hb dL_holds_413 (by decide) ?_
                  refine lv_goto (tgt := 418) hx hb dL_holds_414 (by decide) ?_
                  exact hj410
              refine lv_if_ne (tgt := 405) hx hb dL_holds_398 (by decide) (fun c17 => ?_) (fun c17 => ?_)
              · rw [if_neg c17] at hj398
                refine lv_iconst (v := 0) hx hb dL_holds_405 (by decide) ?_
                exact hj398
              · rw [if_pos c17] at hj398
                refine lv_iconst (v := 1) hx hb dL_holds_401 (by decide) ?_
                refine lv_goto (tgt := 406) hx hb dL_holds_402 (by decide) ?_
                exact hj398
        · rw [if_neg c6] at hN
          refine lv_aload_n hx hb dL_holds_340 rfl (lv_at hl 0 rfl) ?_
          obtain ⟨v28, hv28, hN⟩ := oB_spec hN
          refine k_iR hS (va_runV (As := []) (rest := []) ⟨hx, hb, hml, hown, hts⟩ (c_X3_refutation l g L hL G ad (x.1, x.2.1, x.2.2.1, x.2.2.2.1, x.2.2.2.2) hX v28 hv28) (cwV 0 hts gL_holds_X3_refutation rfl rfl rfl (by decide +kernel) ⟨Nat.le_of_ble_eq_true rfl, Nat.le_of_ble_eq_true rfl⟩) (k_preV (C := RX3) (T := TX3) (N := 3) hC hS hP (hX.m 0 (by omega)) hX.o0 rfl) rfl rfl hl.1 rfl (lv_room (Nat.le_of_ble_eq_true rfl)) dL_holds_341 ⟨Nat.zero_le _, Nat.zero_le _⟩) (fun H locs hP hS => ?_)
          refine lv_if_ge (tgt := 354) hx hb dL_holds_344 (by decide) (fun c30 => ?_) (fun c30 => ?_)
          · rw [if_pos c30] at hN
            refine lv_iconst (v := 1) hx hb dL_holds_354 (by decide) ?_
            refine lv_goto (tgt := 359) hx hb dL_holds_355 (by decide) ?_
            refine lv_istore_n (lv' := [(3, .int (1 : Int32)), (0, .ref (ad 0)), (1, .int x1), (2, .int x2)]) hx hb dL_holds_359 rfl hl (by decide) rfl (fun ls hl => ?_)
            refine lv_iload_n hx hb dL_holds_360 rfl (lv_at hl 0 rfl) ?_
            refine lv_if_eq (tgt := 439) hx hb dL_holds_361 (by decide) (fun c9 => absurd c9 (by decide)) (fun _ => ?_)
            refine lv_iload_n hx hb dL_holds_364 rfl (lv_at hl 3 rfl) ?_
            refine lv_aload_n hx hb dL_holds_365 rfl (lv_at hl 1 rfl) ?_
            refine lv_iconst (v := 1) hx hb dL_holds_366 (by decide) ?_
            obtain ⟨v31, hv31, hN⟩ := oB_spec hN
            refine k_iR hS (va_runV (As := [.int (1 : Int32)]) (rest := [.int x2]) ⟨hx, hb, hml, hown, hts⟩ (c_X3_count l g L hL G ad (x.1, x.2.1, x.2.2.1, x.2.2.2.1, x.2.2.2.2) hX (1 : Int32) v31 hv31) (cwV 1 hts gL_holds_X3_count rfl rfl rfl (by decide +kernel) ⟨Nat.le_of_ble_eq_true rfl, Nat.le_of_ble_eq_true rfl⟩) (k_preV (C := RX3) (T := TX3) (N := 3) hC hS hP (hX.m 0 (by omega)) hX.o0 rfl) rfl rfl hl.1 rfl (lv_room (Nat.le_of_ble_eq_true rfl)) dL_holds_367 ⟨Nat.zero_le _, Nat.zero_le _⟩) (fun H locs hP hS => ?_)
            refine lv_aload_n hx hb dL_holds_370 rfl (lv_at hl 1 rfl) ?_
            refine lv_iconst (v := 2) hx hb dL_holds_371 (by decide) ?_
            obtain ⟨v33, hv33, hN⟩ := oB_spec hN
            refine k_iR hS (va_runV (As := [.int (2 : Int32)]) (rest := [.int v31, .int x2]) ⟨hx, hb, hml, hown, hts⟩ (c_X3_count l g L hL G ad (x.1, x.2.1, x.2.2.1, x.2.2.2.1, x.2.2.2.2) hX (2 : Int32) v33 hv33) (cwV 1 hts gL_holds_X3_count rfl rfl rfl (by decide +kernel) ⟨Nat.le_of_ble_eq_true rfl, Nat.le_of_ble_eq_true rfl⟩) (k_preV (C := RX3) (T := TX3) (N := 3) hC hS hP (hX.m 0 (by omega)) hX.o0 rfl) rfl rfl hl.1 rfl (lv_room (Nat.le_of_ble_eq_true rfl)) dL_holds_372 ⟨Nat.zero_le _, Nat.zero_le _⟩) (fun H locs hP hS => ?_)
            refine lv_iadd hx hb dL_holds_375 ?_
            refine lv_icmp_ne (tgt := 439) hx hb dL_holds_376 (by decide) (fun c35 => ?_) (fun c35 => ?_)
            · rw [if_neg c35] at hN
              refine lv_iconst (v := 0) hx hb dL_holds_439 (by decide) ?_
              exact k_zretR hx hb hr (by decide) (Option.some.inj hN) hP hS hlk dL_holds_440
            · rw [if_pos c35] at hN
              refine lv_iload_n hx hb dL_holds_379 rfl (lv_at hl 2 rfl) ?_
              refine lv_iload_n hx hb dL_holds_380 rfl (lv_at hl 3 rfl) ?_
              refine lv_aload_n hx hb dL_holds_381 rfl (lv_at hl 1 rfl) ?_
              refine lv_iconst (v := 3) hx hb dL_holds_382 (by decide) ?_
              obtain ⟨v36, hv36, hN⟩ := oB_spec hN
              refine k_iR hS (va_runV (As := [.int (3 : Int32)]) (rest := [.int x2, .int x1]) ⟨hx, hb, hml, hown, hts⟩ (c_X3_count l g L hL G ad (x.1, x.2.1, x.2.2.1, x.2.2.2.1, x.2.2.2.2) hX (3 : Int32) v36 hv36) (cwV 1 hts gL_holds_X3_count rfl rfl rfl (by decide +kernel) ⟨Nat.le_of_ble_eq_true rfl, Nat.le_of_ble_eq_true rfl⟩) (k_preV (C := RX3) (T := TX3) (N := 3) hC hS hP (hX.m 0 (by omega)) hX.o0 rfl) rfl rfl hl.1 rfl (lv_room (Nat.le_of_ble_eq_true rfl)) dL_holds_383 ⟨Nat.zero_le _, Nat.zero_le _⟩) (fun H locs hP hS => ?_)
              refine lv_iadd hx hb dL_holds_386 ?_
              refine lv_icmp_ne (tgt := 439) hx hb dL_holds_387 (by decide) (fun c38 => ?_) (fun c38 => ?_)
              · rw [if_neg c38] at hN
                refine lv_iconst (v := 0) hx hb dL_holds_439 (by decide) ?_
                exact k_zretR hx hb hr (by decide) (Option.some.inj hN) hP hS hlk dL_holds_440
              · rw [if_pos c38] at hN
                refine lv_aload_n hx hb dL_holds_390 rfl (lv_at hl 1 rfl) ?_
                obtain ⟨v39, hv39, hN⟩ := oB_spec hN
                refine k_lR hS (va_runV (As := []) (rest := []) ⟨hx, hb, hml, hown, hts⟩ (c_X3_core l g L hL G ad (x.1, x.2.1, x.2.2.1, x.2.2.2.1, x.2.2.2.2) hX v39 hv39) (cwV 0 hts gL_holds_X3_core rfl rfl rfl (by decide +kernel) ⟨Nat.le_of_ble_eq_true rfl, Nat.le_of_ble_eq_true rfl⟩) (k_preV (C := RX3) (T := TX3) (N := 3) hC hS hP (hX.m 0 (by omega)) hX.o0 rfl) rfl rfl hl.1 rfl (lv_room (Nat.le_of_ble_eq_true rfl)) dL_holds_391 ⟨Nat.zero_le _, Nat.zero_le _⟩) (fun H locs hP hS => ?_)
                refine lv_ldc2 (v := (-1000004)) hx hb hown (hts (.constantLong RL 50 (-1000004)) (List.mem_of_getElem? (i := 2) rfl)) dL_holds_394 ?_
                refine W.lcmp hx hb dL_holds_397 ?_
                have hj398 : W p l e (headSpec wsL_holds ({ frames := 5, cells := 0, slots := 0, locals := 113 } : Room)).room s m ([.ref (ad 0)] : List Value).toArray below meth c H locs 0 0 (MQ below (va_Qi (fun x9 (G9 : Nat → va_E) => x9 = v ∧ G9 = G) (kE g L) A) ([.ref (ad 0)] : List Value).toArray s 0 0 A) (F0 m 406 ls [.int (if (lg_cmp v39 ((-1000004) : Int64)) = 0 then (1 : Int32) else (0 : Int32))]) := by
                  refine lv_aload_n hx hb dL_holds_406 rfl (lv_at hl 1 rfl) ?_
                  obtain ⟨v42, hv42, hN⟩ := oB_spec hN
                  refine k_iR hS (va_runV (As := []) (rest := [.int (if (lg_cmp v39 ((-1000004) : Int64)) = 0 then (1 : Int32) else (0 : Int32))]) ⟨hx, hb, hml, hown, hts⟩ (c_X3_models l g L hL G ad (x.1, x.2.1, x.2.2.1, x.2.2.2.1, x.2.2.2.2) hX v42 hv42) (cwV 0 hts gL_holds_X3_models rfl rfl rfl (by decide +kernel) ⟨Nat.le_of_ble_eq_true rfl, Nat.le_of_ble_eq_true rfl⟩) (k_preV (C := RX3) (T := TX3) (N := 3) hC hS hP (hX.m 0 (by omega)) hX.o0 rfl) rfl rfl hl.1 rfl (lv_room (Nat.le_of_ble_eq_true rfl)) dL_holds_407 ⟨Nat.zero_le _, Nat.zero_le _⟩) (fun H locs hP hS => ?_)
                  have hj410 : W p l e (headSpec wsL_holds ({ frames := 5, cells := 0, slots := 0, locals := 113 } : Room)).room s m ([.ref (ad 0)] : List Value).toArray below meth c H locs 0 0 (MQ below (va_Qi (fun x9 (G9 : Nat → va_E) => x9 = v ∧ G9 = G) (kE g L) A) ([.ref (ad 0)] : List Value).toArray s 0 0 A) (F0 m 418 ls [.int (if v42 ≤ 0 then (0 : Int32) else (1 : Int32)), .int (if (lg_cmp v39 ((-1000004) : Int64)) = 0 then (1 : Int32) else (0 : Int32))]) := by
                    refine lv_icmp_ne (tgt := 439) hx hb dL_holds_418 (by decide) (fun c45 => ?_) (fun c45 => ?_)
                    · rw [if_neg c45] at hN
                      refine lv_iconst (v := 0) hx hb dL_holds_439 (by decide) ?_
                      exact k_zretR hx hb hr (by decide) (Option.some.inj hN) hP hS hlk dL_holds_440
                    · rw [if_pos c45] at hN
                      refine lv_aload_n hx hb dL_holds_421 rfl (lv_at hl 1 rfl) ?_
                      obtain ⟨v46, hv46, hN⟩ := oB_spec hN
                      refine k_iR hS (va_runV (As := []) (rest := []) ⟨hx, hb, hml, hown, hts⟩ (c_X3_refutation l g L hL G ad (x.1, x.2.1, x.2.2.1, x.2.2.2.1, x.2.2.2.2) hX v46 hv46) (cwV 0 hts gL_holds_X3_refutation rfl rfl rfl (by decide +kernel) ⟨Nat.le_of_ble_eq_true rfl, Nat.le_of_ble_eq_true rfl⟩) (k_preV (C := RX3) (T := TX3) (N := 3) hC hS hP (hX.m 0 (by omega)) hX.o0 rfl) rfl rfl hl.1 rfl (lv_room (Nat.le_of_ble_eq_true rfl)) dL_holds_422 ⟨Nat.zero_le _, Nat.zero_le _⟩) (fun H locs hP hS => ?_)
                      refine lv_if_lt (tgt := 435) hx hb dL_holds_425 (by decide) (fun c48 => ?_) (fun c48 => ?_)
                      · rw [if_pos c48] at hN
                        refine lv_iconst (v := 1) hx hb dL_holds_435 (by decide) ?_
                        refine lv_goto (tgt := 440) hx hb dL_holds_436 (by decide) ?_
                        exact k_zretR hx hb hr (by decide) (Option.some.inj hN) hP hS hlk dL_holds_440
                      · rw [if_neg c48] at hN
                        refine lv_aload_n hx hb dL_holds_428 rfl (lv_at hl 1 rfl) ?_
                        obtain ⟨v49, hv49, hN⟩ := oB_spec hN
                        refine k_iR hS (va_runV (As := []) (rest := []) ⟨hx, hb, hml, hown, hts⟩ (c_X3_models l g L hL G ad (x.1, x.2.1, x.2.2.1, x.2.2.2.1, x.2.2.2.2) hX v49 hv49) (cwV 0 hts gL_holds_X3_models rfl rfl rfl (by decide +kernel) ⟨Nat.le_of_ble_eq_true rfl, Nat.le_of_ble_eq_true rfl⟩) (k_preV (C := RX3) (T := TX3) (N := 3) hC hS hP (hX.m 0 (by omega)) hX.o0 rfl) rfl rfl hl.1 rfl (lv_room (Nat.le_of_ble_eq_true rfl)) dL_holds_429 ⟨Nat.zero_le _, Nat.zero_le _⟩) (fun H locs hP hS => ?_)
                        refine lv_if_ne (tgt := 439) hx hb dL_holds_432 (by decide) (fun c51 => ?_) (fun c51 => ?_)
                        · rw [if_neg c51] at hN
                          refine lv_iconst (v := 0) hx hb dL_holds_439 (by decide) ?_
                          exact k_zretR hx hb hr (by decide) (Option.some.inj hN) hP hS hlk dL_holds_440
                        · rw [if_pos c51] at hN
                          refine lv_iconst (v := 1) hx hb dL_holds_435 (by decide) ?_
                          refine lv_goto (tgt := 440) hx hb dL_holds_436 (by decide) ?_
                          exact k_zretR hx hb hr (by decide) (Option.some.inj hN) hP hS hlk dL_holds_440
                  refine lv_if_le (tgt := 417) hx hb dL_holds_410 (by decide) (fun c44 => ?_) (fun c44 => ?_)
                  · rw [if_pos c44] at hj410
                    refine lv_iconst (v := 0) hx hb dL_holds_417 (by decide) ?_
                    exact hj410
                  · rw [if_neg c44] at hj410
                    refine lv_iconst (v := 1) hx hb dL_holds_413 (by decide) ?_
                    refine lv_goto (tgt := 418) hx hb dL_holds_414 (by decide) ?_
                    exact hj410
                refine lv_if_ne (tgt := 405) hx hb dL_holds_398 (by decide) (fun c41 => ?_) (fun c41 => ?_)
                · rw [if_neg c41] at hj398
                  refine lv_iconst (v := 0) hx hb dL_holds_405 (by decide) ?_
                  exact hj398
                · rw [if_pos c41] at hj398
                  refine lv_iconst (v := 1) hx hb dL_holds_401 (by decide) ?_
                  refine lv_goto (tgt := 406) hx hb dL_holds_402 (by decide) ?_
                  exact hj398
          · rw [if_neg c30] at hN
            refine lv_aload_n hx hb dL_holds_347 rfl (lv_at hl 0 rfl) ?_
            obtain ⟨v52, hv52, hN⟩ := oB_spec hN
            refine k_iR hS (va_runV (As := []) (rest := []) ⟨hx, hb, hml, hown, hts⟩ (c_X3_models l g L hL G ad (x.1, x.2.1, x.2.2.1, x.2.2.2.1, x.2.2.2.2) hX v52 hv52) (cwV 0 hts gL_holds_X3_models rfl rfl rfl (by decide +kernel) ⟨Nat.le_of_ble_eq_true rfl, Nat.le_of_ble_eq_true rfl⟩) (k_preV (C := RX3) (T := TX3) (N := 3) hC hS hP (hX.m 0 (by omega)) hX.o0 rfl) rfl rfl hl.1 rfl (lv_room (Nat.le_of_ble_eq_true rfl)) dL_holds_348 ⟨Nat.zero_le _, Nat.zero_le _⟩) (fun H locs hP hS => ?_)
            refine lv_if_le (tgt := 358) hx hb dL_holds_351 (by decide) (fun c54 => ?_) (fun c54 => ?_)
            · rw [if_pos c54] at hN
              refine lv_iconst (v := 0) hx hb dL_holds_358 (by decide) ?_
              refine lv_istore_n (lv' := [(3, .int (0 : Int32)), (0, .ref (ad 0)), (1, .int x1), (2, .int x2)]) hx hb dL_holds_359 rfl hl (by decide) rfl (fun ls hl => ?_)
              refine lv_iload_n hx hb dL_holds_360 rfl (lv_at hl 0 rfl) ?_
              refine lv_if_eq (tgt := 439) hx hb dL_holds_361 (by decide) (fun _ => ?_) (fun c9 => absurd c9 (by decide))
              refine lv_iconst (v := 0) hx hb dL_holds_439 (by decide) ?_
              exact k_zretR hx hb hr (by decide) (Option.some.inj hN) hP hS hlk dL_holds_440
            · rw [if_neg c54] at hN
              refine lv_iconst (v := 1) hx hb dL_holds_354 (by decide) ?_
              refine lv_goto (tgt := 359) hx hb dL_holds_355 (by decide) ?_
              refine lv_istore_n (lv' := [(3, .int (1 : Int32)), (0, .ref (ad 0)), (1, .int x1), (2, .int x2)]) hx hb dL_holds_359 rfl hl (by decide) rfl (fun ls hl => ?_)
              refine lv_iload_n hx hb dL_holds_360 rfl (lv_at hl 0 rfl) ?_
              refine lv_if_eq (tgt := 439) hx hb dL_holds_361 (by decide) (fun c9 => absurd c9 (by decide)) (fun _ => ?_)
              refine lv_iload_n hx hb dL_holds_364 rfl (lv_at hl 3 rfl) ?_
              refine lv_aload_n hx hb dL_holds_365 rfl (lv_at hl 1 rfl) ?_
              refine lv_iconst (v := 1) hx hb dL_holds_366 (by decide) ?_
              obtain ⟨v55, hv55, hN⟩ := oB_spec hN
              refine k_iR hS (va_runV (As := [.int (1 : Int32)]) (rest := [.int x2]) ⟨hx, hb, hml, hown, hts⟩ (c_X3_count l g L hL G ad (x.1, x.2.1, x.2.2.1, x.2.2.2.1, x.2.2.2.2) hX (1 : Int32) v55 hv55) (cwV 1 hts gL_holds_X3_count rfl rfl rfl (by decide +kernel) ⟨Nat.le_of_ble_eq_true rfl, Nat.le_of_ble_eq_true rfl⟩) (k_preV (C := RX3) (T := TX3) (N := 3) hC hS hP (hX.m 0 (by omega)) hX.o0 rfl) rfl rfl hl.1 rfl (lv_room (Nat.le_of_ble_eq_true rfl)) dL_holds_367 ⟨Nat.zero_le _, Nat.zero_le _⟩) (fun H locs hP hS => ?_)
              refine lv_aload_n hx hb dL_holds_370 rfl (lv_at hl 1 rfl) ?_
              refine lv_iconst (v := 2) hx hb dL_holds_371 (by decide) ?_
              obtain ⟨v57, hv57, hN⟩ := oB_spec hN
              refine k_iR hS (va_runV (As := [.int (2 : Int32)]) (rest := [.int v55, .int x2]) ⟨hx, hb, hml, hown, hts⟩ (c_X3_count l g L hL G ad (x.1, x.2.1, x.2.2.1, x.2.2.2.1, x.2.2.2.2) hX (2 : Int32) v57 hv57) (cwV 1 hts gL_holds_X3_count rfl rfl rfl (by decide +kernel) ⟨Nat.le_of_ble_eq_true rfl, Nat.le_of_ble_eq_true rfl⟩) (k_preV (C := RX3) (T := TX3) (N := 3) hC hS hP (hX.m 0 (by omega)) hX.o0 rfl) rfl rfl hl.1 rfl (lv_room (Nat.le_of_ble_eq_true rfl)) dL_holds_372 ⟨Nat.zero_le _, Nat.zero_le _⟩) (fun H locs hP hS => ?_)
              refine lv_iadd hx hb dL_holds_375 ?_
              refine lv_icmp_ne (tgt := 439) hx hb dL_holds_376 (by decide) (fun c59 => ?_) (fun c59 => ?_)
              · rw [if_neg c59] at hN
                refine lv_iconst (v := 0) hx hb dL_holds_439 (by decide) ?_
                exact k_zretR hx hb hr (by decide) (Option.some.inj hN) hP hS hlk dL_holds_440
              · rw [if_pos c59] at hN
                refine lv_iload_n hx hb dL_holds_379 rfl (lv_at hl 2 rfl) ?_
                refine lv_iload_n hx hb dL_holds_380 rfl (lv_at hl 3 rfl) ?_
                refine lv_aload_n hx hb dL_holds_381 rfl (lv_at hl 1 rfl) ?_
                refine lv_iconst (v := 3) hx hb dL_holds_382 (by decide) ?_
                obtain ⟨v60, hv60, hN⟩ := oB_spec hN
                refine k_iR hS (va_runV (As := [.int (3 : Int32)]) (rest := [.int x2, .int x1]) ⟨hx, hb, hml, hown, hts⟩ (c_X3_count l g L hL G ad (x.1, x.2.1, x.2.2.1, x.2.2.2.1, x.2.2.2.2) hX (3 : Int32) v60 hv60) (cwV 1 hts gL_holds_X3_count rfl rfl rfl (by decide +kernel) ⟨Nat.le_of_ble_eq_true rfl, Nat.le_of_ble_eq_true rfl⟩) (k_preV (C := RX3) (T := TX3) (N := 3) hC hS hP (hX.m 0 (by omega)) hX.o0 rfl) rfl rfl hl.1 rfl (lv_room (Nat.le_of_ble_eq_true rfl)) dL_holds_383 ⟨Nat.zero_le _, Nat.zero_le _⟩) (fun H locs hP hS => ?_)
                refine lv_iadd hx hb dL_holds_386 ?_
                refine lv_icmp_ne (tgt := 439) hx hb dL_holds_387 (by decide) (fun c62 => ?_) (fun c62 => ?_)
                · rw [if_neg c62] at hN
                  refine lv_iconst (v := 0) hx hb dL_holds_439 (by decide) ?_
                  exact k_zretR hx hb hr (by decide) (Option.some.inj hN) hP hS hlk dL_holds_440
                · rw [if_pos c62] at hN
                  refine lv_aload_n hx hb dL_holds_390 rfl (lv_at hl 1 rfl) ?_
                  obtain ⟨v63, hv63, hN⟩ := oB_spec hN
                  refine k_lR hS (va_runV (As := []) (rest := []) ⟨hx, hb, hml, hown, hts⟩ (c_X3_core l g L hL G ad (x.1, x.2.1, x.2.2.1, x.2.2.2.1, x.2.2.2.2) hX v63 hv63) (cwV 0 hts gL_holds_X3_core rfl rfl rfl (by decide +kernel) ⟨Nat.le_of_ble_eq_true rfl, Nat.le_of_ble_eq_true rfl⟩) (k_preV (C := RX3) (T := TX3) (N := 3) hC hS hP (hX.m 0 (by omega)) hX.o0 rfl) rfl rfl hl.1 rfl (lv_room (Nat.le_of_ble_eq_true rfl)) dL_holds_391 ⟨Nat.zero_le _, Nat.zero_le _⟩) (fun H locs hP hS => ?_)
                  refine lv_ldc2 (v := (-1000004)) hx hb hown (hts (.constantLong RL 50 (-1000004)) (List.mem_of_getElem? (i := 2) rfl)) dL_holds_394 ?_
                  refine W.lcmp hx hb dL_holds_397 ?_
                  have hj398 : W p l e (headSpec wsL_holds ({ frames := 5, cells := 0, slots := 0, locals := 113 } : Room)).room s m ([.ref (ad 0)] : List Value).toArray below meth c H locs 0 0 (MQ below (va_Qi (fun x9 (G9 : Nat → va_E) => x9 = v ∧ G9 = G) (kE g L) A) ([.ref (ad 0)] : List Value).toArray s 0 0 A) (F0 m 406 ls [.int (if (lg_cmp v63 ((-1000004) : Int64)) = 0 then (1 : Int32) else (0 : Int32))]) := by
                    refine lv_aload_n hx hb dL_holds_406 rfl (lv_at hl 1 rfl) ?_
                    obtain ⟨v66, hv66, hN⟩ := oB_spec hN
                    refine k_iR hS (va_runV (As := []) (rest := [.int (if (lg_cmp v63 ((-1000004) : Int64)) = 0 then (1 : Int32) else (0 : Int32))]) ⟨hx, hb, hml, hown, hts⟩ (c_X3_models l g L hL G ad (x.1, x.2.1, x.2.2.1, x.2.2.2.1, x.2.2.2.2) hX v66 hv66) (cwV 0 hts gL_holds_X3_models rfl rfl rfl (by decide +kernel) ⟨Nat.le_of_ble_eq_true rfl, Nat.le_of_ble_eq_true rfl⟩) (k_preV (C := RX3) (T := TX3) (N := 3) hC hS hP (hX.m 0 (by omega)) hX.o0 rfl) rfl rfl hl.1 rfl (lv_room (Nat.le_of_ble_eq_true rfl)) dL_holds_407 ⟨Nat.zero_le _, Nat.zero_le _⟩) (fun H locs hP hS => ?_)
                    have hj410 : W p l e (headSpec wsL_holds ({ frames := 5, cells := 0, slots := 0, locals := 113 } : Room)).room s m ([.ref (ad 0)] : List Value).toArray below meth c H locs 0 0 (MQ below (va_Qi (fun x9 (G9 : Nat → va_E) => x9 = v ∧ G9 = G) (kE g L) A) ([.ref (ad 0)] : List Value).toArray s 0 0 A) (F0 m 418 ls [.int (if v66 ≤ 0 then (0 : Int32) else (1 : Int32)), .int (if (lg_cmp v63 ((-1000004) : Int64)) = 0 then (1 : Int32) else (0 : Int32))]) := by
                      refine lv_icmp_ne (tgt := 439) hx hb dL_holds_418 (by decide) (fun c69 => ?_) (fun c69 => ?_)
                      · rw [if_neg c69] at hN
                        refine lv_iconst (v := 0) hx hb dL_holds_439 (by decide) ?_
                        exact k_zretR hx hb hr (by decide) (Option.some.inj hN) hP hS hlk dL_holds_440
                      · rw [if_pos c69] at hN
                        refine lv_aload_n hx hb dL_holds_421 rfl (lv_at hl 1 rfl) ?_
                        obtain ⟨v70, hv70, hN⟩ := oB_spec hN
                        refine k_iR hS (va_runV (As := []) (rest := []) ⟨hx, hb, hml, hown, hts⟩ (c_X3_refutation l g L hL G ad (x.1, x.2.1, x.2.2.1, x.2.2.2.1, x.2.2.2.2) hX v70 hv70) (cwV 0 hts gL_holds_X3_refutation rfl rfl rfl (by decide +kernel) ⟨Nat.le_of_ble_eq_true rfl, Nat.le_of_ble_eq_true rfl⟩) (k_preV (C := RX3) (T := TX3) (N := 3) hC hS hP (hX.m 0 (by omega)) hX.o0 rfl) rfl rfl hl.1 rfl (lv_room (Nat.le_of_ble_eq_true rfl)) dL_holds_422 ⟨Nat.zero_le _, Nat.zero_le _⟩) (fun H locs hP hS => ?_)
                        refine lv_if_lt (tgt := 435) hx hb dL_holds_425 (by decide) (fun c72 => ?_) (fun c72 => ?_)
                        · rw [if_pos c72] at hN
                          refine lv_iconst (v := 1) hx hb dL_holds_435 (by decide) ?_
                          refine lv_goto (tgt := 440) hx hb dL_holds_436 (by decide) ?_
                          exact k_zretR hx hb hr (by decide) (Option.some.inj hN) hP hS hlk dL_holds_440
                        · rw [if_neg c72] at hN
                          refine lv_aload_n hx hb dL_holds_428 rfl (lv_at hl 1 rfl) ?_
                          obtain ⟨v73, hv73, hN⟩ := oB_spec hN
                          refine k_iR hS (va_runV (As := []) (rest := []) ⟨hx, hb, hml, hown, hts⟩ (c_X3_models l g L hL G ad (x.1, x.2.1, x.2.2.1, x.2.2.2.1, x.2.2.2.2) hX v73 hv73) (cwV 0 hts gL_holds_X3_models rfl rfl rfl (by decide +kernel) ⟨Nat.le_of_ble_eq_true rfl, Nat.le_of_ble_eq_true rfl⟩) (k_preV (C := RX3) (T := TX3) (N := 3) hC hS hP (hX.m 0 (by omega)) hX.o0 rfl) rfl rfl hl.1 rfl (lv_room (Nat.le_of_ble_eq_true rfl)) dL_holds_429 ⟨Nat.zero_le _, Nat.zero_le _⟩) (fun H locs hP hS => ?_)
                          refine lv_if_ne (tgt := 439) hx hb dL_holds_432 (by decide) (fun c75 => ?_) (fun c75 => ?_)
                          · rw [if_neg c75] at hN
                            refine lv_iconst (v := 0) hx hb dL_holds_439 (by decide) ?_
                            exact k_zretR hx hb hr (by decide) (Option.some.inj hN) hP hS hlk dL_holds_440
                          · rw [if_pos c75] at hN
                            refine lv_iconst (v := 1) hx hb dL_holds_435 (by decide) ?_
                            refine lv_goto (tgt := 440) hx hb dL_holds_436 (by decide) ?_
                            exact k_zretR hx hb hr (by decide) (Option.some.inj hN) hP hS hlk dL_holds_440
                    refine lv_if_le (tgt := 417) hx hb dL_holds_410 (by decide) (fun c68 => ?_) (fun c68 => ?_)
                    · rw [if_pos c68] at hj410
                      refine lv_iconst (v := 0) hx hb dL_holds_417 (by decide) ?_
                      exact hj410
                    · rw [if_neg c68] at hj410
                      refine lv_iconst (v := 1) hx hb dL_holds_413 (by decide) ?_
                      refine lv_goto (tgt := 418) hx hb dL_holds_414 (by decide) ?_
                      exact hj410
                  refine lv_if_ne (tgt := 405) hx hb dL_holds_398 (by decide) (fun c65 => ?_) (fun c65 => ?_)
                  · rw [if_neg c65] at hj398
                    refine lv_iconst (v := 0) hx hb dL_holds_405 (by decide) ?_
                    exact hj398
                  · rw [if_pos c65] at hj398
                    refine lv_iconst (v := 1) hx hb dL_holds_401 (by decide) ?_
                    refine lv_goto (tgt := 406) hx hb dL_holds_402 (by decide) ?_
                    exact hj398
      · rw [if_neg c3] at hN
        refine lv_aload_n hx hb dL_holds_15 rfl (lv_at hl 0 rfl) ?_
        refine lv_iload_n hx hb dL_holds_16 rfl (lv_at hl 3 rfl) ?_
        refine lv_iconst (v := 0) hx hb dL_holds_17 (by decide) ?_
        obtain ⟨v76, hv76, hN⟩ := oB_spec hN
        refine k_iR hS (va_runV (As := [.int x3, .int (0 : Int32)]) (rest := []) ⟨hx, hb, hml, hown, hts⟩ (c_X3_clauseOf l g L hL G ad (x.1, x.2.1, x.2.2.1, x.2.2.2.1, x.2.2.2.2) hX x3 (0 : Int32) v76 hv76) (cwV 2 hts gL_holds_X3_clauseOf rfl rfl rfl (by decide +kernel) ⟨Nat.le_of_ble_eq_true rfl, Nat.le_of_ble_eq_true rfl⟩) (k_preV (C := RX3) (T := TX3) (N := 3) hC hS hP (hX.m 0 (by omega)) hX.o0 rfl) rfl rfl hl.1 rfl (lv_room (Nat.le_of_ble_eq_true rfl)) dL_holds_18 ⟨Nat.zero_le _, Nat.zero_le _⟩) (fun H locs hP hS => ?_)
        refine lv_istore (lv' := [(4, .int v76), (0, .ref (ad 0)), (1, .int x1), (2, .int x2), (3, .int x3)]) hx hb dL_holds_21 hl (by decide) rfl (fun ls hl => ?_)
        refine lv_aload_n hx hb dL_holds_23 rfl (lv_at hl 1 rfl) ?_
        refine lv_iload_n hx hb dL_holds_24 rfl (lv_at hl 4 rfl) ?_
        refine lv_iconst (v := 3) hx hb dL_holds_25 (by decide) ?_
        obtain ⟨v78, hv78, hN⟩ := oB_spec hN
        refine k_iR hS (va_runV (As := [.int x3, .int (3 : Int32)]) (rest := []) ⟨hx, hb, hml, hown, hts⟩ (c_X3_clauseOf l g L hL G ad (x.1, x.2.1, x.2.2.1, x.2.2.2.1, x.2.2.2.2) hX x3 (3 : Int32) v78 hv78) (cwV 2 hts gL_holds_X3_clauseOf rfl rfl rfl (by decide +kernel) ⟨Nat.le_of_ble_eq_true rfl, Nat.le_of_ble_eq_true rfl⟩) (k_preV (C := RX3) (T := TX3) (N := 3) hC hS hP (hX.m 0 (by omega)) hX.o0 rfl) rfl rfl hl.1 rfl (lv_room (Nat.le_of_ble_eq_true rfl)) dL_holds_26 ⟨Nat.zero_le _, Nat.zero_le _⟩) (fun H locs hP hS => ?_)
        refine lv_istore (lv' := [(5, .int v78), (4, .int v76), (0, .ref (ad 0)), (1, .int x1), (2, .int x2), (3, .int x3)]) hx hb dL_holds_29 hl (by decide) rfl (fun ls hl => ?_)
        refine lv_aload_n hx hb dL_holds_31 rfl (lv_at hl 2 rfl) ?_
        refine lv_iload_n hx hb dL_holds_32 rfl (lv_at hl 5 rfl) ?_
        refine lv_iconst (v := 4) hx hb dL_holds_33 (by decide) ?_
        obtain ⟨v80, hv80, hN⟩ := oB_spec hN
        refine k_iR hS (va_runV (As := [.int x3, .int (4 : Int32)]) (rest := []) ⟨hx, hb, hml, hown, hts⟩ (c_X3_clauseOf l g L hL G ad (x.1, x.2.1, x.2.2.1, x.2.2.2.1, x.2.2.2.2) hX x3 (4 : Int32) v80 hv80) (cwV 2 hts gL_holds_X3_clauseOf rfl rfl rfl (by decide +kernel) ⟨Nat.le_of_ble_eq_true rfl, Nat.le_of_ble_eq_true rfl⟩) (k_preV (C := RX3) (T := TX3) (N := 3) hC hS hP (hX.m 0 (by omega)) hX.o0 rfl) rfl rfl hl.1 rfl (lv_room (Nat.le_of_ble_eq_true rfl)) dL_holds_34 ⟨Nat.zero_le _, Nat.zero_le _⟩) (fun H locs hP hS => ?_)
        refine lv_istore (lv' := [(6, .int v80), (5, .int v78), (4, .int v76), (0, .ref (ad 0)), (1, .int x1), (2, .int x2), (3, .int x3)]) hx hb dL_holds_37 hl (by decide) rfl (fun ls hl => ?_)
        refine lv_aload_n hx hb dL_holds_39 rfl (lv_at hl 3 rfl) ?_
        refine lv_iload_n hx hb dL_holds_40 rfl (lv_at hl 6 rfl) ?_
        refine lv_bipush (v := 8) hx hb dL_holds_41 (by decide) ?_
        obtain ⟨v82, hv82, hN⟩ := oB_spec hN
        refine k_iR hS (va_runV (As := [.int x3, .int (8 : Int32)]) (rest := []) ⟨hx, hb, hml, hown, hts⟩ (c_X3_clauseOf l g L hL G ad (x.1, x.2.1, x.2.2.1, x.2.2.2.1, x.2.2.2.2) hX x3 (8 : Int32) v82 hv82) (cwV 2 hts gL_holds_X3_clauseOf rfl rfl rfl (by decide +kernel) ⟨Nat.le_of_ble_eq_true rfl, Nat.le_of_ble_eq_true rfl⟩) (k_preV (C := RX3) (T := TX3) (N := 3) hC hS hP (hX.m 0 (by omega)) hX.o0 rfl) rfl rfl hl.1 rfl (lv_room (Nat.le_of_ble_eq_true rfl)) dL_holds_43 ⟨Nat.zero_le _, Nat.zero_le _⟩) (fun H locs hP hS => ?_)
        refine lv_istore (lv' := [(7, .int v82), (6, .int v80), (5, .int v78), (4, .int v76), (0, .ref (ad 0)), (1, .int x1), (2, .int x2), (3, .int x3)]) hx hb dL_holds_46 hl (by decide) rfl (fun ls hl => ?_)
        refine lv_iload_n hx hb dL_holds_48 rfl (lv_at hl 6 rfl) ?_
        refine lv_aload_n hx hb dL_holds_49 rfl (lv_at hl 4 rfl) ?_
        refine lv_iload_n hx hb dL_holds_50 rfl (lv_at hl 7 rfl) ?_
        refine lv_iconst (v := 1) hx hb dL_holds_51 (by decide) ?_
        obtain ⟨v84, hv84, hN⟩ := oB_spec hN
        refine k_iR hS (va_runV (As := [.int x3, .int (1 : Int32)]) (rest := [.int x2]) ⟨hx, hb, hml, hown, hts⟩ (c_X3_clauseOf l g L hL G ad (x.1, x.2.1, x.2.2.1, x.2.2.2.1, x.2.2.2.2) hX x3 (1 : Int32) v84 hv84) (cwV 2 hts gL_holds_X3_clauseOf rfl rfl rfl (by decide +kernel) ⟨Nat.le_of_ble_eq_true rfl, Nat.le_of_ble_eq_true rfl⟩) (k_preV (C := RX3) (T := TX3) (N := 3) hC hS hP (hX.m 0 (by omega)) hX.o0 rfl) rfl rfl hl.1 rfl (lv_room (Nat.le_of_ble_eq_true rfl)) dL_holds_52 ⟨Nat.zero_le _, Nat.zero_le _⟩) (fun H locs hP hS => ?_)
        refine lv_iconst (v := 2) hx hb dL_holds_55 (by decide) ?_
        have hj56 : W p l e (headSpec wsL_holds ({ frames := 5, cells := 0, slots := 0, locals := 113 } : Room)).room s m ([.ref (ad 0)] : List Value).toArray below meth c H locs 0 0 (MQ below (va_Qi (fun x9 (G9 : Nat → va_E) => x9 = v ∧ G9 = G) (kE g L) A) ([.ref (ad 0)] : List Value).toArray s 0 0 A) (F0 m 64 ls [.int (if (2 : Int32) ≤ v84 then (0 : Int32) else (1 : Int32)), .int x2]) := by
          refine lv_iadd hx hb dL_holds_64 ?_
          refine lv_istore_n (lv' := [(2, .int (x2 + (if (2 : Int32) ≤ v84 then (0 : Int32) else (1 : Int32)))), (7, .int v82), (6, .int v80), (5, .int v78), (4, .int v76), (0, .ref (ad 0)), (1, .int x1), (3, .int x3)]) hx hb dL_holds_65 rfl hl (by decide) rfl (fun ls hl => ?_)
          refine lv_iload hx hb dL_holds_66 (lv_at hl 4 rfl) ?_
          refine lv_iload hx hb dL_holds_68 (lv_at hl 4 rfl) ?_
          refine lv_iconst (v := 1) hx hb dL_holds_70 (by decide) ?_
          refine lv_ishr hx hb dL_holds_71 ?_
          refine lv_iand hx hb dL_holds_72 ?_
          refine lv_sipush (v := 1365) hx hb dL_holds_73 (by decide) ?_
          refine lv_iand hx hb dL_holds_76 ?_
          refine lv_if_ne (tgt := 183) hx hb dL_holds_77 (by decide) (fun c87 => ?_) (fun c87 => ?_)
          · rw [if_neg c87] at hN
            refine lv_iconst (v := 0) hx hb dL_holds_183 (by decide) ?_
            exact k_zretR hx hb hr (by decide) (Option.some.inj hN) hP hS hlk dL_holds_184
          · rw [if_pos c87] at hN
            refine lv_aload_n hx hb dL_holds_80 rfl (lv_at hl 5 rfl) ?_
            refine lv_iload hx hb dL_holds_81 (lv_at hl 4 rfl) ?_
            obtain ⟨v88, hv88, hN⟩ := oB_spec hN
            refine k_iR hS (va_runV (As := [.int v76]) (rest := []) ⟨hx, hb, hml, hown, hts⟩ (c_X3_follows l g L hL G ad (x.1, x.2.1, x.2.2.1, x.2.2.2.1, x.2.2.2.2) hX v76 v88 hv88) (cwV 1 hts gL_holds_X3_follows rfl rfl rfl (by decide +kernel) ⟨Nat.le_of_ble_eq_true rfl, Nat.le_of_ble_eq_true rfl⟩) (k_preV (C := RX3) (T := TX3) (N := 3) hC hS hP (hX.m 0 (by omega)) hX.o0 rfl) rfl rfl hl.1 rfl (lv_room (Nat.le_of_ble_eq_true rfl)) dL_holds_83 ⟨Nat.zero_le _, Nat.zero_le _⟩) (fun H locs hP hS => ?_)
            refine lv_iconst (v := 1) hx hb dL_holds_86 (by decide) ?_
            refine lv_icmp_ne (tgt := 183) hx hb dL_holds_87 (by decide) (fun c90 => ?_) (fun c90 => ?_)
            · rw [if_neg c90] at hN
              refine lv_iconst (v := 0) hx hb dL_holds_183 (by decide) ?_
              exact k_zretR hx hb hr (by decide) (Option.some.inj hN) hP hS hlk dL_holds_184
            · rw [if_pos c90] at hN
              refine lv_iload hx hb dL_holds_90 (lv_at hl 3 rfl) ?_
              refine lv_ldc (v := (-1000004)) hx hb hown (hts (.constant RL 38 (-1000004)) (List.mem_of_getElem? (i := 1) rfl)) dL_holds_92 ?_
              have hj94 : W p l e (headSpec wsL_holds ({ frames := 5, cells := 0, slots := 0, locals := 113 } : Room)).room s m ([.ref (ad 0)] : List Value).toArray below meth c H locs 0 0 (MQ below (va_Qi (fun x9 (G9 : Nat → va_E) => x9 = v ∧ G9 = G) (kE g L) A) ([.ref (ad 0)] : List Value).toArray s 0 0 A) (F0 m 102 ls [.int (if v78 = ((-1000004) : Int32) then (1 : Int32) else (0 : Int32))]) := by
                refine lv_iload hx hb dL_holds_102 (lv_at hl 1 rfl) ?_
                have hj104 : W p l e (headSpec wsL_holds ({ frames := 5, cells := 0, slots := 0, locals := 113 } : Room)).room s m ([.ref (ad 0)] : List Value).toArray below meth c H locs 0 0 (MQ below (va_Qi (fun x9 (G9 : Nat → va_E) => x9 = v ∧ G9 = G) (kE g L) A) ([.ref (ad 0)] : List Value).toArray s 0 0 A) (F0 m 112 ls [.int (if v82 = 0 then (1 : Int32) else (0 : Int32)), .int (if v78 = ((-1000004) : Int32) then (1 : Int32) else (0 : Int32))]) := by
                  refine lv_icmp_ne (tgt := 183) hx hb dL_holds_112 (by decide) (fun c93 => ?_) (fun c93 => ?_)
                  · rw [if_neg c93] at hN
                    refine lv_iconst (v := 0) hx hb dL_holds_183 (by decide) ?_
                    exact k_zretR hx hb hr (by decide) (Option.some.inj hN) hP hS hlk dL_holds_184
                  · rw [if_pos c93] at hN
                    refine lv_iload hx hb dL_holds_115 (lv_at hl 3 rfl) ?_
                    refine lv_ldc (v := (-1000004)) hx hb hown (hts (.constant RL 38 (-1000004)) (List.mem_of_getElem? (i := 1) rfl)) dL_holds_117 ?_
                    have hj119 : W p l e (headSpec wsL_holds ({ frames := 5, cells := 0, slots := 0, locals := 113 } : Room)).room s m ([.ref (ad 0)] : List Value).toArray below meth c H locs 0 0 (MQ below (va_Qi (fun x9 (G9 : Nat → va_E) => x9 = v ∧ G9 = G) (kE g L) A) ([.ref (ad 0)] : List Value).toArray s 0 0 A) (F0 m 127 ls [.int (if v78 = ((-1000004) : Int32) then (1 : Int32) else (0 : Int32))]) := by
                      refine lv_iload hx hb dL_holds_127 (lv_at hl 2 rfl) ?_
                      refine lv_ldc (v := (-1000004)) hx hb hown (hts (.constant RL 38 (-1000004)) (List.mem_of_getElem? (i := 1) rfl)) dL_holds_129 ?_
                      have hj131 : W p l e (headSpec wsL_holds ({ frames := 5, cells := 0, slots := 0, locals := 113 } : Room)).room s m ([.ref (ad 0)] : List Value).toArray below meth c H locs 0 0 (MQ below (va_Qi (fun x9 (G9 : Nat → va_E) => x9 = v ∧ G9 = G) (kE g L) A) ([.ref (ad 0)] : List Value).toArray s 0 0 A) (F0 m 139 ls [.int (if v80 = ((-1000004) : Int32) then (1 : Int32) else (0 : Int32)), .int (if v78 = ((-1000004) : Int32) then (1 : Int32) else (0 : Int32))]) := by
                        refine lv_icmp_ne (tgt := 183) hx hb dL_holds_139 (by decide) (fun c96 => ?_) (fun c96 => ?_)
                        · rw [if_neg c96] at hN
                          refine lv_iconst (v := 0) hx hb dL_holds_183 (by decide) ?_
                          exact k_zretR hx hb hr (by decide) (Option.some.inj hN) hP hS hlk dL_holds_184
                        · rw [if_pos c96] at hN
                          refine lv_iload hx hb dL_holds_142 (lv_at hl 4 rfl) ?_
                          have hj144 : W p l e (headSpec wsL_holds ({ frames := 5, cells := 0, slots := 0, locals := 113 } : Room)).room s m ([.ref (ad 0)] : List Value).toArray below meth c H locs 0 0 (MQ below (va_Qi (fun x9 (G9 : Nat → va_E) => x9 = v ∧ G9 = G) (kE g L) A) ([.ref (ad 0)] : List Value).toArray s 0 0 A) (F0 m 152 ls [.int (if v76 = 0 then (1 : Int32) else (0 : Int32))]) := by
                            refine lv_aload_n hx hb dL_holds_152 rfl (lv_at hl 5 rfl) ?_
                            refine lv_iload_n hx hb dL_holds_153 rfl (lv_at hl 7 rfl) ?_
                            refine lv_iconst (v := 2) hx hb dL_holds_154 (by decide) ?_
                            obtain ⟨v98, hv98, hN⟩ := oB_spec hN
                            refine k_iR hS (va_runV (As := [.int x3, .int (2 : Int32)]) (rest := [.int (if v76 = 0 then (1 : Int32) else (0 : Int32))]) ⟨hx, hb, hml, hown, hts⟩ (c_X3_clauseOf l g L hL G ad (x.1, x.2.1, x.2.2.1, x.2.2.2.1, x.2.2.2.2) hX x3 (2 : Int32) v98 hv98) (cwV 2 hts gL_holds_X3_clauseOf rfl rfl rfl (by decide +kernel) ⟨Nat.le_of_ble_eq_true rfl, Nat.le_of_ble_eq_true rfl⟩) (k_preV (C := RX3) (T := TX3) (N := 3) hC hS hP (hX.m 0 (by omega)) hX.o0 rfl) rfl rfl hl.1 rfl (lv_room (Nat.le_of_ble_eq_true rfl)) dL_holds_155 ⟨Nat.zero_le _, Nat.zero_le _⟩) (fun H locs hP hS => ?_)
                            refine lv_ldc (v := (-1000004)) hx hb hown (hts (.constant RL 38 (-1000004)) (List.mem_of_getElem? (i := 1) rfl)) dL_holds_158 ?_
                            have hj160 : W p l e (headSpec wsL_holds ({ frames := 5, cells := 0, slots := 0, locals := 113 } : Room)).room s m ([.ref (ad 0)] : List Value).toArray below meth c H locs 0 0 (MQ below (va_Qi (fun x9 (G9 : Nat → va_E) => x9 = v ∧ G9 = G) (kE g L) A) ([.ref (ad 0)] : List Value).toArray s 0 0 A) (F0 m 168 ls [.int (if v98 = ((-1000004) : Int32) then (1 : Int32) else (0 : Int32)), .int (if v76 = 0 then (1 : Int32) else (0 : Int32))]) := by
                              refine lv_icmp_ne (tgt := 183) hx hb dL_holds_168 (by decide) (fun c101 => ?_) (fun c101 => ?_)
                              · rw [if_neg c101] at hN
                                refine lv_iconst (v := 0) hx hb dL_holds_183 (by decide) ?_
                                exact k_zretR hx hb hr (by decide) (Option.some.inj hN) hP hS hlk dL_holds_184
                              · rw [if_pos c101] at hN
                                refine lv_iload hx hb dL_holds_171 (lv_at hl 4 rfl) ?_
                                refine lv_if_ne (tgt := 185) hx hb dL_holds_173 (by decide) (fun c102 => ?_) (fun c102 => ?_)
                                · rw [if_neg c102] at hN
                                  refine lv_iload hx hb dL_holds_185 (lv_at hl 3 rfl) ?_
                                  refine lv_ldc (v := (-1000004)) hx hb hown (hts (.constant RL 38 (-1000004)) (List.mem_of_getElem? (i := 1) rfl)) dL_holds_187 ?_
                                  refine lv_icmp_eq (tgt := 326) hx hb dL_holds_189 (by decide) (fun c103 => ?_) (fun c103 => ?_)
                                  · rw [if_pos c103] at hN
                                    refine lv_iinc (v := (x3 + 1)) (lv' := [(3, .int (x3 + 1)), (2, .int (x2 + (if (2 : Int32) ≤ v84 then (0 : Int32) else (1 : Int32)))), (7, .int v82), (6, .int v80), (5, .int v78), (4, .int v76), (0, .ref (ad 0)), (1, .int x1)]) hx hb dL_holds_326 hl (k := 7) rfl rfl (by decide) rfl (fun ls hl => ?_)
                                    refine lv_goto (tgt := 10) hx hb dL_holds_329 (by decide) ?_
                                    exact ih x1 (x2 + (if (2 : Int32) ≤ v84 then (0 : Int32) else (1 : Int32))) (x3 + 1)  _ _ _ hP hS (lv_sub hl [6, 7, 1, 0] rfl) hN
                                  · rw [if_neg c103] at hN
                                    refine lv_aload_n hx hb dL_holds_192 rfl (lv_at hl 5 rfl) ?_
                                    refine lv_iload_n hx hb dL_holds_193 rfl (lv_at hl 7 rfl) ?_
                                    refine lv_iconst (v := 5) hx hb dL_holds_194 (by decide) ?_
                                    obtain ⟨v104, hv104, hN⟩ := oB_spec hN
                                    refine k_iR hS (va_runV (As := [.int x3, .int (5 : Int32)]) (rest := []) ⟨hx, hb, hml, hown, hts⟩ (c_X3_clauseOf l g L hL G ad (x.1, x.2.1, x.2.2.1, x.2.2.2.1, x.2.2.2.2) hX x3 (5 : Int32) v104 hv104) (cwV 2 hts gL_holds_X3_clauseOf rfl rfl rfl (by decide +kernel) ⟨Nat.le_of_ble_eq_true rfl, Nat.le_of_ble_eq_true rfl⟩) (k_preV (C := RX3) (T := TX3) (N := 3) hC hS hP (hX.m 0 (by omega)) hX.o0 rfl) rfl rfl hl.1 rfl (lv_room (Nat.le_of_ble_eq_true rfl)) dL_holds_195 ⟨Nat.zero_le _, Nat.zero_le _⟩) (fun H locs hP hS => ?_)
                                    refine lv_istore (lv' := [(8, .int v104), (2, .int (x2 + (if (2 : Int32) ≤ v84 then (0 : Int32) else (1 : Int32)))), (7, .int v82), (6, .int v80), (5, .int v78), (4, .int v76), (0, .ref (ad 0)), (1, .int x1), (3, .int x3)]) hx hb dL_holds_198 hl (by decide) rfl (fun ls hl => ?_)
                                    refine lv_aload_n hx hb dL_holds_200 rfl (lv_at hl 6 rfl) ?_
                                    refine lv_iload hx hb dL_holds_201 (lv_at hl 4 rfl) ?_
                                    refine lv_iconst (v := 0) hx hb dL_holds_203 (by decide) ?_
                                    obtain ⟨v106, hv106, hN⟩ := oB_spec hN
                                    refine k_iR hS (va_runV (As := [.int v78, .int (0 : Int32)]) (rest := []) ⟨hx, hb, hml, hown, hts⟩ (c_X3_clauseOf l g L hL G ad (x.1, x.2.1, x.2.2.1, x.2.2.2.1, x.2.2.2.2) hX v78 (0 : Int32) v106 hv106) (cwV 2 hts gL_holds_X3_clauseOf rfl rfl rfl (by decide +kernel) ⟨Nat.le_of_ble_eq_true rfl, Nat.le_of_ble_eq_true rfl⟩) (k_preV (C := RX3) (T := TX3) (N := 3) hC hS hP (hX.m 0 (by omega)) hX.o0 rfl) rfl rfl hl.1 rfl (lv_room (Nat.le_of_ble_eq_true rfl)) dL_holds_204 ⟨Nat.zero_le _, Nat.zero_le _⟩) (fun H locs hP hS => ?_)
                                    refine lv_aload_n hx hb dL_holds_207 rfl (lv_at hl 6 rfl) ?_
                                    refine lv_iload hx hb dL_holds_208 (lv_at hl 3 rfl) ?_
                                    refine lv_iconst (v := 0) hx hb dL_holds_210 (by decide) ?_
                                    obtain ⟨v108, hv108, hN⟩ := oB_spec hN
                                    refine k_iR hS (va_runV (As := [.int v80, .int (0 : Int32)]) (rest := [.int v106]) ⟨hx, hb, hml, hown, hts⟩ (c_X3_clauseOf l g L hL G ad (x.1, x.2.1, x.2.2.1, x.2.2.2.1, x.2.2.2.2) hX v80 (0 : Int32) v108 hv108) (cwV 2 hts gL_holds_X3_clauseOf rfl rfl rfl (by decide +kernel) ⟨Nat.le_of_ble_eq_true rfl, Nat.le_of_ble_eq_true rfl⟩) (k_preV (C := RX3) (T := TX3) (N := 3) hC hS hP (hX.m 0 (by omega)) hX.o0 rfl) rfl rfl hl.1 rfl (lv_room (Nat.le_of_ble_eq_true rfl)) dL_holds_211 ⟨Nat.zero_le _, Nat.zero_le _⟩) (fun H locs hP hS => ?_)
                                    refine lv_ior hx hb dL_holds_214 ?_
                                    refine lv_istore (lv' := [(9, .int (v106 ||| v108)), (8, .int v104), (2, .int (x2 + (if (2 : Int32) ≤ v84 then (0 : Int32) else (1 : Int32)))), (7, .int v82), (6, .int v80), (5, .int v78), (4, .int v76), (0, .ref (ad 0)), (1, .int x1), (3, .int x3)]) hx hb dL_holds_215 hl (by decide) rfl (fun ls hl => ?_)
                                    refine lv_aload_n hx hb dL_holds_217 rfl (lv_at hl 7 rfl) ?_
                                    refine lv_iload hx hb dL_holds_218 (lv_at hl 5 rfl) ?_
                                    obtain ⟨v110, hv110, hN⟩ := oB_spec hN
                                    refine k_lR hS (va_runV (As := [.int v78]) (rest := []) ⟨hx, hb, hml, hown, hts⟩ (c_X3_tree l g L hL G ad (x.1, x.2.1, x.2.2.1, x.2.2.2.1, x.2.2.2.2) hX v78 v110 hv110) (cwV 1 hts gL_holds_X3_tree rfl rfl rfl (by decide +kernel) ⟨Nat.le_of_ble_eq_true rfl, Nat.le_of_ble_eq_true rfl⟩) (k_preV (C := RX3) (T := TX3) (N := 3) hC hS hP (hX.m 0 (by omega)) hX.o0 rfl) rfl rfl hl.1 rfl (lv_room (Nat.le_of_ble_eq_true rfl)) dL_holds_220 ⟨Nat.zero_le _, Nat.zero_le _⟩) (fun H locs hP hS => ?_)
                                    refine lv_aload_n hx hb dL_holds_223 rfl (lv_at hl 7 rfl) ?_
                                    refine lv_iload hx hb dL_holds_224 (lv_at hl 4 rfl) ?_
                                    obtain ⟨v112, hv112, hN⟩ := oB_spec hN
                                    refine k_lR hS (va_runV (As := [.int v80]) (rest := [.long v110]) ⟨hx, hb, hml, hown, hts⟩ (c_X3_tree l g L hL G ad (x.1, x.2.1, x.2.2.1, x.2.2.2.1, x.2.2.2.2) hX v80 v112 hv112) (cwV 1 hts gL_holds_X3_tree rfl rfl rfl (by decide +kernel) ⟨Nat.le_of_ble_eq_true rfl, Nat.le_of_ble_eq_true rfl⟩) (k_preV (C := RX3) (T := TX3) (N := 3) hC hS hP (hX.m 0 (by omega)) hX.o0 rfl) rfl rfl hl.1 rfl (lv_room (Nat.le_of_ble_eq_true rfl)) dL_holds_226 ⟨Nat.zero_le _, Nat.zero_le _⟩) (fun H locs hP hS => ?_)
                                    refine lv_lor hx hb dL_holds_229 ?_
                                    refine lv_lconst (v := 1) hx hb dL_holds_230 (by decide) ?_
                                    refine lv_iload_n hx hb dL_holds_231 rfl (lv_at hl 9 rfl) ?_
                                    refine lv_lshl hx hb dL_holds_232 rfl ?_
                                    refine lv_lor hx hb dL_holds_233 ?_
                                    refine lv_lstore (lv' := [(10, .long ((v110 ||| v112) ||| ((1 : Int64) <<< (Int32.toInt64 x3 &&& 63)))), (9, .int (v106 ||| v108)), (8, .int v104), (2, .int (x2 + (if (2 : Int32) ≤ v84 then (0 : Int32) else (1 : Int32)))), (7, .int v82), (6, .int v80), (5, .int v78), (4, .int v76), (0, .ref (ad 0)), (1, .int x1), (3, .int x3)]) hx hb dL_holds_234 hl (by decide) rfl (fun ls hl => ?_)
                                    refine lv_iload hx hb dL_holds_236 (lv_at hl 6 rfl) ?_
                                    refine lv_iload_n hx hb dL_holds_238 rfl (lv_at hl 10 rfl) ?_
                                    refine lv_icmp_ge (tgt := 324) hx hb dL_holds_239 (by decide) (fun c114 => ?_) (fun c114 => ?_)
                                    · rw [if_pos c114] at hN
                                      refine lv_iconst (v := 0) hx hb dL_holds_324 (by decide) ?_
                                      exact k_zretR hx hb hr (by decide) (Option.some.inj hN) hP hS hlk dL_holds_325
                                    · rw [if_neg c114] at hN
                                      refine lv_iload hx hb dL_holds_242 (lv_at hl 5 rfl) ?_
                                      refine lv_iload_n hx hb dL_holds_244 rfl (lv_at hl 10 rfl) ?_
                                      refine lv_icmp_ge (tgt := 324) hx hb dL_holds_245 (by decide) (fun c115 => ?_) (fun c115 => ?_)
                                      · rw [if_pos c115] at hN
                                        refine lv_iconst (v := 0) hx hb dL_holds_324 (by decide) ?_
                                        exact k_zretR hx hb hr (by decide) (Option.some.inj hN) hP hS hlk dL_holds_325
                                      · rw [if_neg c115] at hN
                                        refine lv_iload hx hb dL_holds_248 (lv_at hl 1 rfl) ?_
                                        refine lv_iconst (v := 3) hx hb dL_holds_250 (by decide) ?_
                                        refine lv_iconst (v := 2) hx hb dL_holds_251 (by decide) ?_
                                        refine lv_iload hx hb dL_holds_252 (lv_at hl 2 rfl) ?_
                                        refine lv_imul hx hb dL_holds_254 ?_
                                        refine lv_ishl hx hb dL_holds_255 ?_
                                        refine lv_iconst (v := (-1)) hx hb dL_holds_256 (by decide) ?_
                                        refine lv_ixor hx hb dL_holds_257 ?_
                                        refine lv_iand hx hb dL_holds_258 ?_
                                        refine lv_iload hx hb dL_holds_259 (lv_at hl 7 rfl) ?_
                                        refine lv_icmp_ne (tgt := 324) hx hb dL_holds_261 (by decide) (fun c116 => ?_) (fun c116 => ?_)
                                        · rw [if_neg c116] at hN
                                          refine lv_iconst (v := 0) hx hb dL_holds_324 (by decide) ?_
                                          exact k_zretR hx hb hr (by decide) (Option.some.inj hN) hP hS hlk dL_holds_325
                                        · rw [if_pos c116] at hN
                                          refine lv_aload_n hx hb dL_holds_264 rfl (lv_at hl 8 rfl) ?_
                                          refine lv_iload hx hb dL_holds_265 (lv_at hl 6 rfl) ?_
                                          refine lv_iconst (v := 0) hx hb dL_holds_267 (by decide) ?_
                                          obtain ⟨v117, hv117, hN⟩ := oB_spec hN
                                          refine k_iR hS (va_runV (As := [.int v78, .int (0 : Int32)]) (rest := []) ⟨hx, hb, hml, hown, hts⟩ (c_X3_clauseOf l g L hL G ad (x.1, x.2.1, x.2.2.1, x.2.2.2.1, x.2.2.2.2) hX v78 (0 : Int32) v117 hv117) (cwV 2 hts gL_holds_X3_clauseOf rfl rfl rfl (by decide +kernel) ⟨Nat.le_of_ble_eq_true rfl, Nat.le_of_ble_eq_true rfl⟩) (k_preV (C := RX3) (T := TX3) (N := 3) hC hS hP (hX.m 0 (by omega)) hX.o0 rfl) rfl rfl hl.1 rfl (lv_room (Nat.le_of_ble_eq_true rfl)) dL_holds_268 ⟨Nat.zero_le _, Nat.zero_le _⟩) (fun H locs hP hS => ?_)
                                          refine lv_iconst (v := 2) hx hb dL_holds_271 (by decide) ?_
                                          refine lv_iload hx hb dL_holds_272 (lv_at hl 2 rfl) ?_
                                          refine lv_imul hx hb dL_holds_274 ?_
                                          refine lv_ishr hx hb dL_holds_275 ?_
                                          refine lv_iconst (v := 3) hx hb dL_holds_276 (by decide) ?_
                                          refine lv_iand hx hb dL_holds_277 ?_
                                          refine lv_iconst (v := 1) hx hb dL_holds_278 (by decide) ?_
                                          refine lv_icmp_ne (tgt := 324) hx hb dL_holds_279 (by decide) (fun c119 => ?_) (fun c119 => ?_)
                                          · rw [if_neg c119] at hN
                                            refine lv_iconst (v := 0) hx hb dL_holds_324 (by decide) ?_
                                            exact k_zretR hx hb hr (by decide) (Option.some.inj hN) hP hS hlk dL_holds_325
                                          · rw [if_pos c119] at hN
                                            refine lv_aload_n hx hb dL_holds_282 rfl (lv_at hl 8 rfl) ?_
                                            refine lv_iload hx hb dL_holds_283 (lv_at hl 5 rfl) ?_
                                            refine lv_iconst (v := 0) hx hb dL_holds_285 (by decide) ?_
                                            obtain ⟨v120, hv120, hN⟩ := oB_spec hN
                                            refine k_iR hS (va_runV (As := [.int v80, .int (0 : Int32)]) (rest := []) ⟨hx, hb, hml, hown, hts⟩ (c_X3_clauseOf l g L hL G ad (x.1, x.2.1, x.2.2.1, x.2.2.2.1, x.2.2.2.2) hX v80 (0 : Int32) v120 hv120) (cwV 2 hts gL_holds_X3_clauseOf rfl rfl rfl (by decide +kernel) ⟨Nat.le_of_ble_eq_true rfl, Nat.le_of_ble_eq_true rfl⟩) (k_preV (C := RX3) (T := TX3) (N := 3) hC hS hP (hX.m 0 (by omega)) hX.o0 rfl) rfl rfl hl.1 rfl (lv_room (Nat.le_of_ble_eq_true rfl)) dL_holds_286 ⟨Nat.zero_le _, Nat.zero_le _⟩) (fun H locs hP hS => ?_)
                                            refine lv_iconst (v := 2) hx hb dL_holds_289 (by decide) ?_
                                            refine lv_iload hx hb dL_holds_290 (lv_at hl 2 rfl) ?_
                                            refine lv_imul hx hb dL_holds_292 ?_
                                            refine lv_ishr hx hb dL_holds_293 ?_
                                            refine lv_iconst (v := 3) hx hb dL_holds_294 (by decide) ?_
                                            refine lv_iand hx hb dL_holds_295 ?_
                                            refine lv_iconst (v := 2) hx hb dL_holds_296 (by decide) ?_
                                            refine lv_icmp_ne (tgt := 324) hx hb dL_holds_297 (by decide) (fun c122 => ?_) (fun c122 => ?_)
                                            · rw [if_neg c122] at hN
                                              refine lv_iconst (v := 0) hx hb dL_holds_324 (by decide) ?_
                                              exact k_zretR hx hb hr (by decide) (Option.some.inj hN) hP hS hlk dL_holds_325
                                            · rw [if_pos c122] at hN
                                              refine lv_aload_n hx hb dL_holds_300 rfl (lv_at hl 8 rfl) ?_
                                              refine lv_iload_n hx hb dL_holds_301 rfl (lv_at hl 10 rfl) ?_
                                              obtain ⟨v123, hv123, hN⟩ := oB_spec hN
                                              refine k_lR hS (va_runV (As := [.int x3]) (rest := []) ⟨hx, hb, hml, hown, hts⟩ (c_X3_tree l g L hL G ad (x.1, x.2.1, x.2.2.1, x.2.2.2.1, x.2.2.2.2) hX x3 v123 hv123) (cwV 1 hts gL_holds_X3_tree rfl rfl rfl (by decide +kernel) ⟨Nat.le_of_ble_eq_true rfl, Nat.le_of_ble_eq_true rfl⟩) (k_preV (C := RX3) (T := TX3) (N := 3) hC hS hP (hX.m 0 (by omega)) hX.o0 rfl) rfl rfl hl.1 rfl (lv_room (Nat.le_of_ble_eq_true rfl)) dL_holds_302 ⟨Nat.zero_le _, Nat.zero_le _⟩) (fun H locs hP hS => ?_)
                                              refine lv_lload hx hb dL_holds_305 (lv_at hl 0 rfl) ?_
                                              refine W.lcmp hx hb dL_holds_307 ?_
                                              refine lv_if_ne (tgt := 324) hx hb dL_holds_308 (by decide) (fun c125 => ?_) (fun c125 => ?_)
                                              · rw [if_neg c125] at hN
                                                refine lv_iconst (v := 0) hx hb dL_holds_324 (by decide) ?_
                                                exact k_zretR hx hb hr (by decide) (Option.some.inj hN) hP hS hlk dL_holds_325
                                              · rw [if_pos c125] at hN
                                                refine lv_aload_n hx hb dL_holds_311 rfl (lv_at hl 8 rfl) ?_
                                                refine lv_iload hx hb dL_holds_312 (lv_at hl 6 rfl) ?_
                                                refine lv_bipush (v := 8) hx hb dL_holds_314 (by decide) ?_
                                                obtain ⟨v126, hv126, hN⟩ := oB_spec hN
                                                refine k_iR hS (va_runV (As := [.int v78, .int (8 : Int32)]) (rest := []) ⟨hx, hb, hml, hown, hts⟩ (c_X3_clauseOf l g L hL G ad (x.1, x.2.1, x.2.2.1, x.2.2.2.1, x.2.2.2.2) hX v78 (8 : Int32) v126 hv126) (cwV 2 hts gL_holds_X3_clauseOf rfl rfl rfl (by decide +kernel) ⟨Nat.le_of_ble_eq_true rfl, Nat.le_of_ble_eq_true rfl⟩) (k_preV (C := RX3) (T := TX3) (N := 3) hC hS hP (hX.m 0 (by omega)) hX.o0 rfl) rfl rfl hl.1 rfl (lv_room (Nat.le_of_ble_eq_true rfl)) dL_holds_316 ⟨Nat.zero_le _, Nat.zero_le _⟩) (fun H locs hP hS => ?_)
                                                refine lv_iload hx hb dL_holds_319 (lv_at hl 4 rfl) ?_
                                                refine lv_icmp_lt (tgt := 326) hx hb dL_holds_321 (by decide) (fun c128 => ?_) (fun c128 => ?_)
                                                · rw [if_pos c128] at hN
                                                  refine lv_iinc (v := (x3 + 1)) (lv' := [(3, .int (x3 + 1)), (10, .long ((v110 ||| v112) ||| ((1 : Int64) <<< (Int32.toInt64 x3 &&& 63)))), (9, .int (v106 ||| v108)), (8, .int v104), (2, .int (x2 + (if (2 : Int32) ≤ v84 then (0 : Int32) else (1 : Int32)))), (7, .int v82), (6, .int v80), (5, .int v78), (4, .int v76), (0, .ref (ad 0)), (1, .int x1)]) hx hb dL_holds_326 hl (k := 10) rfl rfl (by decide) rfl (fun ls hl => ?_)
                                                  refine lv_goto (tgt := 10) hx hb dL_holds_329 (by decide) ?_
                                                  exact ih x1 (x2 + (if (2 : Int32) ≤ v84 then (0 : Int32) else (1 : Int32))) (x3 + 1)  _ _ _ hP hS (lv_sub hl [9, 10, 4, 0] rfl) hN
                                                · rw [if_neg c128] at hN
                                                  refine lv_iconst (v := 0) hx hb dL_holds_324 (by decide) ?_
                                                  exact k_zretR hx hb hr (by decide) (Option.some.inj hN) hP hS hlk dL_holds_325
                                · rw [if_pos c102] at hN
                                  refine lv_aload_n hx hb dL_holds_176 rfl (lv_at hl 5 rfl) ?_
                                  obtain ⟨v129, hv129, hN⟩ := oB_spec hN
                                  refine k_iR hS (va_runV (As := []) (rest := []) ⟨hx, hb, hml, hown, hts⟩ (c_X3_refutation l g L hL G ad (x.1, x.2.1, x.2.2.1, x.2.2.2.1, x.2.2.2.2) hX v129 hv129) (cwV 0 hts gL_holds_X3_refutation rfl rfl rfl (by decide +kernel) ⟨Nat.le_of_ble_eq_true rfl, Nat.le_of_ble_eq_true rfl⟩) (k_preV (C := RX3) (T := TX3) (N := 3) hC hS hP (hX.m 0 (by omega)) hX.o0 rfl) rfl rfl hl.1 rfl (lv_room (Nat.le_of_ble_eq_true rfl)) dL_holds_177 ⟨Nat.zero_le _, Nat.zero_le _⟩) (fun H locs hP hS => ?_)
                                  refine lv_if_ge (tgt := 185) hx hb dL_holds_180 (by decide) (fun c131 => ?_) (fun c131 => ?_)
                                  · rw [if_pos c131] at hN
                                    refine lv_iload hx hb dL_holds_185 (lv_at hl 3 rfl) ?_
                                    refine lv_ldc (v := (-1000004)) hx hb hown (hts (.constant RL 38 (-1000004)) (List.mem_of_getElem? (i := 1) rfl)) dL_holds_187 ?_
                                    refine lv_icmp_eq (tgt := 326) hx hb dL_holds_189 (by decide) (fun c132 => ?_) (fun c132 => ?_)
                                    · rw [if_pos c132] at hN
                                      refine lv_iinc (v := (x3 + 1)) (lv' := [(3, .int (x3 + 1)), (2, .int (x2 + (if (2 : Int32) ≤ v84 then (0 : Int32) else (1 : Int32)))), (7, .int v82), (6, .int v80), (5, .int v78), (4, .int v76), (0, .ref (ad 0)), (1, .int x1)]) hx hb dL_holds_326 hl (k := 7) rfl rfl (by decide) rfl (fun ls hl => ?_)
                                      refine lv_goto (tgt := 10) hx hb dL_holds_329 (by decide) ?_
                                      exact ih x1 (x2 + (if (2 : Int32) ≤ v84 then (0 : Int32) else (1 : Int32))) (x3 + 1)  _ _ _ hP hS (lv_sub hl [6, 7, 1, 0] rfl) hN
                                    · rw [if_neg c132] at hN
                                      refine lv_aload_n hx hb dL_holds_192 rfl (lv_at hl 5 rfl) ?_
                                      refine lv_iload_n hx hb dL_holds_193 rfl (lv_at hl 7 rfl) ?_
                                      refine lv_iconst (v := 5) hx hb dL_holds_194 (by decide) ?_
                                      obtain ⟨v133, hv133, hN⟩ := oB_spec hN
                                      refine k_iR hS (va_runV (As := [.int x3, .int (5 : Int32)]) (rest := []) ⟨hx, hb, hml, hown, hts⟩ (c_X3_clauseOf l g L hL G ad (x.1, x.2.1, x.2.2.1, x.2.2.2.1, x.2.2.2.2) hX x3 (5 : Int32) v133 hv133) (cwV 2 hts gL_holds_X3_clauseOf rfl rfl rfl (by decide +kernel) ⟨Nat.le_of_ble_eq_true rfl, Nat.le_of_ble_eq_true rfl⟩) (k_preV (C := RX3) (T := TX3) (N := 3) hC hS hP (hX.m 0 (by omega)) hX.o0 rfl) rfl rfl hl.1 rfl (lv_room (Nat.le_of_ble_eq_true rfl)) dL_holds_195 ⟨Nat.zero_le _, Nat.zero_le _⟩) (fun H locs hP hS => ?_)
                                      refine lv_istore (lv' := [(8, .int v133), (2, .int (x2 + (if (2 : Int32) ≤ v84 then (0 : Int32) else (1 : Int32)))), (7, .int v82), (6, .int v80), (5, .int v78), (4, .int v76), (0, .ref (ad 0)), (1, .int x1), (3, .int x3)]) hx hb dL_holds_198 hl (by decide) rfl (fun ls hl => ?_)
                                      refine lv_aload_n hx hb dL_holds_200 rfl (lv_at hl 6 rfl) ?_
                                      refine lv_iload hx hb dL_holds_201 (lv_at hl 4 rfl) ?_
                                      refine lv_iconst (v := 0) hx hb dL_holds_203 (by decide) ?_
                                      obtain ⟨v135, hv135, hN⟩ := oB_spec hN
                                      refine k_iR hS (va_runV (As := [.int v78, .int (0 : Int32)]) (rest := []) ⟨hx, hb, hml, hown, hts⟩ (c_X3_clauseOf l g L hL G ad (x.1, x.2.1, x.2.2.1, x.2.2.2.1, x.2.2.2.2) hX v78 (0 : Int32) v135 hv135) (cwV 2 hts gL_holds_X3_clauseOf rfl rfl rfl (by decide +kernel) ⟨Nat.le_of_ble_eq_true rfl, Nat.le_of_ble_eq_true rfl⟩) (k_preV (C := RX3) (T := TX3) (N := 3) hC hS hP (hX.m 0 (by omega)) hX.o0 rfl) rfl rfl hl.1 rfl (lv_room (Nat.le_of_ble_eq_true rfl)) dL_holds_204 ⟨Nat.zero_le _, Nat.zero_le _⟩) (fun H locs hP hS => ?_)
                                      refine lv_aload_n hx hb dL_holds_207 rfl (lv_at hl 6 rfl) ?_
                                      refine lv_iload hx hb dL_holds_208 (lv_at hl 3 rfl) ?_
                                      refine lv_iconst (v := 0) hx hb dL_holds_210 (by decide) ?_
                                      obtain ⟨v137, hv137, hN⟩ := oB_spec hN
                                      refine k_iR hS (va_runV (As := [.int v80, .int (0 : Int32)]) (rest := [.int v135]) ⟨hx, hb, hml, hown, hts⟩ (c_X3_clauseOf l g L hL G ad (x.1, x.2.1, x.2.2.1, x.2.2.2.1, x.2.2.2.2) hX v80 (0 : Int32) v137 hv137) (cwV 2 hts gL_holds_X3_clauseOf rfl rfl rfl (by decide +kernel) ⟨Nat.le_of_ble_eq_true rfl, Nat.le_of_ble_eq_true rfl⟩) (k_preV (C := RX3) (T := TX3) (N := 3) hC hS hP (hX.m 0 (by omega)) hX.o0 rfl) rfl rfl hl.1 rfl (lv_room (Nat.le_of_ble_eq_true rfl)) dL_holds_211 ⟨Nat.zero_le _, Nat.zero_le _⟩) (fun H locs hP hS => ?_)
                                      refine lv_ior hx hb dL_holds_214 ?_
                                      refine lv_istore (lv' := [(9, .int (v135 ||| v137)), (8, .int v133), (2, .int (x2 + (if (2 : Int32) ≤ v84 then (0 : Int32) else (1 : Int32)))), (7, .int v82), (6, .int v80), (5, .int v78), (4, .int v76), (0, .ref (ad 0)), (1, .int x1), (3, .int x3)]) hx hb dL_holds_215 hl (by decide) rfl (fun ls hl => ?_)
                                      refine lv_aload_n hx hb dL_holds_217 rfl (lv_at hl 7 rfl) ?_
                                      refine lv_iload hx hb dL_holds_218 (lv_at hl 5 rfl) ?_
                                      obtain ⟨v139, hv139, hN⟩ := oB_spec hN
                                      refine k_lR hS (va_runV (As := [.int v78]) (rest := []) ⟨hx, hb, hml, hown, hts⟩ (c_X3_tree l g L hL G ad (x.1, x.2.1, x.2.2.1, x.2.2.2.1, x.2.2.2.2) hX v78 v139 hv139) (cwV 1 hts gL_holds_X3_tree rfl rfl rfl (by decide +kernel) ⟨Nat.le_of_ble_eq_true rfl, Nat.le_of_ble_eq_true rfl⟩) (k_preV (C := RX3) (T := TX3) (N := 3) hC hS hP (hX.m 0 (by omega)) hX.o0 rfl) rfl rfl hl.1 rfl (lv_room (Nat.le_of_ble_eq_true rfl)) dL_holds_220 ⟨Nat.zero_le _, Nat.zero_le _⟩) (fun H locs hP hS => ?_)
                                      refine lv_aload_n hx hb dL_holds_223 rfl (lv_at hl 7 rfl) ?_
                                      refine lv_iload hx hb dL_holds_224 (lv_at hl 4 rfl) ?_
                                      obtain ⟨v141, hv141, hN⟩ := oB_spec hN
                                      refine k_lR hS (va_runV (As := [.int v80]) (rest := [.long v139]) ⟨hx, hb, hml, hown, hts⟩ (c_X3_tree l g L hL G ad (x.1, x.2.1, x.2.2.1, x.2.2.2.1, x.2.2.2.2) hX v80 v141 hv141) (cwV 1 hts gL_holds_X3_tree rfl rfl rfl (by decide +kernel) ⟨Nat.le_of_ble_eq_true rfl, Nat.le_of_ble_eq_true rfl⟩) (k_preV (C := RX3) (T := TX3) (N := 3) hC hS hP (hX.m 0 (by omega)) hX.o0 rfl) rfl rfl hl.1 rfl (lv_room (Nat.le_of_ble_eq_true rfl)) dL_holds_226 ⟨Nat.zero_le _, Nat.zero_le _⟩) (fun H locs hP hS => ?_)
                                      refine lv_lor hx hb dL_holds_229 ?_
                                      refine lv_lconst (v := 1) hx hb dL_holds_230 (by decide) ?_
                                      refine lv_iload_n hx hb dL_holds_231 rfl (lv_at hl 9 rfl) ?_
                                      refine lv_lshl hx hb dL_holds_232 rfl ?_
                                      refine lv_lor hx hb dL_holds_233 ?_
                                      refine lv_lstore (lv' := [(10, .long ((v139 ||| v141) ||| ((1 : Int64) <<< (Int32.toInt64 x3 &&& 63)))), (9, .int (v135 ||| v137)), (8, .int v133), (2, .int (x2 + (if (2 : Int32) ≤ v84 then (0 : Int32) else (1 : Int32)))), (7, .int v82), (6, .int v80), (5, .int v78), (4, .int v76), (0, .ref (ad 0)), (1, .int x1), (3, .int x3)]) hx hb dL_holds_234 hl (by decide) rfl (fun ls hl => ?_)
                                      refine lv_iload hx hb dL_holds_236 (lv_at hl 6 rfl) ?_
                                      refine lv_iload_n hx hb dL_holds_238 rfl (lv_at hl 10 rfl) ?_
                                      refine lv_icmp_ge (tgt := 324) hx hb dL_holds_239 (by decide) (fun c143 => ?_) (fun c143 => ?_)
                                      · rw [if_pos c143] at hN
                                        refine lv_iconst (v := 0) hx hb dL_holds_324 (by decide) ?_
                                        exact k_zretR hx hb hr (by decide) (Option.some.inj hN) hP hS hlk dL_holds_325
                                      · rw [if_neg c143] at hN
                                        refine lv_iload hx hb dL_holds_242 (lv_at hl 5 rfl) ?_
                                        refine lv_iload_n hx hb dL_holds_244 rfl (lv_at hl 10 rfl) ?_
                                        refine lv_icmp_ge (tgt := 324) hx hb dL_holds_245 (by decide) (fun c144 => ?_) (fun c144 => ?_)
                                        · rw [if_pos c144] at hN
                                          refine lv_iconst (v := 0) hx hb dL_holds_324 (by decide) ?_
                                          exact k_zretR hx hb hr (by decide) (Option.some.inj hN) hP hS hlk dL_holds_325
                                        · rw [if_neg c144] at hN
                                          refine lv_iload hx hb dL_holds_248 (lv_at hl 1 rfl) ?_
                                          refine lv_iconst (v := 3) hx hb dL_holds_250 (by decide) ?_
                                          refine lv_iconst (v := 2) hx hb dL_holds_251 (by decide) ?_
                                          refine lv_iload hx hb dL_holds_252 (lv_at hl 2 rfl) ?_
                                          refine lv_imul hx hb dL_holds_254 ?_
                                          refine lv_ishl hx hb dL_holds_255 ?_
                                          refine lv_iconst (v := (-1)) hx hb dL_holds_256 (by decide) ?_
                                          refine lv_ixor hx hb dL_holds_257 ?_
                                          refine lv_iand hx hb dL_holds_258 ?_
                                          refine lv_iload hx hb dL_holds_259 (lv_at hl 7 rfl) ?_
                                          refine lv_icmp_ne (tgt := 324) hx hb dL_holds_261 (by decide) (fun c145 => ?_) (fun c145 => ?_)
                                          · rw [if_neg c145] at hN
                                            refine lv_iconst (v := 0) hx hb dL_holds_324 (by decide) ?_
                                            exact k_zretR hx hb hr (by decide) (Option.some.inj hN) hP hS hlk dL_holds_325
                                          · rw [if_pos c145] at hN
                                            refine lv_aload_n hx hb dL_holds_264 rfl (lv_at hl 8 rfl) ?_
                                            refine lv_iload hx hb dL_holds_265 (lv_at hl 6 rfl) ?_
                                            refine lv_iconst (v := 0) hx hb dL_holds_267 (by decide) ?_
                                            obtain ⟨v146, hv146, hN⟩ := oB_spec hN
                                            refine k_iR hS (va_runV (As := [.int v78, .int (0 : Int32)]) (rest := []) ⟨hx, hb, hml, hown, hts⟩ (c_X3_clauseOf l g L hL G ad (x.1, x.2.1, x.2.2.1, x.2.2.2.1, x.2.2.2.2) hX v78 (0 : Int32) v146 hv146) (cwV 2 hts gL_holds_X3_clauseOf rfl rfl rfl (by decide +kernel) ⟨Nat.le_of_ble_eq_true rfl, Nat.le_of_ble_eq_true rfl⟩) (k_preV (C := RX3) (T := TX3) (N := 3) hC hS hP (hX.m 0 (by omega)) hX.o0 rfl) rfl rfl hl.1 rfl (lv_room (Nat.le_of_ble_eq_true rfl)) dL_holds_268 ⟨Nat.zero_le _, Nat.zero_le _⟩) (fun H locs hP hS => ?_)
                                            refine lv_iconst (v := 2) hx hb dL_holds_271 (by decide) ?_
                                            refine lv_iload hx hb dL_holds_272 (lv_at hl 2 rfl) ?_
                                            refine lv_imul hx hb dL_holds_274 ?_
                                            refine lv_ishr hx hb dL_holds_275 ?_
                                            refine lv_iconst (v := 3) hx hb dL_holds_276 (by decide) ?_
                                            refine lv_iand hx hb dL_holds_277 ?_
                                            refine lv_iconst (v := 1) hx hb dL_holds_278 (by decide) ?_
                                            refine lv_icmp_ne (tgt := 324) hx hb dL_holds_279 (by decide) (fun c148 => ?_) (fun c148 => ?_)
                                            · rw [if_neg c148] at hN
                                              refine lv_iconst (v := 0) hx hb dL_holds_324 (by decide) ?_
                                              exact k_zretR hx hb hr (by decide) (Option.some.inj hN) hP hS hlk dL_holds_325
                                            · rw [if_pos c148] at hN
                                              refine lv_aload_n hx hb dL_holds_282 rfl (lv_at hl 8 rfl) ?_
                                              refine lv_iload hx hb dL_holds_283 (lv_at hl 5 rfl) ?_
                                              refine lv_iconst (v := 0) hx hb dL_holds_285 (by decide) ?_
                                              obtain ⟨v149, hv149, hN⟩ := oB_spec hN
                                              refine k_iR hS (va_runV (As := [.int v80, .int (0 : Int32)]) (rest := []) ⟨hx, hb, hml, hown, hts⟩ (c_X3_clauseOf l g L hL G ad (x.1, x.2.1, x.2.2.1, x.2.2.2.1, x.2.2.2.2) hX v80 (0 : Int32) v149 hv149) (cwV 2 hts gL_holds_X3_clauseOf rfl rfl rfl (by decide +kernel) ⟨Nat.le_of_ble_eq_true rfl, Nat.le_of_ble_eq_true rfl⟩) (k_preV (C := RX3) (T := TX3) (N := 3) hC hS hP (hX.m 0 (by omega)) hX.o0 rfl) rfl rfl hl.1 rfl (lv_room (Nat.le_of_ble_eq_true rfl)) dL_holds_286 ⟨Nat.zero_le _, Nat.zero_le _⟩) (fun H locs hP hS => ?_)
                                              refine lv_iconst (v := 2) hx hb dL_holds_289 (by decide) ?_
                                              refine lv_iload hx hb dL_holds_290 (lv_at hl 2 rfl) ?_
                                              refine lv_imul hx hb dL_holds_292 ?_
                                              refine lv_ishr hx hb dL_holds_293 ?_
                                              refine lv_iconst (v := 3) hx hb dL_holds_294 (by decide) ?_
                                              refine lv_iand hx hb dL_holds_295 ?_
                                              refine lv_iconst (v := 2) hx hb dL_holds_296 (by decide) ?_
                                              refine lv_icmp_ne (tgt := 324) hx hb dL_holds_297 (by decide) (fun c151 => ?_) (fun c151 => ?_)
                                              · rw [if_neg c151] at hN
                                                refine lv_iconst (v := 0) hx hb dL_holds_324 (by decide) ?_
                                                exact k_zretR hx hb hr (by decide) (Option.some.inj hN) hP hS hlk dL_holds_325
                                              · rw [if_pos c151] at hN
                                                refine lv_aload_n hx hb dL_holds_300 rfl (lv_at hl 8 rfl) ?_
                                                refine lv_iload_n hx hb dL_holds_301 rfl (lv_at hl 10 rfl) ?_
                                                obtain ⟨v152, hv152, hN⟩ := oB_spec hN
                                                refine k_lR hS (va_runV (As := [.int x3]) (rest := []) ⟨hx, hb, hml, hown, hts⟩ (c_X3_tree l g L hL G ad (x.1, x.2.1, x.2.2.1, x.2.2.2.1, x.2.2.2.2) hX x3 v152 hv152) (cwV 1 hts gL_holds_X3_tree rfl rfl rfl (by decide +kernel) ⟨Nat.le_of_ble_eq_true rfl, Nat.le_of_ble_eq_true rfl⟩) (k_preV (C := RX3) (T := TX3) (N := 3) hC hS hP (hX.m 0 (by omega)) hX.o0 rfl) rfl rfl hl.1 rfl (lv_room (Nat.le_of_ble_eq_true rfl)) dL_holds_302 ⟨Nat.zero_le _, Nat.zero_le _⟩) (fun H locs hP hS => ?_)
                                                refine lv_lload hx hb dL_holds_305 (lv_at hl 0 rfl) ?_
                                                refine W.lcmp hx hb dL_holds_307 ?_
                                                refine lv_if_ne (tgt := 324) hx hb dL_holds_308 (by decide) (fun c154 => ?_) (fun c154 => ?_)
                                                · rw [if_neg c154] at hN
                                                  refine lv_iconst (v := 0) hx hb dL_holds_324 (by decide) ?_
                                                  exact k_zretR hx hb hr (by decide) (Option.some.inj hN) hP hS hlk dL_holds_325
                                                · rw [if_pos c154] at hN
                                                  refine lv_aload_n hx hb dL_holds_311 rfl (lv_at hl 8 rfl) ?_
                                                  refine lv_iload hx hb dL_holds_312 (lv_at hl 6 rfl) ?_
                                                  refine lv_bipush (v := 8) hx hb dL_holds_314 (by decide) ?_
                                                  obtain ⟨v155, hv155, hN⟩ := oB_spec hN
                                                  refine k_iR hS (va_runV (As := [.int v78, .int (8 : Int32)]) (rest := []) ⟨hx, hb, hml, hown, hts⟩ (c_X3_clauseOf l g L hL G ad (x.1, x.2.1, x.2.2.1, x.2.2.2.1, x.2.2.2.2) hX v78 (8 : Int32) v155 hv155) (cwV 2 hts gL_holds_X3_clauseOf rfl rfl rfl (by decide +kernel) ⟨Nat.le_of_ble_eq_true rfl, Nat.le_of_ble_eq_true rfl⟩) (k_preV (C := RX3) (T := TX3) (N := 3) hC hS hP (hX.m 0 (by omega)) hX.o0 rfl) rfl rfl hl.1 rfl (lv_room (Nat.le_of_ble_eq_true rfl)) dL_holds_316 ⟨Nat.zero_le _, Nat.zero_le _⟩) (fun H locs hP hS => ?_)
                                                  refine lv_iload hx hb dL_holds_319 (lv_at hl 4 rfl) ?_
                                                  refine lv_icmp_lt (tgt := 326) hx hb dL_holds_321 (by decide) (fun c157 => ?_) (fun c157 => ?_)
                                                  · rw [if_pos c157] at hN
                                                    refine lv_iinc (v := (x3 + 1)) (lv' := [(3, .int (x3 + 1)), (10, .long ((v139 ||| v141) ||| ((1 : Int64) <<< (Int32.toInt64 x3 &&& 63)))), (9, .int (v135 ||| v137)), (8, .int v133), (2, .int (x2 + (if (2 : Int32) ≤ v84 then (0 : Int32) else (1 : Int32)))), (7, .int v82), (6, .int v80), (5, .int v78), (4, .int v76), (0, .ref (ad 0)), (1, .int x1)]) hx hb dL_holds_326 hl (k := 10) rfl rfl (by decide) rfl (fun ls hl => ?_)
                                                    refine lv_goto (tgt := 10) hx hb dL_holds_329 (by decide) ?_
                                                    exact ih x1 (x2 + (if (2 : Int32) ≤ v84 then (0 : Int32) else (1 : Int32))) (x3 + 1)  _ _ _ hP hS (lv_sub hl [9, 10, 4, 0] rfl) hN
                                                  · rw [if_neg c157] at hN
                                                    refine lv_iconst (v := 0) hx hb dL_holds_324 (by decide) ?_
                                                    exact k_zretR hx hb hr (by decide) (Option.some.inj hN) hP hS hlk dL_holds_325
                                  · rw [if_neg c131] at hN
                                    refine lv_iconst (v := 0) hx hb dL_holds_183 (by decide) ?_
                                    exact k_zretR hx hb hr (by decide) (Option.some.inj hN) hP hS hlk dL_holds_184
                            refine lv_icmp_ne (tgt := 167) hx hb dL_holds_160 (by decide) (fun c100 => ?_) (fun c100 => ?_)
                            · rw [if_neg c100] at hj160
                              refine lv_iconst (v := 0) hx hb dL_holds_167 (by decide) ?_
                              exact hj160
                            · rw [if_pos c100] at hj160
                              refine lv_iconst (v := 1) hx hb dL_holds_163 (by decide) ?_
                              refine lv_goto (tgt := 168) hx hb dL_holds_164 (by decide) ?_
                              exact hj160
                          refine lv_if_ne (tgt := 151) hx hb dL_holds_144 (by decide) (fun c97 => ?_) (fun c97 => ?_)
                          · rw [if_neg c97] at hj144
                            refine lv_iconst (v := 0) hx hb dL_holds_151 (by decide) ?_
                            exact hj144
                          · rw [if_pos c97] at hj144
                            refine lv_iconst (v := 1) hx hb dL_holds_147 (by decide) ?_
                            refine lv_goto (tgt := 152) hx hb dL_holds_148 (by decide) ?_
                            exact hj144
                      refine lv_icmp_ne (tgt := 138) hx hb dL_holds_131 (by decide) (fun c95 => ?_) (fun c95 => ?_)
                      · rw [if_neg c95] at hj131
                        refine lv_iconst (v := 0) hx hb dL_holds_138 (by decide) ?_
                        exact hj131
                      · rw [if_pos c95] at hj131
                        refine lv_iconst (v := 1) hx hb dL_holds_134 (by decide) ?_
                        refine lv_goto (tgt := 139) hx hb dL_holds_135 (by decide) ?_
                        exact hj131
                    refine lv_icmp_ne (tgt := 126) hx hb dL_holds_119 (by decide) (fun c94 => ?_) (fun c94 => ?_)
                    · rw [if_neg c94] at hj119
                      refine lv_iconst (v := 0) hx hb dL_holds_126 (by decide) ?_
                      exact hj119
                    · rw [if_pos c94] at hj119
                      refine lv_iconst (v := 1) hx hb dL_holds_122 (by decide) ?_
                      refine lv_goto (tgt := 127) hx hb dL_holds_123 (by decide) ?_
                      exact hj119
                refine lv_if_ne (tgt := 111) hx hb dL_holds_104 (by decide) (fun c92 => ?_) (fun c92 => ?_)
                · rw [if_neg c92] at hj104
                  refine lv_iconst (v := 0) hx hb dL_holds_111 (by decide) ?_
                  exact hj104
                · rw [if_pos c92] at hj104
                  refine lv_iconst (v := 1) hx hb dL_holds_107 (by decide) ?_
                  refine lv_goto (tgt := 112) hx hb dL_holds_108 (by decide) ?_
                  exact hj104
              refine lv_icmp_ne (tgt := 101) hx hb dL_holds_94 (by decide) (fun c91 => ?_) (fun c91 => ?_)
              · rw [if_neg c91] at hj94
                refine lv_iconst (v := 0) hx hb dL_holds_101 (by decide) ?_
                exact hj94
              · rw [if_pos c91] at hj94
                refine lv_iconst (v := 1) hx hb dL_holds_97 (by decide) ?_
                refine lv_goto (tgt := 102) hx hb dL_holds_98 (by decide) ?_
                exact hj94
        refine lv_icmp_ge (tgt := 63) hx hb dL_holds_56 (by decide) (fun c86 => ?_) (fun c86 => ?_)
        · rw [if_pos c86] at hj56
          refine lv_iconst (v := 0) hx hb dL_holds_63 (by decide) ?_
          exact hj56
        · rw [if_neg c86] at hj56
          refine lv_iconst (v := 1) hx hb dL_holds_59 (by decide) ?_
          refine lv_goto (tgt := 64) hx hb dL_holds_60 (by decide) ?_
          exact hj56
  have hl := lv_entry ([.ref (ad 0)]) (n := 12) (Nat.le_of_ble_eq_true rfl)
  rw [lg_entry_eq]
  generalize (lg_sl ([.ref (ad 0)]) ++ List.replicate (12 - (lg_sl ([.ref (ad 0)])).length) Slot.unset).toArray = ls at hl ⊢
  have hl : lv_has ls 12 [(0, .ref (ad 0))] := hl
  have hN := hF
  unfold F_L_holds at hN
  refine lv_aload_n hx hb dL_holds_0 rfl (lv_at hl 0 rfl) ?_
  refine lv_iconst (v := 0) hx hb dL_holds_1 (by decide) ?_
  obtain ⟨v1, hv1, hN⟩ := oB_spec hN
  refine k_iR hS (va_runV (As := [.int (0 : Int32)]) (rest := []) ⟨hx, hb, hml, hown, hts⟩ (c_X3_count l g L hL G ad (x.1, x.2.1, x.2.2.1, x.2.2.2.1, x.2.2.2.2) hX (0 : Int32) v1 hv1) (cwV 1 hts gL_holds_X3_count rfl rfl rfl (by decide +kernel) ⟨Nat.le_of_ble_eq_true rfl, Nat.le_of_ble_eq_true rfl⟩) (k_preV (C := RX3) (T := TX3) (N := 3) hC hS hP (hX.m 0 (by omega)) hX.o0 rfl) rfl rfl hl.1 rfl (lv_room (Nat.le_of_ble_eq_true rfl)) dL_holds_2 ⟨Nat.zero_le _, Nat.zero_le _⟩) (fun H locs hP hS => ?_)
  refine lv_istore_n (lv' := [(1, .int v1), (0, .ref (ad 0))]) hx hb dL_holds_5 rfl hl (by decide) rfl (fun ls hl => ?_)
  refine lv_iconst (v := 0) hx hb dL_holds_6 (by decide) ?_
  refine lv_istore_n (lv' := [(2, .int (0 : Int32)), (1, .int v1), (0, .ref (ad 0))]) hx hb dL_holds_7 rfl hl (by decide) rfl (fun ls hl => ?_)
  refine lv_iconst (v := 0) hx hb dL_holds_8 (by decide) ?_
  refine lv_istore_n (lv' := [(3, .int (0 : Int32)), (2, .int (0 : Int32)), (1, .int v1), (0, .ref (ad 0))]) hx hb dL_holds_9 rfl hl (by decide) rfl (fun ls hl => ?_)
  exact lp10 fuel v1 (0 : Int32) (0 : Int32)  _ _ _ hP hS (lv_sub hl [3, 2, 1, 0] rfl) hN
set_option maxHeartbeats 4000000 in
set_option maxRecDepth 100000 in
theorem c_L_types (l : Launch) (g : Gm) (L : List Nat) {A : Nat → Prop} (hL : kL L A) (G : Nat → va_E) (ad : Nat → Nat) (x : XS) (hX : vX g L G ad x) (p0 : Int32) (v : Int32) (w : XS) (hF : F_L_types x p0 = some (v, w)) : Met l yL_types wsL_types ({ frames := 3, cells := 0, slots := 0, locals := 64 } : Room) (va_Pc [.ref (ad 0), .int p0] (kB g L A G)) (va_Qi (fun x9 (G9 : Nat → va_E) => x9 = v ∧ (vX g L G9 ad w)) (kE g L) A) 0 0 A := by
  refine Met.ofW (cc := cL_types) (maxL := 7) (ret := (some .boolean)) (by decide) rfl ?_
  intro p e s m args below meth c s₁ B hml hv
  obtain ⟨rfl, hP, hC⟩ := hv
  have hx := B.exec
  have hb := B.bytes
  have hr := B.returns
  have hts := atoms_spec (ws := wsL_types) B.pre
  have hown : s.vm.findClass RL = some m.cls := findClass_of_methodNamed B.named
  have hlk := B.notSynchronized
  have hS : va_S A s.heap s.heap [] := va_S.rf
  have lp22 : ∀ (n : Nat) (x : XS) (x1 : Int32) (x2 : Int32) (x3 : Int32) (x4 : Int32) (G1 : Nat → va_E) (H : Heap) (locs : List Loc) (ls : Array Slot), vX g L G1 ad x → va_P g.1 vwCl (va_pl L G1) H → va_S A s.heap H locs → lv_has ls 7 [(0, .ref (ad 0)), (1, .int x1), (2, .int x2), (3, .int x3), (4, .int x4)] → FL_L_types_22  n x x1 x2 x3 x4 = some (v, w) → W p l e (headSpec wsL_types ({ frames := 3, cells := 0, slots := 0, locals := 64 } : Room)).room s m ([.ref (ad 0), .int p0] : List Value).toArray below meth c H locs 0 0 (MQ below (va_Qi (fun x9 (G9 : Nat → va_E) => x9 = v ∧ (vX g L G9 ad w)) (kE g L) A) ([.ref (ad 0), .int p0] : List Value).toArray s 0 0 A) (F0 m 22 ls []) := by
    intro n
    induction n with
    | zero =>
      intro x x1 x2 x3 x4 G1 H locs ls hX hP hS hl hN
      exact absurd hN (by simp [FL_L_types_22])
    | succ n ih =>
      have lp41 : ∀ (n2 : Nat) (x : XS) (x1 : Int32) (x2 : Int32) (x3 : Int32) (x4 : Int32) (x5 : Int32) (x6 : Int32) (G1 : Nat → va_E) (H : Heap) (locs : List Loc) (ls : Array Slot), vX g L G1 ad x → va_P g.1 vwCl (va_pl L G1) H → va_S A s.heap H locs → lv_has ls 7 [(0, .ref (ad 0)), (1, .int x1), (2, .int x2), (3, .int x3), (4, .int x4), (5, .int x5), (6, .int x6)] → FL_L_types_41  (FL_L_types_22  n) n2 x x1 x2 x3 x4 x5 x6 = some (v, w) → W p l e (headSpec wsL_types ({ frames := 3, cells := 0, slots := 0, locals := 64 } : Room)).room s m ([.ref (ad 0), .int p0] : List Value).toArray below meth c H locs 0 0 (MQ below (va_Qi (fun x9 (G9 : Nat → va_E) => x9 = v ∧ (vX g L G9 ad w)) (kE g L) A) ([.ref (ad 0), .int p0] : List Value).toArray s 0 0 A) (F0 m 41 ls []) := by
        intro n2
        induction n2 with
        | zero =>
          intro x x1 x2 x3 x4 x5 x6 G1 H locs ls hX hP hS hl hN
          exact absurd hN (by simp [FL_L_types_41])
        | succ n2 ih2 =>
          intro x x1 x2 x3 x4 x5 x6 G1 H locs ls hX hP hS hl hN
          rw [FL_L_types_41] at hN
          refine lv_iload hx hb dL_types_41 (lv_at hl 6 rfl) ?_
          refine lv_iconst (v := 2) hx hb dL_types_43 (by decide) ?_
          refine lv_iload hx hb dL_types_44 (lv_at hl 5 rfl) ?_
          refine lv_iconst (v := 2) hx hb dL_types_46 (by decide) ?_
          obtain ⟨v8, hv8, hN⟩ := oB_spec hN
          refine k_iR hS (va_runS (As := [.int x5, .int (2 : Int32)]) (rest := [.int (2 : Int32), .int x6]) ⟨hx, hb, hml, hown, hts⟩ (c_L_low l g L hL G1 x5 (2 : Int32) v8 hv8) (va_cwS 2 hts gL_types_L_low rfl rfl rfl (by decide +kernel) ⟨Nat.le_of_ble_eq_true rfl, Nat.le_of_ble_eq_true rfl⟩) (k_pre hC hS hP) rfl rfl hl.1 rfl (lv_room (Nat.le_of_ble_eq_true rfl)) dL_types_47 ⟨Nat.zero_le _, Nat.zero_le _⟩) (fun H locs hP hS => ?_)
          refine lv_iadd hx hb dL_types_50 ?_
          refine lv_icmp_ge (tgt := 129) hx hb dL_types_51 (by decide) (fun c10 => ?_) (fun c10 => ?_)
          · rw [if_pos c10] at hN
            refine lv_iload_n hx hb dL_types_129 rfl (lv_at hl 3 rfl) ?_
            refine lv_if_eq (tgt := 166) hx hb dL_types_130 (by decide) (fun c11 => ?_) (fun c11 => ?_)
            · rw [if_pos c11] at hN
              refine lv_iconst (v := 0) hx hb dL_types_166 (by decide) ?_
              refine lv_istore_n (lv' := [(3, .int (0 : Int32)), (0, .ref (ad 0)), (1, .int x1), (2, .int x2), (4, .int x4), (5, .int x5), (6, .int x6)]) hx hb dL_types_167 rfl hl (by decide) rfl (fun ls hl => ?_)
              refine lv_iinc (v := (x4 + 1)) (lv' := [(4, .int (x4 + 1)), (3, .int (0 : Int32)), (0, .ref (ad 0)), (1, .int x1), (2, .int x2), (5, .int x5), (6, .int x6)]) hx hb dL_types_168 hl (k := 4) rfl rfl (by decide) rfl (fun ls hl => ?_)
              refine lv_goto (tgt := 22) hx hb dL_types_171 (by decide) ?_
              exact ih (x.1, x.2.1, x.2.2.1, x.2.2.2.1, x.2.2.2.2) x1 x2 (0 : Int32) (x4 + 1) _ _ _ _ hX hP hS (lv_sub hl [2, 3, 4, 1, 0] rfl) hN
            · rw [if_neg c11] at hN
              refine lv_iload_n hx hb dL_types_133 rfl (lv_at hl 1 rfl) ?_
              refine lv_bipush (v := 23) hx hb dL_types_134 (by decide) ?_
              refine lv_ishr hx hb dL_types_136 ?_
              refine lv_bipush (v := 7) hx hb dL_types_137 (by decide) ?_
              obtain ⟨v12, hv12, hN⟩ := oB_spec hN
              refine k_iR hS (va_runS (As := [.int (x1 >>> ((23 : Int32) &&& 31)), .int (7 : Int32)]) (rest := []) ⟨hx, hb, hml, hown, hts⟩ (c_L_low l g L hL G1 (x1 >>> ((23 : Int32) &&& 31)) (7 : Int32) v12 hv12) (va_cwS 2 hts gL_types_L_low rfl rfl rfl (by decide +kernel) ⟨Nat.le_of_ble_eq_true rfl, Nat.le_of_ble_eq_true rfl⟩) (k_pre hC hS hP) rfl rfl hl.1 rfl (lv_room (Nat.le_of_ble_eq_true rfl)) dL_types_139 ⟨Nat.zero_le _, Nat.zero_le _⟩) (fun H locs hP hS => ?_)
              refine lv_if_ne (tgt := 153) hx hb dL_types_142 (by decide) (fun c14 => ?_) (fun c14 => ?_)
              · rw [if_neg c14] at hN
                refine lv_aload_n hx hb dL_types_153 rfl (lv_at hl 0 rfl) ?_
                refine lv_bipush (v := 59) hx hb dL_types_154 (by decide) ?_
                obtain ⟨v15, w16, hv15, hN⟩ := oB2_spec hN
                refine k_iW hS (va_runV (As := [.int (59 : Int32)]) (rest := []) ⟨hx, hb, hml, hown, hts⟩ (c_X3_type l g L hL G1 ad (x.1, x.2.1, x.2.2.1, x.2.2.2.1, x.2.2.2.2) hX (59 : Int32) v15 w16 hv15) (cwV 1 hts gL_types_X3_type rfl rfl rfl (by decide +kernel) ⟨Nat.le_of_ble_eq_true rfl, Nat.le_of_ble_eq_true rfl⟩) (k_preV (C := RX3) (T := TX3) (N := 3) hC hS hP (hX.m 0 (by omega)) hX.o0 rfl) rfl rfl hl.1 rfl (lv_room (Nat.le_of_ble_eq_true rfl)) dL_types_156 ⟨Nat.zero_le _, Nat.zero_le _⟩) (fun G17 H locs hq hP hS => ?_)
                have hX := hq
                refine lv_if_le (tgt := 166) hx hb dL_types_159 (by decide) (fun c18 => ?_) (fun c18 => ?_)
                · rw [if_pos c18] at hN
                  refine lv_iconst (v := 0) hx hb dL_types_166 (by decide) ?_
                  refine lv_istore_n (lv' := [(3, .int (0 : Int32)), (0, .ref (ad 0)), (1, .int x1), (2, .int x2), (4, .int x4), (5, .int x5), (6, .int x6)]) hx hb dL_types_167 rfl hl (by decide) rfl (fun ls hl => ?_)
                  refine lv_iinc (v := (x4 + 1)) (lv' := [(4, .int (x4 + 1)), (3, .int (0 : Int32)), (0, .ref (ad 0)), (1, .int x1), (2, .int x2), (5, .int x5), (6, .int x6)]) hx hb dL_types_168 hl (k := 4) rfl rfl (by decide) rfl (fun ls hl => ?_)
                  refine lv_goto (tgt := 22) hx hb dL_types_171 (by decide) ?_
                  exact ih (w16.1, w16.2.1, w16.2.2.1, w16.2.2.2.1, w16.2.2.2.2) x1 x2 (0 : Int32) (x4 + 1) _ _ _ _ hX hP hS (lv_sub hl [2, 3, 4, 1, 0] rfl) hN
                · rw [if_neg c18] at hN
                  refine lv_iconst (v := 1) hx hb dL_types_162 (by decide) ?_
                  refine lv_goto (tgt := 167) hx hb dL_types_163 (by decide) ?_
                  refine lv_istore_n (lv' := [(3, .int (1 : Int32)), (0, .ref (ad 0)), (1, .int x1), (2, .int x2), (4, .int x4), (5, .int x5), (6, .int x6)]) hx hb dL_types_167 rfl hl (by decide) rfl (fun ls hl => ?_)
                  refine lv_iinc (v := (x4 + 1)) (lv' := [(4, .int (x4 + 1)), (3, .int (1 : Int32)), (0, .ref (ad 0)), (1, .int x1), (2, .int x2), (5, .int x5), (6, .int x6)]) hx hb dL_types_168 hl (k := 4) rfl rfl (by decide) rfl (fun ls hl => ?_)
                  refine lv_goto (tgt := 22) hx hb dL_types_171 (by decide) ?_
                  exact ih (w16.1, w16.2.1, w16.2.2.1, w16.2.2.2.1, w16.2.2.2.2) x1 x2 (1 : Int32) (x4 + 1) _ _ _ _ hX hP hS (lv_sub hl [2, 3, 4, 1, 0] rfl) hN
              · rw [if_pos c14] at hN
                refine lv_iload hx hb dL_types_145 (lv_at hl 4 rfl) ?_
                refine lv_iload_n hx hb dL_types_147 rfl (lv_at hl 2 rfl) ?_
                refine lv_iconst (v := 1) hx hb dL_types_148 (by decide) ?_
                refine lv_isub hx hb dL_types_149 ?_
                refine lv_icmp_eq (tgt := 162) hx hb dL_types_150 (by decide) (fun c19 => ?_) (fun c19 => ?_)
                · rw [if_pos c19] at hN
                  refine lv_iconst (v := 1) hx hb dL_types_162 (by decide) ?_
                  refine lv_goto (tgt := 167) hx hb dL_types_163 (by decide) ?_
                  refine lv_istore_n (lv' := [(3, .int (1 : Int32)), (0, .ref (ad 0)), (1, .int x1), (2, .int x2), (4, .int x4), (5, .int x5), (6, .int x6)]) hx hb dL_types_167 rfl hl (by decide) rfl (fun ls hl => ?_)
                  refine lv_iinc (v := (x4 + 1)) (lv' := [(4, .int (x4 + 1)), (3, .int (1 : Int32)), (0, .ref (ad 0)), (1, .int x1), (2, .int x2), (5, .int x5), (6, .int x6)]) hx hb dL_types_168 hl (k := 4) rfl rfl (by decide) rfl (fun ls hl => ?_)
                  refine lv_goto (tgt := 22) hx hb dL_types_171 (by decide) ?_
                  exact ih (x.1, x.2.1, x.2.2.1, x.2.2.2.1, x.2.2.2.2) x1 x2 (1 : Int32) (x4 + 1) _ _ _ _ hX hP hS (lv_sub hl [2, 3, 4, 1, 0] rfl) hN
                · rw [if_neg c19] at hN
                  refine lv_aload_n hx hb dL_types_153 rfl (lv_at hl 0 rfl) ?_
                  refine lv_bipush (v := 59) hx hb dL_types_154 (by decide) ?_
                  obtain ⟨v20, w21, hv20, hN⟩ := oB2_spec hN
                  refine k_iW hS (va_runV (As := [.int (59 : Int32)]) (rest := []) ⟨hx, hb, hml, hown, hts⟩ (c_X3_type l g L hL G1 ad (x.1, x.2.1, x.2.2.1, x.2.2.2.1, x.2.2.2.2) hX (59 : Int32) v20 w21 hv20) (cwV 1 hts gL_types_X3_type rfl rfl rfl (by decide +kernel) ⟨Nat.le_of_ble_eq_true rfl, Nat.le_of_ble_eq_true rfl⟩) (k_preV (C := RX3) (T := TX3) (N := 3) hC hS hP (hX.m 0 (by omega)) hX.o0 rfl) rfl rfl hl.1 rfl (lv_room (Nat.le_of_ble_eq_true rfl)) dL_types_156 ⟨Nat.zero_le _, Nat.zero_le _⟩) (fun G22 H locs hq hP hS => ?_)
                  have hX := hq
                  refine lv_if_le (tgt := 166) hx hb dL_types_159 (by decide) (fun c23 => ?_) (fun c23 => ?_)
                  · rw [if_pos c23] at hN
                    refine lv_iconst (v := 0) hx hb dL_types_166 (by decide) ?_
                    refine lv_istore_n (lv' := [(3, .int (0 : Int32)), (0, .ref (ad 0)), (1, .int x1), (2, .int x2), (4, .int x4), (5, .int x5), (6, .int x6)]) hx hb dL_types_167 rfl hl (by decide) rfl (fun ls hl => ?_)
                    refine lv_iinc (v := (x4 + 1)) (lv' := [(4, .int (x4 + 1)), (3, .int (0 : Int32)), (0, .ref (ad 0)), (1, .int x1), (2, .int x2), (5, .int x5), (6, .int x6)]) hx hb dL_types_168 hl (k := 4) rfl rfl (by decide) rfl (fun ls hl => ?_)
                    refine lv_goto (tgt := 22) hx hb dL_types_171 (by decide) ?_
                    exact ih (w21.1, w21.2.1, w21.2.2.1, w21.2.2.2.1, w21.2.2.2.2) x1 x2 (0 : Int32) (x4 + 1) _ _ _ _ hX hP hS (lv_sub hl [2, 3, 4, 1, 0] rfl) hN
                  · rw [if_neg c23] at hN
                    refine lv_iconst (v := 1) hx hb dL_types_162 (by decide) ?_
                    refine lv_goto (tgt := 167) hx hb dL_types_163 (by decide) ?_
                    refine lv_istore_n (lv' := [(3, .int (1 : Int32)), (0, .ref (ad 0)), (1, .int x1), (2, .int x2), (4, .int x4), (5, .int x5), (6, .int x6)]) hx hb dL_types_167 rfl hl (by decide) rfl (fun ls hl => ?_)
                    refine lv_iinc (v := (x4 + 1)) (lv' := [(4, .int (x4 + 1)), (3, .int (1 : Int32)), (0, .ref (ad 0)), (1, .int x1), (2, .int x2), (5, .int x5), (6, .int x6)]) hx hb dL_types_168 hl (k := 4) rfl rfl (by decide) rfl (fun ls hl => ?_)
                    refine lv_goto (tgt := 22) hx hb dL_types_171 (by decide) ?_
                    exact ih (w21.1, w21.2.1, w21.2.2.1, w21.2.2.2.1, w21.2.2.2.2) x1 x2 (1 : Int32) (x4 + 1) _ _ _ _ hX hP hS (lv_sub hl [2, 3, 4, 1, 0] rfl) hN
          · rw [if_neg c10] at hN
            refine lv_iload_n hx hb dL_types_54 rfl (lv_at hl 3 rfl) ?_
            refine lv_if_eq (tgt := 121) hx hb dL_types_55 (by decide) (fun c24 => ?_) (fun c24 => ?_)
            · rw [if_pos c24] at hN
              refine lv_iconst (v := 0) hx hb dL_types_121 (by decide) ?_
              refine lv_istore_n (lv' := [(3, .int (0 : Int32)), (0, .ref (ad 0)), (1, .int x1), (2, .int x2), (4, .int x4), (5, .int x5), (6, .int x6)]) hx hb dL_types_122 rfl hl (by decide) rfl (fun ls hl => ?_)
              refine lv_iinc (v := (x6 + 1)) (lv' := [(6, .int (x6 + 1)), (3, .int (0 : Int32)), (0, .ref (ad 0)), (1, .int x1), (2, .int x2), (4, .int x4), (5, .int x5)]) hx hb dL_types_123 hl (k := 6) rfl rfl (by decide) rfl (fun ls hl => ?_)
              refine lv_goto (tgt := 41) hx hb dL_types_126 (by decide) ?_
              exact ih2 (x.1, x.2.1, x.2.2.1, x.2.2.2.1, x.2.2.2.2) x1 x2 (0 : Int32) x4 x5 (x6 + 1) _ _ _ _ hX hP hS (lv_sub hl [2, 3, 4, 1, 5, 6, 0] rfl) hN
            · rw [if_neg c24] at hN
              refine lv_iload hx hb dL_types_58 (lv_at hl 5 rfl) ?_
              refine lv_iload hx hb dL_types_60 (lv_at hl 6 rfl) ?_
              refine lv_ishr hx hb dL_types_62 ?_
              refine lv_iconst (v := 2) hx hb dL_types_63 (by decide) ?_
              obtain ⟨v25, hv25, hN⟩ := oB_spec hN
              refine k_iR hS (va_runS (As := [.int (x5 >>> (x6 &&& 31)), .int (2 : Int32)]) (rest := []) ⟨hx, hb, hml, hown, hts⟩ (c_L_low l g L hL G1 (x5 >>> (x6 &&& 31)) (2 : Int32) v25 hv25) (va_cwS 2 hts gL_types_L_low rfl rfl rfl (by decide +kernel) ⟨Nat.le_of_ble_eq_true rfl, Nat.le_of_ble_eq_true rfl⟩) (k_pre hC hS hP) rfl rfl hl.1 rfl (lv_room (Nat.le_of_ble_eq_true rfl)) dL_types_64 ⟨Nat.zero_le _, Nat.zero_le _⟩) (fun H locs hP hS => ?_)
              refine lv_if_eq (tgt := 79) hx hb dL_types_67 (by decide) (fun c27 => ?_) (fun c27 => ?_)
              · rw [if_pos c27] at hN
                refine lv_aload_n hx hb dL_types_79 rfl (lv_at hl 0 rfl) ?_
                refine lv_bipush (v := 97) hx hb dL_types_80 (by decide) ?_
                refine lv_iload hx hb dL_types_82 (lv_at hl 5 rfl) ?_
                refine lv_iconst (v := 2) hx hb dL_types_84 (by decide) ?_
                refine lv_iload hx hb dL_types_85 (lv_at hl 6 rfl) ?_
                refine lv_imul hx hb dL_types_87 ?_
                refine lv_ishr hx hb dL_types_88 ?_
                refine lv_iload_n hx hb dL_types_89 rfl (lv_at hl 1 rfl) ?_
                refine lv_bipush (v := 25) hx hb dL_types_90 (by decide) ?_
                refine lv_ishr hx hb dL_types_92 ?_
                refine lv_bipush (v := 9) hx hb dL_types_93 (by decide) ?_
                obtain ⟨v28, hv28, hN⟩ := oB_spec hN
                refine k_iR hS (va_runS (As := [.int (x1 >>> ((25 : Int32) &&& 31)), .int (9 : Int32)]) (rest := [.int (x5 >>> (((2 : Int32) * x6) &&& 31)), .int (97 : Int32), .ref (ad 0)]) ⟨hx, hb, hml, hown, hts⟩ (c_L_low l g L hL G1 (x1 >>> ((25 : Int32) &&& 31)) (9 : Int32) v28 hv28) (va_cwS 2 hts gL_types_L_low rfl rfl rfl (by decide +kernel) ⟨Nat.le_of_ble_eq_true rfl, Nat.le_of_ble_eq_true rfl⟩) (k_pre hC hS hP) rfl rfl hl.1 rfl (lv_room (Nat.le_of_ble_eq_true rfl)) dL_types_95 ⟨Nat.zero_le _, Nat.zero_le _⟩) (fun H locs hP hS => ?_)
                refine lv_if_ne (tgt := 106) hx hb dL_types_98 (by decide) (fun c30 => ?_) (fun c30 => ?_)
                · rw [if_neg c30] at hN
                  refine lv_iconst (v := 4) hx hb dL_types_106 (by decide) ?_
                  obtain ⟨v31, hv31, hN⟩ := oB_spec hN
                  refine k_iR hS (va_runS (As := [.int (x5 >>> (((2 : Int32) * x6) &&& 31)), .int (4 : Int32)]) (rest := [.int (97 : Int32), .ref (ad 0)]) ⟨hx, hb, hml, hown, hts⟩ (c_L_low l g L hL G1 (x5 >>> (((2 : Int32) * x6) &&& 31)) (4 : Int32) v31 hv31) (va_cwS 2 hts gL_types_L_low rfl rfl rfl (by decide +kernel) ⟨Nat.le_of_ble_eq_true rfl, Nat.le_of_ble_eq_true rfl⟩) (k_pre hC hS hP) rfl rfl hl.1 rfl (lv_room (Nat.le_of_ble_eq_true rfl)) dL_types_107 ⟨Nat.zero_le _, Nat.zero_le _⟩) (fun H locs hP hS => ?_)
                  refine lv_iadd hx hb dL_types_110 ?_
                  obtain ⟨v33, w34, hv33, hN⟩ := oB2_spec hN
                  refine k_iW hS (va_runV (As := [.int ((97 : Int32) + v31)]) (rest := []) ⟨hx, hb, hml, hown, hts⟩ (c_X3_type l g L hL G1 ad (x.1, x.2.1, x.2.2.1, x.2.2.2.1, x.2.2.2.2) hX ((97 : Int32) + v31) v33 w34 hv33) (cwV 1 hts gL_types_X3_type rfl rfl rfl (by decide +kernel) ⟨Nat.le_of_ble_eq_true rfl, Nat.le_of_ble_eq_true rfl⟩) (k_preV (C := RX3) (T := TX3) (N := 3) hC hS hP (hX.m 0 (by omega)) hX.o0 rfl) rfl rfl hl.1 rfl (lv_room (Nat.le_of_ble_eq_true rfl)) dL_types_111 ⟨Nat.zero_le _, Nat.zero_le _⟩) (fun G35 H locs hq hP hS => ?_)
                  have hX := hq
                  refine lv_if_le (tgt := 121) hx hb dL_types_114 (by decide) (fun c36 => ?_) (fun c36 => ?_)
                  · rw [if_pos c36] at hN
                    refine lv_iconst (v := 0) hx hb dL_types_121 (by decide) ?_
                    refine lv_istore_n (lv' := [(3, .int (0 : Int32)), (0, .ref (ad 0)), (1, .int x1), (2, .int x2), (4, .int x4), (5, .int x5), (6, .int x6)]) hx hb dL_types_122 rfl hl (by decide) rfl (fun ls hl => ?_)
                    refine lv_iinc (v := (x6 + 1)) (lv' := [(6, .int (x6 + 1)), (3, .int (0 : Int32)), (0, .ref (ad 0)), (1, .int x1), (2, .int x2), (4, .int x4), (5, .int x5)]) hx hb dL_types_123 hl (k := 6) rfl rfl (by decide) rfl (fun ls hl => ?_)
                    refine lv_goto (tgt := 41) hx hb dL_types_126 (by decide) ?_
                    exact ih2 (w34.1, w34.2.1, w34.2.2.1, w34.2.2.2.1, w34.2.2.2.2) x1 x2 (0 : Int32) x4 x5 (x6 + 1) _ _ _ _ hX hP hS (lv_sub hl [2, 3, 4, 1, 5, 6, 0] rfl) hN
                  · rw [if_neg c36] at hN
                    refine lv_iconst (v := 1) hx hb dL_types_117 (by decide) ?_
                    refine lv_goto (tgt := 122) hx hb dL_types_118 (by decide) ?_
                    refine lv_istore_n (lv' := [(3, .int (1 : Int32)), (0, .ref (ad 0)), (1, .int x1), (2, .int x2), (4, .int x4), (5, .int x5), (6, .int x6)]) hx hb dL_types_122 rfl hl (by decide) rfl (fun ls hl => ?_)
                    refine lv_iinc (v := (x6 + 1)) (lv' := [(6, .int (x6 + 1)), (3, .int (1 : Int32)), (0, .ref (ad 0)), (1, .int x1), (2, .int x2), (4, .int x4), (5, .int x5)]) hx hb dL_types_123 hl (k := 6) rfl rfl (by decide) rfl (fun ls hl => ?_)
                    refine lv_goto (tgt := 41) hx hb dL_types_126 (by decide) ?_
                    exact ih2 (w34.1, w34.2.1, w34.2.2.1, w34.2.2.2.1, w34.2.2.2.2) x1 x2 (1 : Int32) x4 x5 (x6 + 1) _ _ _ _ hX hP hS (lv_sub hl [2, 3, 4, 1, 5, 6, 0] rfl) hN
                · rw [if_pos c30] at hN
                  refine lv_bipush (v := 7) hx hb dL_types_101 (by decide) ?_
                  refine lv_goto (tgt := 107) hx hb dL_types_103 (by decide) ?_
                  obtain ⟨v37, hv37, hN⟩ := oB_spec hN
                  refine k_iR hS (va_runS (As := [.int (x5 >>> (((2 : Int32) * x6) &&& 31)), .int (7 : Int32)]) (rest := [.int (97 : Int32), .ref (ad 0)]) ⟨hx, hb, hml, hown, hts⟩ (c_L_low l g L hL G1 (x5 >>> (((2 : Int32) * x6) &&& 31)) (7 : Int32) v37 hv37) (va_cwS 2 hts gL_types_L_low rfl rfl rfl (by decide +kernel) ⟨Nat.le_of_ble_eq_true rfl, Nat.le_of_ble_eq_true rfl⟩) (k_pre hC hS hP) rfl rfl hl.1 rfl (lv_room (Nat.le_of_ble_eq_true rfl)) dL_types_107 ⟨Nat.zero_le _, Nat.zero_le _⟩) (fun H locs hP hS => ?_)
                  refine lv_iadd hx hb dL_types_110 ?_
                  obtain ⟨v39, w40, hv39, hN⟩ := oB2_spec hN
                  refine k_iW hS (va_runV (As := [.int ((97 : Int32) + v37)]) (rest := []) ⟨hx, hb, hml, hown, hts⟩ (c_X3_type l g L hL G1 ad (x.1, x.2.1, x.2.2.1, x.2.2.2.1, x.2.2.2.2) hX ((97 : Int32) + v37) v39 w40 hv39) (cwV 1 hts gL_types_X3_type rfl rfl rfl (by decide +kernel) ⟨Nat.le_of_ble_eq_true rfl, Nat.le_of_ble_eq_true rfl⟩) (k_preV (C := RX3) (T := TX3) (N := 3) hC hS hP (hX.m 0 (by omega)) hX.o0 rfl) rfl rfl hl.1 rfl (lv_room (Nat.le_of_ble_eq_true rfl)) dL_types_111 ⟨Nat.zero_le _, Nat.zero_le _⟩) (fun G41 H locs hq hP hS => ?_)
                  have hX := hq
                  refine lv_if_le (tgt := 121) hx hb dL_types_114 (by decide) (fun c42 => ?_) (fun c42 => ?_)
                  · rw [if_pos c42] at hN
                    refine lv_iconst (v := 0) hx hb dL_types_121 (by decide) ?_
                    refine lv_istore_n (lv' := [(3, .int (0 : Int32)), (0, .ref (ad 0)), (1, .int x1), (2, .int x2), (4, .int x4), (5, .int x5), (6, .int x6)]) hx hb dL_types_122 rfl hl (by decide) rfl (fun ls hl => ?_)
                    refine lv_iinc (v := (x6 + 1)) (lv' := [(6, .int (x6 + 1)), (3, .int (0 : Int32)), (0, .ref (ad 0)), (1, .int x1), (2, .int x2), (4, .int x4), (5, .int x5)]) hx hb dL_types_123 hl (k := 6) rfl rfl (by decide) rfl (fun ls hl => ?_)
                    refine lv_goto (tgt := 41) hx hb dL_types_126 (by decide) ?_
                    exact ih2 (w40.1, w40.2.1, w40.2.2.1, w40.2.2.2.1, w40.2.2.2.2) x1 x2 (0 : Int32) x4 x5 (x6 + 1) _ _ _ _ hX hP hS (lv_sub hl [2, 3, 4, 1, 5, 6, 0] rfl) hN
                  · rw [if_neg c42] at hN
                    refine lv_iconst (v := 1) hx hb dL_types_117 (by decide) ?_
                    refine lv_goto (tgt := 122) hx hb dL_types_118 (by decide) ?_
                    refine lv_istore_n (lv' := [(3, .int (1 : Int32)), (0, .ref (ad 0)), (1, .int x1), (2, .int x2), (4, .int x4), (5, .int x5), (6, .int x6)]) hx hb dL_types_122 rfl hl (by decide) rfl (fun ls hl => ?_)
                    refine lv_iinc (v := (x6 + 1)) (lv' := [(6, .int (x6 + 1)), (3, .int (1 : Int32)), (0, .ref (ad 0)), (1, .int x1), (2, .int x2), (4, .int x4), (5, .int x5)]) hx hb dL_types_123 hl (k := 6) rfl rfl (by decide) rfl (fun ls hl => ?_)
                    refine lv_goto (tgt := 41) hx hb dL_types_126 (by decide) ?_
                    exact ih2 (w40.1, w40.2.1, w40.2.2.1, w40.2.2.2.1, w40.2.2.2.2) x1 x2 (1 : Int32) x4 x5 (x6 + 1) _ _ _ _ hX hP hS (lv_sub hl [2, 3, 4, 1, 5, 6, 0] rfl) hN
              · rw [if_neg c27] at hN
                refine lv_aload_n hx hb dL_types_70 rfl (lv_at hl 0 rfl) ?_
                refine lv_bipush (v := 45) hx hb dL_types_71 (by decide) ?_
                obtain ⟨v43, w44, hv43, hN⟩ := oB2_spec hN
                refine k_iW hS (va_runV (As := [.int (45 : Int32)]) (rest := []) ⟨hx, hb, hml, hown, hts⟩ (c_X3_type l g L hL G1 ad (x.1, x.2.1, x.2.2.1, x.2.2.2.1, x.2.2.2.2) hX (45 : Int32) v43 w44 hv43) (cwV 1 hts gL_types_X3_type rfl rfl rfl (by decide +kernel) ⟨Nat.le_of_ble_eq_true rfl, Nat.le_of_ble_eq_true rfl⟩) (k_preV (C := RX3) (T := TX3) (N := 3) hC hS hP (hX.m 0 (by omega)) hX.o0 rfl) rfl rfl hl.1 rfl (lv_room (Nat.le_of_ble_eq_true rfl)) dL_types_73 ⟨Nat.zero_le _, Nat.zero_le _⟩) (fun G45 H locs hq hP hS => ?_)
                have hX := hq
                refine lv_if_le (tgt := 121) hx hb dL_types_76 (by decide) (fun c46 => ?_) (fun c46 => ?_)
                · rw [if_pos c46] at hN
                  refine lv_iconst (v := 0) hx hb dL_types_121 (by decide) ?_
                  refine lv_istore_n (lv' := [(3, .int (0 : Int32)), (0, .ref (ad 0)), (1, .int x1), (2, .int x2), (4, .int x4), (5, .int x5), (6, .int x6)]) hx hb dL_types_122 rfl hl (by decide) rfl (fun ls hl => ?_)
                  refine lv_iinc (v := (x6 + 1)) (lv' := [(6, .int (x6 + 1)), (3, .int (0 : Int32)), (0, .ref (ad 0)), (1, .int x1), (2, .int x2), (4, .int x4), (5, .int x5)]) hx hb dL_types_123 hl (k := 6) rfl rfl (by decide) rfl (fun ls hl => ?_)
                  refine lv_goto (tgt := 41) hx hb dL_types_126 (by decide) ?_
                  exact ih2 (w44.1, w44.2.1, w44.2.2.1, w44.2.2.2.1, w44.2.2.2.2) x1 x2 (0 : Int32) x4 x5 (x6 + 1) _ _ _ _ hX hP hS (lv_sub hl [2, 3, 4, 1, 5, 6, 0] rfl) hN
                · rw [if_neg c46] at hN
                  refine lv_aload_n hx hb dL_types_79 rfl (lv_at hl 0 rfl) ?_
                  refine lv_bipush (v := 97) hx hb dL_types_80 (by decide) ?_
                  refine lv_iload hx hb dL_types_82 (lv_at hl 5 rfl) ?_
                  refine lv_iconst (v := 2) hx hb dL_types_84 (by decide) ?_
                  refine lv_iload hx hb dL_types_85 (lv_at hl 6 rfl) ?_
                  refine lv_imul hx hb dL_types_87 ?_
                  refine lv_ishr hx hb dL_types_88 ?_
                  refine lv_iload_n hx hb dL_types_89 rfl (lv_at hl 1 rfl) ?_
                  refine lv_bipush (v := 25) hx hb dL_types_90 (by decide) ?_
                  refine lv_ishr hx hb dL_types_92 ?_
                  refine lv_bipush (v := 9) hx hb dL_types_93 (by decide) ?_
                  obtain ⟨v47, hv47, hN⟩ := oB_spec hN
                  refine k_iR hS (va_runS (As := [.int (x1 >>> ((25 : Int32) &&& 31)), .int (9 : Int32)]) (rest := [.int (x5 >>> (((2 : Int32) * x6) &&& 31)), .int (97 : Int32), .ref (ad 0)]) ⟨hx, hb, hml, hown, hts⟩ (c_L_low l g L hL G45 (x1 >>> ((25 : Int32) &&& 31)) (9 : Int32) v47 hv47) (va_cwS 2 hts gL_types_L_low rfl rfl rfl (by decide +kernel) ⟨Nat.le_of_ble_eq_true rfl, Nat.le_of_ble_eq_true rfl⟩) (k_pre hC hS hP) rfl rfl hl.1 rfl (lv_room (Nat.le_of_ble_eq_true rfl)) dL_types_95 ⟨Nat.zero_le _, Nat.zero_le _⟩) (fun H locs hP hS => ?_)
                  refine lv_if_ne (tgt := 106) hx hb dL_types_98 (by decide) (fun c49 => ?_) (fun c49 => ?_)
                  · rw [if_neg c49] at hN
                    refine lv_iconst (v := 4) hx hb dL_types_106 (by decide) ?_
                    obtain ⟨v50, hv50, hN⟩ := oB_spec hN
                    refine k_iR hS (va_runS (As := [.int (x5 >>> (((2 : Int32) * x6) &&& 31)), .int (4 : Int32)]) (rest := [.int (97 : Int32), .ref (ad 0)]) ⟨hx, hb, hml, hown, hts⟩ (c_L_low l g L hL G45 (x5 >>> (((2 : Int32) * x6) &&& 31)) (4 : Int32) v50 hv50) (va_cwS 2 hts gL_types_L_low rfl rfl rfl (by decide +kernel) ⟨Nat.le_of_ble_eq_true rfl, Nat.le_of_ble_eq_true rfl⟩) (k_pre hC hS hP) rfl rfl hl.1 rfl (lv_room (Nat.le_of_ble_eq_true rfl)) dL_types_107 ⟨Nat.zero_le _, Nat.zero_le _⟩) (fun H locs hP hS => ?_)
                    refine lv_iadd hx hb dL_types_110 ?_
                    obtain ⟨v52, w53, hv52, hN⟩ := oB2_spec hN
                    refine k_iW hS (va_runV (As := [.int ((97 : Int32) + v50)]) (rest := []) ⟨hx, hb, hml, hown, hts⟩ (c_X3_type l g L hL G45 ad (w44.1, w44.2.1, w44.2.2.1, w44.2.2.2.1, w44.2.2.2.2) hX ((97 : Int32) + v50) v52 w53 hv52) (cwV 1 hts gL_types_X3_type rfl rfl rfl (by decide +kernel) ⟨Nat.le_of_ble_eq_true rfl, Nat.le_of_ble_eq_true rfl⟩) (k_preV (C := RX3) (T := TX3) (N := 3) hC hS hP (hX.m 0 (by omega)) hX.o0 rfl) rfl rfl hl.1 rfl (lv_room (Nat.le_of_ble_eq_true rfl)) dL_types_111 ⟨Nat.zero_le _, Nat.zero_le _⟩) (fun G54 H locs hq hP hS => ?_)
                    have hX := hq
                    refine lv_if_le (tgt := 121) hx hb dL_types_114 (by decide) (fun c55 => ?_) (fun c55 => ?_)
                    · rw [if_pos c55] at hN
                      refine lv_iconst (v := 0) hx hb dL_types_121 (by decide) ?_
                      refine lv_istore_n (lv' := [(3, .int (0 : Int32)), (0, .ref (ad 0)), (1, .int x1), (2, .int x2), (4, .int x4), (5, .int x5), (6, .int x6)]) hx hb dL_types_122 rfl hl (by decide) rfl (fun ls hl => ?_)
                      refine lv_iinc (v := (x6 + 1)) (lv' := [(6, .int (x6 + 1)), (3, .int (0 : Int32)), (0, .ref (ad 0)), (1, .int x1), (2, .int x2), (4, .int x4), (5, .int x5)]) hx hb dL_types_123 hl (k := 6) rfl rfl (by decide) rfl (fun ls hl => ?_)
                      refine lv_goto (tgt := 41) hx hb dL_types_126 (by decide) ?_
                      exact ih2 (w53.1, w53.2.1, w53.2.2.1, w53.2.2.2.1, w53.2.2.2.2) x1 x2 (0 : Int32) x4 x5 (x6 + 1) _ _ _ _ hX hP hS (lv_sub hl [2, 3, 4, 1, 5, 6, 0] rfl) hN
                    · rw [if_neg c55] at hN
                      refine lv_iconst (v := 1) hx hb dL_types_117 (by decide) ?_
                      refine lv_goto (tgt := 122) hx hb dL_types_118 (by decide) ?_
                      refine lv_istore_n (lv' := [(3, .int (1 : Int32)), (0, .ref (ad 0)), (1, .int x1), (2, .int x2), (4, .int x4), (5, .int x5), (6, .int x6)]) hx hb dL_types_122 rfl hl (by decide) rfl (fun ls hl => ?_)
                      refine lv_iinc (v := (x6 + 1)) (lv' := [(6, .int (x6 + 1)), (3, .int (1 : Int32)), (0, .ref (ad 0)), (1, .int x1), (2, .int x2), (4, .int x4), (5, .int x5)]) hx hb dL_types_123 hl (k := 6) rfl rfl (by decide) rfl (fun ls hl => ?_)
                      refine lv_goto (tgt := 41) hx hb dL_types_126 (by decide) ?_
                      exact ih2 (w53.1, w53.2.1, w53.2.2.1, w53.2.2.2.1, w53.2.2.2.2) x1 x2 (1 : Int32) x4 x5 (x6 + 1) _ _ _ _ hX hP hS (lv_sub hl [2, 3, 4, 1, 5, 6, 0] rfl) hN
                  · rw [if_pos c49] at hN
                    refine lv_bipush (v := 7) hx hb dL_types_101 (by decide) ?_
                    refine lv_goto (tgt := 107) hx hb dL_types_103 (by decide) ?_
                    obtain ⟨v56, hv56, hN⟩ := oB_spec hN
                    refine k_iR hS (va_runS (As := [.int (x5 >>> (((2 : Int32) * x6) &&& 31)), .int (7 : Int32)]) (rest := [.int (97 : Int32), .ref (ad 0)]) ⟨hx, hb, hml, hown, hts⟩ (c_L_low l g L hL G45 (x5 >>> (((2 : Int32) * x6) &&& 31)) (7 : Int32) v56 hv56) (va_cwS 2 hts gL_types_L_low rfl rfl rfl (by decide +kernel) ⟨Nat.le_of_ble_eq_true rfl, Nat.le_of_ble_eq_true rfl⟩) (k_pre hC hS hP) rfl rfl hl.1 rfl (lv_room (Nat.le_of_ble_eq_true rfl)) dL_types_107 ⟨Nat.zero_le _, Nat.zero_le _⟩) (fun H locs hP hS => ?_)
                    refine lv_iadd hx hb dL_types_110 ?_
                    obtain ⟨v58, w59, hv58, hN⟩ := oB2_spec hN
                    refine k_iW hS (va_runV (As := [.int ((97 : Int32) + v56)]) (rest := []) ⟨hx, hb, hml, hown, hts⟩ (c_X3_type l g L hL G45 ad (w44.1, w44.2.1, w44.2.2.1, w44.2.2.2.1, w44.2.2.2.2) hX ((97 : Int32) + v56) v58 w59 hv58) (cwV 1 hts gL_types_X3_type rfl rfl rfl (by decide +kernel) ⟨Nat.le_of_ble_eq_true rfl, Nat.le_of_ble_eq_true rfl⟩) (k_preV (C := RX3) (T := TX3) (N := 3) hC hS hP (hX.m 0 (by omega)) hX.o0 rfl) rfl rfl hl.1 rfl (lv_room (Nat.le_of_ble_eq_true rfl)) dL_types_111 ⟨Nat.zero_le _, Nat.zero_le _⟩) (fun G60 H locs hq hP hS => ?_)
                    have hX := hq
                    refine lv_if_le (tgt := 121) hx hb dL_types_114 (by decide) (fun c61 => ?_) (fun c61 => ?_)
                    · rw [if_pos c61] at hN
                      refine lv_iconst (v := 0) hx hb dL_types_121 (by decide) ?_
                      refine lv_istore_n (lv' := [(3, .int (0 : Int32)), (0, .ref (ad 0)), (1, .int x1), (2, .int x2), (4, .int x4), (5, .int x5), (6, .int x6)]) hx hb dL_types_122 rfl hl (by decide) rfl (fun ls hl => ?_)
                      refine lv_iinc (v := (x6 + 1)) (lv' := [(6, .int (x6 + 1)), (3, .int (0 : Int32)), (0, .ref (ad 0)), (1, .int x1), (2, .int x2), (4, .int x4), (5, .int x5)]) hx hb dL_types_123 hl (k := 6) rfl rfl (by decide) rfl (fun ls hl => ?_)
                      refine lv_goto (tgt := 41) hx hb dL_types_126 (by decide) ?_
                      exact ih2 (w59.1, w59.2.1, w59.2.2.1, w59.2.2.2.1, w59.2.2.2.2) x1 x2 (0 : Int32) x4 x5 (x6 + 1) _ _ _ _ hX hP hS (lv_sub hl [2, 3, 4, 1, 5, 6, 0] rfl) hN
                    · rw [if_neg c61] at hN
                      refine lv_iconst (v := 1) hx hb dL_types_117 (by decide) ?_
                      refine lv_goto (tgt := 122) hx hb dL_types_118 (by decide) ?_
                      refine lv_istore_n (lv' := [(3, .int (1 : Int32)), (0, .ref (ad 0)), (1, .int x1), (2, .int x2), (4, .int x4), (5, .int x5), (6, .int x6)]) hx hb dL_types_122 rfl hl (by decide) rfl (fun ls hl => ?_)
                      refine lv_iinc (v := (x6 + 1)) (lv' := [(6, .int (x6 + 1)), (3, .int (1 : Int32)), (0, .ref (ad 0)), (1, .int x1), (2, .int x2), (4, .int x4), (5, .int x5)]) hx hb dL_types_123 hl (k := 6) rfl rfl (by decide) rfl (fun ls hl => ?_)
                      refine lv_goto (tgt := 41) hx hb dL_types_126 (by decide) ?_
                      exact ih2 (w59.1, w59.2.1, w59.2.2.1, w59.2.2.2.1, w59.2.2.2.2) x1 x2 (1 : Int32) x4 x5 (x6 + 1) _ _ _ _ hX hP hS (lv_sub hl [2, 3, 4, 1, 5, 6, 0] rfl) hN
      intro x x1 x2 x3 x4 G1 H locs ls hX hP hS hl hN
      rw [FL_L_types_22] at hN
      refine lv_iload hx hb dL_types_22 (lv_at hl 4 rfl) ?_
      refine lv_iload_n hx hb dL_types_24 rfl (lv_at hl 2 rfl) ?_
      refine lv_icmp_ge (tgt := 174) hx hb dL_types_25 (by decide) (fun c7 => ?_) (fun c7 => ?_)
      · rw [if_pos c7] at hN
        refine lv_iload_n hx hb dL_types_174 rfl (lv_at hl 3 rfl) ?_
        obtain ⟨hz, hN⟩ := oZ_spec hN
        obtain ⟨hE, hE2⟩ := spair hN
        exact k_zretW hx hb hr hz hE (hE2 ▸ hX) hP hS hlk dL_types_175
      · rw [if_neg c7] at hN
        refine lv_iload_n hx hb dL_types_28 rfl (lv_at hl 1 rfl) ?_
        refine lv_iconst (v := 3) hx hb dL_types_29 (by decide) ?_
        refine lv_iconst (v := 5) hx hb dL_types_30 (by decide) ?_
        refine lv_iload hx hb dL_types_31 (lv_at hl 4 rfl) ?_
        refine lv_imul hx hb dL_types_33 ?_
        refine lv_iadd hx hb dL_types_34 ?_
        refine lv_ishr hx hb dL_types_35 ?_
        refine lv_istore (lv' := [(5, .int (x1 >>> (((3 : Int32) + ((5 : Int32) * x4)) &&& 31))), (0, .ref (ad 0)), (1, .int x1), (2, .int x2), (3, .int x3), (4, .int x4)]) hx hb dL_types_36 hl (by decide) rfl (fun ls hl => ?_)
        refine lv_iconst (v := 0) hx hb dL_types_38 (by decide) ?_
        refine lv_istore (lv' := [(6, .int (0 : Int32)), (5, .int (x1 >>> (((3 : Int32) + ((5 : Int32) * x4)) &&& 31))), (0, .ref (ad 0)), (1, .int x1), (2, .int x2), (3, .int x3), (4, .int x4)]) hx hb dL_types_39 hl (by decide) rfl (fun ls hl => ?_)
        exact lp41 fuel (x.1, x.2.1, x.2.2.1, x.2.2.2.1, x.2.2.2.2) x1 x2 x3 x4 (x1 >>> (((3 : Int32) + ((5 : Int32) * x4)) &&& 31)) (0 : Int32) _ _ _ _ hX hP hS (lv_sub hl [2, 3, 4, 5, 6, 1, 0] rfl) hN
  have hl := lv_entry ([.ref (ad 0), .int p0]) (n := 7) (Nat.le_of_ble_eq_true rfl)
  rw [lg_entry_eq]
  generalize (lg_sl ([.ref (ad 0), .int p0]) ++ List.replicate (7 - (lg_sl ([.ref (ad 0), .int p0])).length) Slot.unset).toArray = ls at hl ⊢
  have hl : lv_has ls 7 [(0, .ref (ad 0)), (1, .int p0)] := hl
  have hN := hF
  unfold F_L_types at hN
  refine lv_iload_n hx hb dL_types_0 rfl (lv_at hl 1 rfl) ?_
  refine lv_iconst (v := 5) hx hb dL_types_1 (by decide) ?_
  obtain ⟨v1, hv1, hN⟩ := oB_spec hN
  refine k_iR hS (va_runS (As := [.int p0, .int (5 : Int32)]) (rest := []) ⟨hx, hb, hml, hown, hts⟩ (c_L_low l g L hL G p0 (5 : Int32) v1 hv1) (va_cwS 2 hts gL_types_L_low rfl rfl rfl (by decide +kernel) ⟨Nat.le_of_ble_eq_true rfl, Nat.le_of_ble_eq_true rfl⟩) (k_pre hC hS hP) rfl rfl hl.1 rfl (lv_room (Nat.le_of_ble_eq_true rfl)) dL_types_2 ⟨Nat.zero_le _, Nat.zero_le _⟩) (fun H locs hP hS => ?_)
  refine lv_istore_n (lv' := [(2, .int v1), (0, .ref (ad 0)), (1, .int p0)]) hx hb dL_types_5 rfl hl (by decide) rfl (fun ls hl => ?_)
  refine lv_aload_n hx hb dL_types_6 rfl (lv_at hl 1 rfl) ?_
  obtain ⟨v3, w4, hv3, hN⟩ := oB2_spec hN
  refine k_iW hS (va_runV (As := []) (rest := []) ⟨hx, hb, hml, hown, hts⟩ (c_X3_clearText l g L hL G ad (x.1, x.2.1, x.2.2.1, x.2.2.2.1, x.2.2.2.2) hX v3 w4 hv3) (cwV 0 hts gL_types_X3_clearText rfl rfl rfl (by decide +kernel) ⟨Nat.le_of_ble_eq_true rfl, Nat.le_of_ble_eq_true rfl⟩) (k_preV (C := RX3) (T := TX3) (N := 3) hC hS hP (hX.m 0 (by omega)) hX.o0 rfl) rfl rfl hl.1 rfl (lv_room (Nat.le_of_ble_eq_true rfl)) dL_types_7 ⟨Nat.zero_le _, Nat.zero_le _⟩) (fun G5 H locs hq hP hS => ?_)
  have hX := hq
  refine lv_if_lt (tgt := 17) hx hb dL_types_10 (by decide) (fun c6 => ?_) (fun c6 => ?_)
  · rw [if_pos c6] at hN
    refine lv_iconst (v := 0) hx hb dL_types_17 (by decide) ?_
    refine lv_istore_n (lv' := [(3, .int (0 : Int32)), (2, .int v1), (0, .ref (ad 0)), (1, .int p0)]) hx hb dL_types_18 rfl hl (by decide) rfl (fun ls hl => ?_)
    refine lv_iconst (v := 0) hx hb dL_types_19 (by decide) ?_
    refine lv_istore (lv' := [(4, .int (0 : Int32)), (3, .int (0 : Int32)), (2, .int v1), (0, .ref (ad 0)), (1, .int p0)]) hx hb dL_types_20 hl (by decide) rfl (fun ls hl => ?_)
    exact lp22 fuel (w4.1, w4.2.1, w4.2.2.1, w4.2.2.2.1, w4.2.2.2.2) p0 v1 (0 : Int32) (0 : Int32)  _ _ _ _ hX hP hS (lv_sub hl [3, 4, 2, 1, 0] rfl) hN
  · rw [if_neg c6] at hN
    refine lv_iconst (v := 1) hx hb dL_types_13 (by decide) ?_
    refine lv_goto (tgt := 18) hx hb dL_types_14 (by decide) ?_
    refine lv_istore_n (lv' := [(3, .int (1 : Int32)), (2, .int v1), (0, .ref (ad 0)), (1, .int p0)]) hx hb dL_types_18 rfl hl (by decide) rfl (fun ls hl => ?_)
    refine lv_iconst (v := 0) hx hb dL_types_19 (by decide) ?_
    refine lv_istore (lv' := [(4, .int (0 : Int32)), (3, .int (1 : Int32)), (2, .int v1), (0, .ref (ad 0)), (1, .int p0)]) hx hb dL_types_20 hl (by decide) rfl (fun ls hl => ?_)
    exact lp22 fuel (w4.1, w4.2.1, w4.2.2.1, w4.2.2.2.1, w4.2.2.2.2) p0 v1 (1 : Int32) (0 : Int32)  _ _ _ _ hX hP hS (lv_sub hl [3, 4, 2, 1, 0] rfl) hN
set_option maxHeartbeats 4000000 in
set_option maxRecDepth 100000 in
theorem c_L_plays (l : Launch) (g : Gm) (L : List Nat) {A : Nat → Prop} (hL : kL L A) (G : Nat → va_E) (ad : Nat → Nat) (x : XS) (hX : vX g L G ad x) (v : Int32) (w : XS) (hF : F_L_plays x = some (v, w)) : Met l yL_plays wsL_plays ({ frames := 6, cells := 0, slots := 0, locals := 168 } : Room) (va_Pc [.ref (ad 0)] (kB g L A G)) (va_Qi (fun x9 (G9 : Nat → va_E) => x9 = v ∧ (vX g L G9 ad w)) (kE g L) A) 0 0 A := by
  refine Met.ofW (cc := cL_plays) (maxL := 8) (ret := (some .boolean)) (by decide) rfl ?_
  intro p e s m args below meth c s₁ B hml hv
  obtain ⟨rfl, hP, hC⟩ := hv
  have hx := B.exec
  have hb := B.bytes
  have hr := B.returns
  have hts := atoms_spec (ws := wsL_plays) B.pre
  have hown : s.vm.findClass RL = some m.cls := findClass_of_methodNamed B.named
  have hlk := B.notSynchronized
  have hS : va_S A s.heap s.heap [] := va_S.rf
  have hl := lv_entry ([.ref (ad 0)]) (n := 8) (Nat.le_of_ble_eq_true rfl)
  rw [lg_entry_eq]
  generalize (lg_sl ([.ref (ad 0)]) ++ List.replicate (8 - (lg_sl ([.ref (ad 0)])).length) Slot.unset).toArray = ls at hl ⊢
  have hl : lv_has ls 8 [(0, .ref (ad 0))] := hl
  have hN := hF
  unfold F_L_plays at hN
  refine lv_aload_n hx hb dL_plays_0 rfl (lv_at hl 0 rfl) ?_
  refine lv_iconst (v := 0) hx hb dL_plays_1 (by decide) ?_
  obtain ⟨v1, hv1, hN⟩ := oB_spec hN
  refine k_iR hS (va_runV (As := [.int (0 : Int32)]) (rest := []) ⟨hx, hb, hml, hown, hts⟩ (c_X3_fault l g L hL G ad (x.1, x.2.1, x.2.2.1, x.2.2.2.1, x.2.2.2.2) hX (0 : Int32) v1 hv1) (cwV 1 hts gL_plays_X3_fault rfl rfl rfl (by decide +kernel) ⟨Nat.le_of_ble_eq_true rfl, Nat.le_of_ble_eq_true rfl⟩) (k_preV (C := RX3) (T := TX3) (N := 3) hC hS hP (hX.m 0 (by omega)) hX.o0 rfl) rfl rfl hl.1 rfl (lv_room (Nat.le_of_ble_eq_true rfl)) dL_plays_2 ⟨Nat.zero_le _, Nat.zero_le _⟩) (fun H locs hP hS => ?_)
  refine lv_istore_n (lv' := [(1, .int v1), (0, .ref (ad 0))]) hx hb dL_plays_5 rfl hl (by decide) rfl (fun ls hl => ?_)
  refine lv_aload_n hx hb dL_plays_6 rfl (lv_at hl 1 rfl) ?_
  refine lv_iconst (v := 1) hx hb dL_plays_7 (by decide) ?_
  obtain ⟨v3, hv3, hN⟩ := oB_spec hN
  refine k_iR hS (va_runV (As := [.int (1 : Int32)]) (rest := []) ⟨hx, hb, hml, hown, hts⟩ (c_X3_fault l g L hL G ad (x.1, x.2.1, x.2.2.1, x.2.2.2.1, x.2.2.2.2) hX (1 : Int32) v3 hv3) (cwV 1 hts gL_plays_X3_fault rfl rfl rfl (by decide +kernel) ⟨Nat.le_of_ble_eq_true rfl, Nat.le_of_ble_eq_true rfl⟩) (k_preV (C := RX3) (T := TX3) (N := 3) hC hS hP (hX.m 0 (by omega)) hX.o0 rfl) rfl rfl hl.1 rfl (lv_room (Nat.le_of_ble_eq_true rfl)) dL_plays_8 ⟨Nat.zero_le _, Nat.zero_le _⟩) (fun H locs hP hS => ?_)
  refine lv_istore_n (lv' := [(2, .int v3), (1, .int v1), (0, .ref (ad 0))]) hx hb dL_plays_11 rfl hl (by decide) rfl (fun ls hl => ?_)
  refine lv_aload_n hx hb dL_plays_12 rfl (lv_at hl 2 rfl) ?_
  refine lv_bipush (v := 9) hx hb dL_plays_13 (by decide) ?_
  obtain ⟨v5, hv5, hN⟩ := oB_spec hN
  refine k_iR hS (va_runV (As := [.int (9 : Int32)]) (rest := []) ⟨hx, hb, hml, hown, hts⟩ (c_X3_count l g L hL G ad (x.1, x.2.1, x.2.2.1, x.2.2.2.1, x.2.2.2.2) hX (9 : Int32) v5 hv5) (cwV 1 hts gL_plays_X3_count rfl rfl rfl (by decide +kernel) ⟨Nat.le_of_ble_eq_true rfl, Nat.le_of_ble_eq_true rfl⟩) (k_preV (C := RX3) (T := TX3) (N := 3) hC hS hP (hX.m 0 (by omega)) hX.o0 rfl) rfl rfl hl.1 rfl (lv_room (Nat.le_of_ble_eq_true rfl)) dL_plays_15 ⟨Nat.zero_le _, Nat.zero_le _⟩) (fun H locs hP hS => ?_)
  refine lv_istore_n (lv' := [(3, .int v5), (2, .int v3), (1, .int v1), (0, .ref (ad 0))]) hx hb dL_plays_18 rfl hl (by decide) rfl (fun ls hl => ?_)
  refine lv_aload_n hx hb dL_plays_19 rfl (lv_at hl 3 rfl) ?_
  refine lv_iconst (v := 0) hx hb dL_plays_20 (by decide) ?_
  obtain ⟨v7, hv7, hN⟩ := oB_spec hN
  refine k_iR hS (va_runV (As := [.int (0 : Int32)]) (rest := []) ⟨hx, hb, hml, hown, hts⟩ (c_X3_count l g L hL G ad (x.1, x.2.1, x.2.2.1, x.2.2.2.1, x.2.2.2.2) hX (0 : Int32) v7 hv7) (cwV 1 hts gL_plays_X3_count rfl rfl rfl (by decide +kernel) ⟨Nat.le_of_ble_eq_true rfl, Nat.le_of_ble_eq_true rfl⟩) (k_preV (C := RX3) (T := TX3) (N := 3) hC hS hP (hX.m 0 (by omega)) hX.o0 rfl) rfl rfl hl.1 rfl (lv_room (Nat.le_of_ble_eq_true rfl)) dL_plays_21 ⟨Nat.zero_le _, Nat.zero_le _⟩) (fun H locs hP hS => ?_)
  refine lv_istore (lv' := [(4, .int v7), (3, .int v5), (2, .int v3), (1, .int v1), (0, .ref (ad 0))]) hx hb dL_plays_24 hl (by decide) rfl (fun ls hl => ?_)
  refine lv_aload_n hx hb dL_plays_26 rfl (lv_at hl 4 rfl) ?_
  obtain ⟨v9, w10, hv9, hN⟩ := oB2_spec hN
  refine k_iW hS (va_runV (As := []) (rest := []) ⟨hx, hb, hml, hown, hts⟩ (c_X3_play l g L hL G ad (x.1, x.2.1, x.2.2.1, x.2.2.2.1, x.2.2.2.2) hX v9 w10 hv9) (cwV 0 hts gL_plays_X3_play rfl rfl rfl (by decide +kernel) ⟨Nat.le_of_ble_eq_true rfl, Nat.le_of_ble_eq_true rfl⟩) (k_preV (C := RX3) (T := TX3) (N := 3) hC hS hP (hX.m 0 (by omega)) hX.o0 rfl) rfl rfl hl.1 rfl (lv_room (Nat.le_of_ble_eq_true rfl)) dL_plays_27 ⟨Nat.zero_le _, Nat.zero_le _⟩) (fun G11 H locs hq hP hS => ?_)
  have hX := hq
  refine lv_istore (lv' := [(5, .int v9), (4, .int v7), (3, .int v5), (2, .int v3), (1, .int v1), (0, .ref (ad 0))]) hx hb dL_plays_30 hl (by decide) rfl (fun ls hl => ?_)
  refine lv_iload_n hx hb dL_plays_32 rfl (lv_at hl 4 rfl) ?_
  refine lv_ldc (v := (-1000004)) hx hb hown (hts (.constant RL 38 (-1000004)) (List.mem_of_getElem? (i := 1) rfl)) dL_plays_33 ?_
  refine lv_icmp_ne (tgt := 73) hx hb dL_plays_35 (by decide) (fun c12 => ?_) (fun c12 => ?_)
  · rw [if_neg c12] at hN
    refine lv_iconst (v := 0) hx hb dL_plays_73 (by decide) ?_
    refine lv_istore (lv' := [(6, .int (0 : Int32)), (5, .int v9), (4, .int v7), (3, .int v5), (2, .int v3), (1, .int v1), (0, .ref (ad 0))]) hx hb dL_plays_74 hl (by decide) rfl (fun ls hl => ?_)
    refine lv_iload_n hx hb dL_plays_76 rfl (lv_at hl 5 rfl) ?_
    refine lv_if_lt (tgt := 107) hx hb dL_plays_77 (by decide) (fun c13 => ?_) (fun c13 => ?_)
    · rw [if_pos c13] at hN
      refine lv_iconst (v := 0) hx hb dL_plays_107 (by decide) ?_
      refine lv_istore (lv' := [(7, .int (0 : Int32)), (6, .int (0 : Int32)), (5, .int v9), (4, .int v7), (3, .int v5), (2, .int v3), (1, .int v1), (0, .ref (ad 0))]) hx hb dL_plays_108 hl (by decide) rfl (fun ls hl => ?_)
      refine lv_iload hx hb dL_plays_110 (lv_at hl 1 rfl) ?_
      refine lv_if_ne (tgt := 120) hx hb dL_plays_112 (by decide) (fun c9 => absurd c9 (by decide)) (fun _ => ?_)
      refine lv_iload hx hb dL_plays_115 (lv_at hl 0 rfl) ?_
      refine lv_if_eq (tgt := 134) hx hb dL_plays_117 (by decide) (fun _ => ?_) (fun c9 => absurd c9 (by decide))
      refine lv_iconst (v := 0) hx hb dL_plays_134 (by decide) ?_
      obtain ⟨hE, hE2⟩ := spair hN
      exact k_zretW hx hb hr (by decide) hE (hE2 ▸ hX) hP hS hlk dL_plays_135
    · rw [if_neg c13] at hN
      refine lv_iload_n hx hb dL_plays_80 rfl (lv_at hl 5 rfl) ?_
      refine lv_iload_n hx hb dL_plays_81 rfl (lv_at hl 3 rfl) ?_
      refine lv_icmp_ge (tgt := 107) hx hb dL_plays_82 (by decide) (fun c14 => ?_) (fun c14 => ?_)
      · rw [if_pos c14] at hN
        refine lv_iconst (v := 0) hx hb dL_plays_107 (by decide) ?_
        refine lv_istore (lv' := [(7, .int (0 : Int32)), (6, .int (0 : Int32)), (5, .int v9), (4, .int v7), (3, .int v5), (2, .int v3), (1, .int v1), (0, .ref (ad 0))]) hx hb dL_plays_108 hl (by decide) rfl (fun ls hl => ?_)
        refine lv_iload hx hb dL_plays_110 (lv_at hl 1 rfl) ?_
        refine lv_if_ne (tgt := 120) hx hb dL_plays_112 (by decide) (fun c9 => absurd c9 (by decide)) (fun _ => ?_)
        refine lv_iload hx hb dL_plays_115 (lv_at hl 0 rfl) ?_
        refine lv_if_eq (tgt := 134) hx hb dL_plays_117 (by decide) (fun _ => ?_) (fun c9 => absurd c9 (by decide))
        refine lv_iconst (v := 0) hx hb dL_plays_134 (by decide) ?_
        obtain ⟨hE, hE2⟩ := spair hN
        exact k_zretW hx hb hr (by decide) hE (hE2 ▸ hX) hP hS hlk dL_plays_135
      · rw [if_neg c14] at hN
        refine lv_iload_n hx hb dL_plays_85 rfl (lv_at hl 4 rfl) ?_
        refine lv_if_lt (tgt := 107) hx hb dL_plays_86 (by decide) (fun c15 => ?_) (fun c15 => ?_)
        · rw [if_pos c15] at hN
          refine lv_iconst (v := 0) hx hb dL_plays_107 (by decide) ?_
          refine lv_istore (lv' := [(7, .int (0 : Int32)), (6, .int (0 : Int32)), (5, .int v9), (4, .int v7), (3, .int v5), (2, .int v3), (1, .int v1), (0, .ref (ad 0))]) hx hb dL_plays_108 hl (by decide) rfl (fun ls hl => ?_)
          refine lv_iload hx hb dL_plays_110 (lv_at hl 1 rfl) ?_
          refine lv_if_ne (tgt := 120) hx hb dL_plays_112 (by decide) (fun c9 => absurd c9 (by decide)) (fun _ => ?_)
          refine lv_iload hx hb dL_plays_115 (lv_at hl 0 rfl) ?_
          refine lv_if_eq (tgt := 134) hx hb dL_plays_117 (by decide) (fun _ => ?_) (fun c9 => absurd c9 (by decide))
          refine lv_iconst (v := 0) hx hb dL_plays_134 (by decide) ?_
          obtain ⟨hE, hE2⟩ := spair hN
          exact k_zretW hx hb hr (by decide) hE (hE2 ▸ hX) hP hS hlk dL_plays_135
        · rw [if_neg c15] at hN
          refine lv_iload_n hx hb dL_plays_89 rfl (lv_at hl 5 rfl) ?_
          refine lv_iload_n hx hb dL_plays_90 rfl (lv_at hl 4 rfl) ?_
          refine lv_iadd hx hb dL_plays_91 ?_
          refine lv_iload_n hx hb dL_plays_92 rfl (lv_at hl 3 rfl) ?_
          refine lv_icmp_gt (tgt := 107) hx hb dL_plays_93 (by decide) (fun c16 => ?_) (fun c16 => ?_)
          · rw [if_pos c16] at hN
            refine lv_iconst (v := 0) hx hb dL_plays_107 (by decide) ?_
            refine lv_istore (lv' := [(7, .int (0 : Int32)), (6, .int (0 : Int32)), (5, .int v9), (4, .int v7), (3, .int v5), (2, .int v3), (1, .int v1), (0, .ref (ad 0))]) hx hb dL_plays_108 hl (by decide) rfl (fun ls hl => ?_)
            refine lv_iload hx hb dL_plays_110 (lv_at hl 1 rfl) ?_
            refine lv_if_ne (tgt := 120) hx hb dL_plays_112 (by decide) (fun c9 => absurd c9 (by decide)) (fun _ => ?_)
            refine lv_iload hx hb dL_plays_115 (lv_at hl 0 rfl) ?_
            refine lv_if_eq (tgt := 134) hx hb dL_plays_117 (by decide) (fun _ => ?_) (fun c9 => absurd c9 (by decide))
            refine lv_iconst (v := 0) hx hb dL_plays_134 (by decide) ?_
            obtain ⟨hE, hE2⟩ := spair hN
            exact k_zretW hx hb hr (by decide) hE (hE2 ▸ hX) hP hS hlk dL_plays_135
          · rw [if_neg c16] at hN
            refine lv_iload hx hb dL_plays_96 (lv_at hl 1 rfl) ?_
            refine lv_ldc (v := (-1000002)) hx hb hown (hts (.constant RL 68 (-1000002)) (List.mem_of_getElem? (i := 3) rfl)) dL_plays_98 ?_
            refine lv_icmp_ne (tgt := 107) hx hb dL_plays_100 (by decide) (fun c17 => ?_) (fun c17 => ?_)
            · rw [if_neg c17] at hN
              refine lv_iconst (v := 0) hx hb dL_plays_107 (by decide) ?_
              refine lv_istore (lv' := [(7, .int (0 : Int32)), (6, .int (0 : Int32)), (5, .int v9), (4, .int v7), (3, .int v5), (2, .int v3), (1, .int v1), (0, .ref (ad 0))]) hx hb dL_plays_108 hl (by decide) rfl (fun ls hl => ?_)
              refine lv_iload hx hb dL_plays_110 (lv_at hl 1 rfl) ?_
              refine lv_if_ne (tgt := 120) hx hb dL_plays_112 (by decide) (fun c9 => absurd c9 (by decide)) (fun _ => ?_)
              refine lv_iload hx hb dL_plays_115 (lv_at hl 0 rfl) ?_
              refine lv_if_eq (tgt := 134) hx hb dL_plays_117 (by decide) (fun _ => ?_) (fun c9 => absurd c9 (by decide))
              refine lv_iconst (v := 0) hx hb dL_plays_134 (by decide) ?_
              obtain ⟨hE, hE2⟩ := spair hN
              exact k_zretW hx hb hr (by decide) hE (hE2 ▸ hX) hP hS hlk dL_plays_135
            · rw [if_pos c17] at hN
              refine lv_iconst (v := 1) hx hb dL_plays_103 (by decide) ?_
              refine lv_goto (tgt := 108) hx hb dL_plays_104 (by decide) ?_
              refine lv_istore (lv' := [(7, .int (1 : Int32)), (6, .int (0 : Int32)), (5, .int v9), (4, .int v7), (3, .int v5), (2, .int v3), (1, .int v1), (0, .ref (ad 0))]) hx hb dL_plays_108 hl (by decide) rfl (fun ls hl => ?_)
              refine lv_iload hx hb dL_plays_110 (lv_at hl 1 rfl) ?_
              refine lv_if_ne (tgt := 120) hx hb dL_plays_112 (by decide) (fun c9 => absurd c9 (by decide)) (fun _ => ?_)
              refine lv_iload hx hb dL_plays_115 (lv_at hl 0 rfl) ?_
              refine lv_if_eq (tgt := 134) hx hb dL_plays_117 (by decide) (fun c9 => absurd c9 (by decide)) (fun _ => ?_)
              refine lv_aload_n hx hb dL_plays_120 rfl (lv_at hl 7 rfl) ?_
              refine lv_bipush (v := 9) hx hb dL_plays_121 (by decide) ?_
              obtain ⟨v18, hv18, hN⟩ := oB_spec hN
              refine k_iR hS (va_runV (As := [.int (9 : Int32)]) (rest := []) ⟨hx, hb, hml, hown, hts⟩ (c_X3_count l g L hL G11 ad (w10.1, w10.2.1, w10.2.2.1, w10.2.2.2.1, w10.2.2.2.2) hX (9 : Int32) v18 hv18) (cwV 1 hts gL_plays_X3_count rfl rfl rfl (by decide +kernel) ⟨Nat.le_of_ble_eq_true rfl, Nat.le_of_ble_eq_true rfl⟩) (k_preV (C := RX3) (T := TX3) (N := 3) hC hS hP (hX.m 0 (by omega)) hX.o0 rfl) rfl rfl hl.1 rfl (lv_room (Nat.le_of_ble_eq_true rfl)) dL_plays_123 ⟨Nat.zero_le _, Nat.zero_le _⟩) (fun H locs hP hS => ?_)
              refine lv_iload_n hx hb dL_plays_126 rfl (lv_at hl 4 rfl) ?_
              refine lv_icmp_ne (tgt := 134) hx hb dL_plays_127 (by decide) (fun c20 => ?_) (fun c20 => ?_)
              · rw [if_neg c20] at hN
                refine lv_iconst (v := 0) hx hb dL_plays_134 (by decide) ?_
                obtain ⟨hE, hE2⟩ := spair hN
                exact k_zretW hx hb hr (by decide) hE (hE2 ▸ hX) hP hS hlk dL_plays_135
              · rw [if_pos c20] at hN
                refine lv_iconst (v := 1) hx hb dL_plays_130 (by decide) ?_
                refine lv_goto (tgt := 135) hx hb dL_plays_131 (by decide) ?_
                obtain ⟨hE, hE2⟩ := spair hN
                exact k_zretW hx hb hr (by decide) hE (hE2 ▸ hX) hP hS hlk dL_plays_135
  · rw [if_pos c12] at hN
    refine lv_iload_n hx hb dL_plays_38 rfl (lv_at hl 3 rfl) ?_
    refine lv_ldc (v := (-1000004)) hx hb hown (hts (.constant RL 38 (-1000004)) (List.mem_of_getElem? (i := 1) rfl)) dL_plays_39 ?_
    refine lv_icmp_ne (tgt := 73) hx hb dL_plays_41 (by decide) (fun c21 => ?_) (fun c21 => ?_)
    · rw [if_neg c21] at hN
      refine lv_iconst (v := 0) hx hb dL_plays_73 (by decide) ?_
      refine lv_istore (lv' := [(6, .int (0 : Int32)), (5, .int v9), (4, .int v7), (3, .int v5), (2, .int v3), (1, .int v1), (0, .ref (ad 0))]) hx hb dL_plays_74 hl (by decide) rfl (fun ls hl => ?_)
      refine lv_iload_n hx hb dL_plays_76 rfl (lv_at hl 5 rfl) ?_
      refine lv_if_lt (tgt := 107) hx hb dL_plays_77 (by decide) (fun c22 => ?_) (fun c22 => ?_)
      · rw [if_pos c22] at hN
        refine lv_iconst (v := 0) hx hb dL_plays_107 (by decide) ?_
        refine lv_istore (lv' := [(7, .int (0 : Int32)), (6, .int (0 : Int32)), (5, .int v9), (4, .int v7), (3, .int v5), (2, .int v3), (1, .int v1), (0, .ref (ad 0))]) hx hb dL_plays_108 hl (by decide) rfl (fun ls hl => ?_)
        refine lv_iload hx hb dL_plays_110 (lv_at hl 1 rfl) ?_
        refine lv_if_ne (tgt := 120) hx hb dL_plays_112 (by decide) (fun c9 => absurd c9 (by decide)) (fun _ => ?_)
        refine lv_iload hx hb dL_plays_115 (lv_at hl 0 rfl) ?_
        refine lv_if_eq (tgt := 134) hx hb dL_plays_117 (by decide) (fun _ => ?_) (fun c9 => absurd c9 (by decide))
        refine lv_iconst (v := 0) hx hb dL_plays_134 (by decide) ?_
        obtain ⟨hE, hE2⟩ := spair hN
        exact k_zretW hx hb hr (by decide) hE (hE2 ▸ hX) hP hS hlk dL_plays_135
      · rw [if_neg c22] at hN
        refine lv_iload_n hx hb dL_plays_80 rfl (lv_at hl 5 rfl) ?_
        refine lv_iload_n hx hb dL_plays_81 rfl (lv_at hl 3 rfl) ?_
        refine lv_icmp_ge (tgt := 107) hx hb dL_plays_82 (by decide) (fun c23 => ?_) (fun c23 => ?_)
        · rw [if_pos c23] at hN
          refine lv_iconst (v := 0) hx hb dL_plays_107 (by decide) ?_
          refine lv_istore (lv' := [(7, .int (0 : Int32)), (6, .int (0 : Int32)), (5, .int v9), (4, .int v7), (3, .int v5), (2, .int v3), (1, .int v1), (0, .ref (ad 0))]) hx hb dL_plays_108 hl (by decide) rfl (fun ls hl => ?_)
          refine lv_iload hx hb dL_plays_110 (lv_at hl 1 rfl) ?_
          refine lv_if_ne (tgt := 120) hx hb dL_plays_112 (by decide) (fun c9 => absurd c9 (by decide)) (fun _ => ?_)
          refine lv_iload hx hb dL_plays_115 (lv_at hl 0 rfl) ?_
          refine lv_if_eq (tgt := 134) hx hb dL_plays_117 (by decide) (fun _ => ?_) (fun c9 => absurd c9 (by decide))
          refine lv_iconst (v := 0) hx hb dL_plays_134 (by decide) ?_
          obtain ⟨hE, hE2⟩ := spair hN
          exact k_zretW hx hb hr (by decide) hE (hE2 ▸ hX) hP hS hlk dL_plays_135
        · rw [if_neg c23] at hN
          refine lv_iload_n hx hb dL_plays_85 rfl (lv_at hl 4 rfl) ?_
          refine lv_if_lt (tgt := 107) hx hb dL_plays_86 (by decide) (fun c24 => ?_) (fun c24 => ?_)
          · rw [if_pos c24] at hN
            refine lv_iconst (v := 0) hx hb dL_plays_107 (by decide) ?_
            refine lv_istore (lv' := [(7, .int (0 : Int32)), (6, .int (0 : Int32)), (5, .int v9), (4, .int v7), (3, .int v5), (2, .int v3), (1, .int v1), (0, .ref (ad 0))]) hx hb dL_plays_108 hl (by decide) rfl (fun ls hl => ?_)
            refine lv_iload hx hb dL_plays_110 (lv_at hl 1 rfl) ?_
            refine lv_if_ne (tgt := 120) hx hb dL_plays_112 (by decide) (fun c9 => absurd c9 (by decide)) (fun _ => ?_)
            refine lv_iload hx hb dL_plays_115 (lv_at hl 0 rfl) ?_
            refine lv_if_eq (tgt := 134) hx hb dL_plays_117 (by decide) (fun _ => ?_) (fun c9 => absurd c9 (by decide))
            refine lv_iconst (v := 0) hx hb dL_plays_134 (by decide) ?_
            obtain ⟨hE, hE2⟩ := spair hN
            exact k_zretW hx hb hr (by decide) hE (hE2 ▸ hX) hP hS hlk dL_plays_135
          · rw [if_neg c24] at hN
            refine lv_iload_n hx hb dL_plays_89 rfl (lv_at hl 5 rfl) ?_
            refine lv_iload_n hx hb dL_plays_90 rfl (lv_at hl 4 rfl) ?_
            refine lv_iadd hx hb dL_plays_91 ?_
            refine lv_iload_n hx hb dL_plays_92 rfl (lv_at hl 3 rfl) ?_
            refine lv_icmp_gt (tgt := 107) hx hb dL_plays_93 (by decide) (fun c25 => ?_) (fun c25 => ?_)
            · rw [if_pos c25] at hN
              refine lv_iconst (v := 0) hx hb dL_plays_107 (by decide) ?_
              refine lv_istore (lv' := [(7, .int (0 : Int32)), (6, .int (0 : Int32)), (5, .int v9), (4, .int v7), (3, .int v5), (2, .int v3), (1, .int v1), (0, .ref (ad 0))]) hx hb dL_plays_108 hl (by decide) rfl (fun ls hl => ?_)
              refine lv_iload hx hb dL_plays_110 (lv_at hl 1 rfl) ?_
              refine lv_if_ne (tgt := 120) hx hb dL_plays_112 (by decide) (fun c9 => absurd c9 (by decide)) (fun _ => ?_)
              refine lv_iload hx hb dL_plays_115 (lv_at hl 0 rfl) ?_
              refine lv_if_eq (tgt := 134) hx hb dL_plays_117 (by decide) (fun _ => ?_) (fun c9 => absurd c9 (by decide))
              refine lv_iconst (v := 0) hx hb dL_plays_134 (by decide) ?_
              obtain ⟨hE, hE2⟩ := spair hN
              exact k_zretW hx hb hr (by decide) hE (hE2 ▸ hX) hP hS hlk dL_plays_135
            · rw [if_neg c25] at hN
              refine lv_iload hx hb dL_plays_96 (lv_at hl 1 rfl) ?_
              refine lv_ldc (v := (-1000002)) hx hb hown (hts (.constant RL 68 (-1000002)) (List.mem_of_getElem? (i := 3) rfl)) dL_plays_98 ?_
              refine lv_icmp_ne (tgt := 107) hx hb dL_plays_100 (by decide) (fun c26 => ?_) (fun c26 => ?_)
              · rw [if_neg c26] at hN
                refine lv_iconst (v := 0) hx hb dL_plays_107 (by decide) ?_
                refine lv_istore (lv' := [(7, .int (0 : Int32)), (6, .int (0 : Int32)), (5, .int v9), (4, .int v7), (3, .int v5), (2, .int v3), (1, .int v1), (0, .ref (ad 0))]) hx hb dL_plays_108 hl (by decide) rfl (fun ls hl => ?_)
                refine lv_iload hx hb dL_plays_110 (lv_at hl 1 rfl) ?_
                refine lv_if_ne (tgt := 120) hx hb dL_plays_112 (by decide) (fun c9 => absurd c9 (by decide)) (fun _ => ?_)
                refine lv_iload hx hb dL_plays_115 (lv_at hl 0 rfl) ?_
                refine lv_if_eq (tgt := 134) hx hb dL_plays_117 (by decide) (fun _ => ?_) (fun c9 => absurd c9 (by decide))
                refine lv_iconst (v := 0) hx hb dL_plays_134 (by decide) ?_
                obtain ⟨hE, hE2⟩ := spair hN
                exact k_zretW hx hb hr (by decide) hE (hE2 ▸ hX) hP hS hlk dL_plays_135
              · rw [if_pos c26] at hN
                refine lv_iconst (v := 1) hx hb dL_plays_103 (by decide) ?_
                refine lv_goto (tgt := 108) hx hb dL_plays_104 (by decide) ?_
                refine lv_istore (lv' := [(7, .int (1 : Int32)), (6, .int (0 : Int32)), (5, .int v9), (4, .int v7), (3, .int v5), (2, .int v3), (1, .int v1), (0, .ref (ad 0))]) hx hb dL_plays_108 hl (by decide) rfl (fun ls hl => ?_)
                refine lv_iload hx hb dL_plays_110 (lv_at hl 1 rfl) ?_
                refine lv_if_ne (tgt := 120) hx hb dL_plays_112 (by decide) (fun c9 => absurd c9 (by decide)) (fun _ => ?_)
                refine lv_iload hx hb dL_plays_115 (lv_at hl 0 rfl) ?_
                refine lv_if_eq (tgt := 134) hx hb dL_plays_117 (by decide) (fun c9 => absurd c9 (by decide)) (fun _ => ?_)
                refine lv_aload_n hx hb dL_plays_120 rfl (lv_at hl 7 rfl) ?_
                refine lv_bipush (v := 9) hx hb dL_plays_121 (by decide) ?_
                obtain ⟨v27, hv27, hN⟩ := oB_spec hN
                refine k_iR hS (va_runV (As := [.int (9 : Int32)]) (rest := []) ⟨hx, hb, hml, hown, hts⟩ (c_X3_count l g L hL G11 ad (w10.1, w10.2.1, w10.2.2.1, w10.2.2.2.1, w10.2.2.2.2) hX (9 : Int32) v27 hv27) (cwV 1 hts gL_plays_X3_count rfl rfl rfl (by decide +kernel) ⟨Nat.le_of_ble_eq_true rfl, Nat.le_of_ble_eq_true rfl⟩) (k_preV (C := RX3) (T := TX3) (N := 3) hC hS hP (hX.m 0 (by omega)) hX.o0 rfl) rfl rfl hl.1 rfl (lv_room (Nat.le_of_ble_eq_true rfl)) dL_plays_123 ⟨Nat.zero_le _, Nat.zero_le _⟩) (fun H locs hP hS => ?_)
                refine lv_iload_n hx hb dL_plays_126 rfl (lv_at hl 4 rfl) ?_
                refine lv_icmp_ne (tgt := 134) hx hb dL_plays_127 (by decide) (fun c29 => ?_) (fun c29 => ?_)
                · rw [if_neg c29] at hN
                  refine lv_iconst (v := 0) hx hb dL_plays_134 (by decide) ?_
                  obtain ⟨hE, hE2⟩ := spair hN
                  exact k_zretW hx hb hr (by decide) hE (hE2 ▸ hX) hP hS hlk dL_plays_135
                · rw [if_pos c29] at hN
                  refine lv_iconst (v := 1) hx hb dL_plays_130 (by decide) ?_
                  refine lv_goto (tgt := 135) hx hb dL_plays_131 (by decide) ?_
                  obtain ⟨hE, hE2⟩ := spair hN
                  exact k_zretW hx hb hr (by decide) hE (hE2 ▸ hX) hP hS hlk dL_plays_135
    · rw [if_pos c21] at hN
      refine lv_iload hx hb dL_plays_44 (lv_at hl 0 rfl) ?_
      refine lv_ldc (v := (-1000003)) hx hb hown (hts (.constant RL 67 (-1000003)) (List.mem_of_getElem? (i := 2) rfl)) dL_plays_46 ?_
      refine lv_icmp_eq (tgt := 69) hx hb dL_plays_48 (by decide) (fun c30 => ?_) (fun c30 => ?_)
      · rw [if_pos c30] at hN
        refine lv_iconst (v := 1) hx hb dL_plays_69 (by decide) ?_
        refine lv_goto (tgt := 74) hx hb dL_plays_70 (by decide) ?_
        refine lv_istore (lv' := [(6, .int (1 : Int32)), (5, .int v9), (4, .int v7), (3, .int v5), (2, .int v3), (1, .int v1), (0, .ref (ad 0))]) hx hb dL_plays_74 hl (by decide) rfl (fun ls hl => ?_)
        refine lv_iload_n hx hb dL_plays_76 rfl (lv_at hl 5 rfl) ?_
        refine lv_if_lt (tgt := 107) hx hb dL_plays_77 (by decide) (fun c31 => ?_) (fun c31 => ?_)
        · rw [if_pos c31] at hN
          refine lv_iconst (v := 0) hx hb dL_plays_107 (by decide) ?_
          refine lv_istore (lv' := [(7, .int (0 : Int32)), (6, .int (1 : Int32)), (5, .int v9), (4, .int v7), (3, .int v5), (2, .int v3), (1, .int v1), (0, .ref (ad 0))]) hx hb dL_plays_108 hl (by decide) rfl (fun ls hl => ?_)
          refine lv_iload hx hb dL_plays_110 (lv_at hl 1 rfl) ?_
          refine lv_if_ne (tgt := 120) hx hb dL_plays_112 (by decide) (fun _ => ?_) (fun c9 => absurd c9 (by decide))
          refine lv_aload_n hx hb dL_plays_120 rfl (lv_at hl 7 rfl) ?_
          refine lv_bipush (v := 9) hx hb dL_plays_121 (by decide) ?_
          obtain ⟨v32, hv32, hN⟩ := oB_spec hN
          refine k_iR hS (va_runV (As := [.int (9 : Int32)]) (rest := []) ⟨hx, hb, hml, hown, hts⟩ (c_X3_count l g L hL G11 ad (w10.1, w10.2.1, w10.2.2.1, w10.2.2.2.1, w10.2.2.2.2) hX (9 : Int32) v32 hv32) (cwV 1 hts gL_plays_X3_count rfl rfl rfl (by decide +kernel) ⟨Nat.le_of_ble_eq_true rfl, Nat.le_of_ble_eq_true rfl⟩) (k_preV (C := RX3) (T := TX3) (N := 3) hC hS hP (hX.m 0 (by omega)) hX.o0 rfl) rfl rfl hl.1 rfl (lv_room (Nat.le_of_ble_eq_true rfl)) dL_plays_123 ⟨Nat.zero_le _, Nat.zero_le _⟩) (fun H locs hP hS => ?_)
          refine lv_iload_n hx hb dL_plays_126 rfl (lv_at hl 4 rfl) ?_
          refine lv_icmp_ne (tgt := 134) hx hb dL_plays_127 (by decide) (fun c34 => ?_) (fun c34 => ?_)
          · rw [if_neg c34] at hN
            refine lv_iconst (v := 0) hx hb dL_plays_134 (by decide) ?_
            obtain ⟨hE, hE2⟩ := spair hN
            exact k_zretW hx hb hr (by decide) hE (hE2 ▸ hX) hP hS hlk dL_plays_135
          · rw [if_pos c34] at hN
            refine lv_iconst (v := 1) hx hb dL_plays_130 (by decide) ?_
            refine lv_goto (tgt := 135) hx hb dL_plays_131 (by decide) ?_
            obtain ⟨hE, hE2⟩ := spair hN
            exact k_zretW hx hb hr (by decide) hE (hE2 ▸ hX) hP hS hlk dL_plays_135
        · rw [if_neg c31] at hN
          refine lv_iload_n hx hb dL_plays_80 rfl (lv_at hl 5 rfl) ?_
          refine lv_iload_n hx hb dL_plays_81 rfl (lv_at hl 3 rfl) ?_
          refine lv_icmp_ge (tgt := 107) hx hb dL_plays_82 (by decide) (fun c35 => ?_) (fun c35 => ?_)
          · rw [if_pos c35] at hN
            refine lv_iconst (v := 0) hx hb dL_plays_107 (by decide) ?_
            refine lv_istore (lv' := [(7, .int (0 : Int32)), (6, .int (1 : Int32)), (5, .int v9), (4, .int v7), (3, .int v5), (2, .int v3), (1, .int v1), (0, .ref (ad 0))]) hx hb dL_plays_108 hl (by decide) rfl (fun ls hl => ?_)
            refine lv_iload hx hb dL_plays_110 (lv_at hl 1 rfl) ?_
            refine lv_if_ne (tgt := 120) hx hb dL_plays_112 (by decide) (fun _ => ?_) (fun c9 => absurd c9 (by decide))
            refine lv_aload_n hx hb dL_plays_120 rfl (lv_at hl 7 rfl) ?_
            refine lv_bipush (v := 9) hx hb dL_plays_121 (by decide) ?_
            obtain ⟨v36, hv36, hN⟩ := oB_spec hN
            refine k_iR hS (va_runV (As := [.int (9 : Int32)]) (rest := []) ⟨hx, hb, hml, hown, hts⟩ (c_X3_count l g L hL G11 ad (w10.1, w10.2.1, w10.2.2.1, w10.2.2.2.1, w10.2.2.2.2) hX (9 : Int32) v36 hv36) (cwV 1 hts gL_plays_X3_count rfl rfl rfl (by decide +kernel) ⟨Nat.le_of_ble_eq_true rfl, Nat.le_of_ble_eq_true rfl⟩) (k_preV (C := RX3) (T := TX3) (N := 3) hC hS hP (hX.m 0 (by omega)) hX.o0 rfl) rfl rfl hl.1 rfl (lv_room (Nat.le_of_ble_eq_true rfl)) dL_plays_123 ⟨Nat.zero_le _, Nat.zero_le _⟩) (fun H locs hP hS => ?_)
            refine lv_iload_n hx hb dL_plays_126 rfl (lv_at hl 4 rfl) ?_
            refine lv_icmp_ne (tgt := 134) hx hb dL_plays_127 (by decide) (fun c38 => ?_) (fun c38 => ?_)
            · rw [if_neg c38] at hN
              refine lv_iconst (v := 0) hx hb dL_plays_134 (by decide) ?_
              obtain ⟨hE, hE2⟩ := spair hN
              exact k_zretW hx hb hr (by decide) hE (hE2 ▸ hX) hP hS hlk dL_plays_135
            · rw [if_pos c38] at hN
              refine lv_iconst (v := 1) hx hb dL_plays_130 (by decide) ?_
              refine lv_goto (tgt := 135) hx hb dL_plays_131 (by decide) ?_
              obtain ⟨hE, hE2⟩ := spair hN
              exact k_zretW hx hb hr (by decide) hE (hE2 ▸ hX) hP hS hlk dL_plays_135
          · rw [if_neg c35] at hN
            refine lv_iload_n hx hb dL_plays_85 rfl (lv_at hl 4 rfl) ?_
            refine lv_if_lt (tgt := 107) hx hb dL_plays_86 (by decide) (fun c39 => ?_) (fun c39 => ?_)
            · rw [if_pos c39] at hN
              refine lv_iconst (v := 0) hx hb dL_plays_107 (by decide) ?_
              refine lv_istore (lv' := [(7, .int (0 : Int32)), (6, .int (1 : Int32)), (5, .int v9), (4, .int v7), (3, .int v5), (2, .int v3), (1, .int v1), (0, .ref (ad 0))]) hx hb dL_plays_108 hl (by decide) rfl (fun ls hl => ?_)
              refine lv_iload hx hb dL_plays_110 (lv_at hl 1 rfl) ?_
              refine lv_if_ne (tgt := 120) hx hb dL_plays_112 (by decide) (fun _ => ?_) (fun c9 => absurd c9 (by decide))
              refine lv_aload_n hx hb dL_plays_120 rfl (lv_at hl 7 rfl) ?_
              refine lv_bipush (v := 9) hx hb dL_plays_121 (by decide) ?_
              obtain ⟨v40, hv40, hN⟩ := oB_spec hN
              refine k_iR hS (va_runV (As := [.int (9 : Int32)]) (rest := []) ⟨hx, hb, hml, hown, hts⟩ (c_X3_count l g L hL G11 ad (w10.1, w10.2.1, w10.2.2.1, w10.2.2.2.1, w10.2.2.2.2) hX (9 : Int32) v40 hv40) (cwV 1 hts gL_plays_X3_count rfl rfl rfl (by decide +kernel) ⟨Nat.le_of_ble_eq_true rfl, Nat.le_of_ble_eq_true rfl⟩) (k_preV (C := RX3) (T := TX3) (N := 3) hC hS hP (hX.m 0 (by omega)) hX.o0 rfl) rfl rfl hl.1 rfl (lv_room (Nat.le_of_ble_eq_true rfl)) dL_plays_123 ⟨Nat.zero_le _, Nat.zero_le _⟩) (fun H locs hP hS => ?_)
              refine lv_iload_n hx hb dL_plays_126 rfl (lv_at hl 4 rfl) ?_
              refine lv_icmp_ne (tgt := 134) hx hb dL_plays_127 (by decide) (fun c42 => ?_) (fun c42 => ?_)
              · rw [if_neg c42] at hN
                refine lv_iconst (v := 0) hx hb dL_plays_134 (by decide) ?_
                obtain ⟨hE, hE2⟩ := spair hN
                exact k_zretW hx hb hr (by decide) hE (hE2 ▸ hX) hP hS hlk dL_plays_135
              · rw [if_pos c42] at hN
                refine lv_iconst (v := 1) hx hb dL_plays_130 (by decide) ?_
                refine lv_goto (tgt := 135) hx hb dL_plays_131 (by decide) ?_
                obtain ⟨hE, hE2⟩ := spair hN
                exact k_zretW hx hb hr (by decide) hE (hE2 ▸ hX) hP hS hlk dL_plays_135
            · rw [if_neg c39] at hN
              refine lv_iload_n hx hb dL_plays_89 rfl (lv_at hl 5 rfl) ?_
              refine lv_iload_n hx hb dL_plays_90 rfl (lv_at hl 4 rfl) ?_
              refine lv_iadd hx hb dL_plays_91 ?_
              refine lv_iload_n hx hb dL_plays_92 rfl (lv_at hl 3 rfl) ?_
              refine lv_icmp_gt (tgt := 107) hx hb dL_plays_93 (by decide) (fun c43 => ?_) (fun c43 => ?_)
              · rw [if_pos c43] at hN
                refine lv_iconst (v := 0) hx hb dL_plays_107 (by decide) ?_
                refine lv_istore (lv' := [(7, .int (0 : Int32)), (6, .int (1 : Int32)), (5, .int v9), (4, .int v7), (3, .int v5), (2, .int v3), (1, .int v1), (0, .ref (ad 0))]) hx hb dL_plays_108 hl (by decide) rfl (fun ls hl => ?_)
                refine lv_iload hx hb dL_plays_110 (lv_at hl 1 rfl) ?_
                refine lv_if_ne (tgt := 120) hx hb dL_plays_112 (by decide) (fun _ => ?_) (fun c9 => absurd c9 (by decide))
                refine lv_aload_n hx hb dL_plays_120 rfl (lv_at hl 7 rfl) ?_
                refine lv_bipush (v := 9) hx hb dL_plays_121 (by decide) ?_
                obtain ⟨v44, hv44, hN⟩ := oB_spec hN
                refine k_iR hS (va_runV (As := [.int (9 : Int32)]) (rest := []) ⟨hx, hb, hml, hown, hts⟩ (c_X3_count l g L hL G11 ad (w10.1, w10.2.1, w10.2.2.1, w10.2.2.2.1, w10.2.2.2.2) hX (9 : Int32) v44 hv44) (cwV 1 hts gL_plays_X3_count rfl rfl rfl (by decide +kernel) ⟨Nat.le_of_ble_eq_true rfl, Nat.le_of_ble_eq_true rfl⟩) (k_preV (C := RX3) (T := TX3) (N := 3) hC hS hP (hX.m 0 (by omega)) hX.o0 rfl) rfl rfl hl.1 rfl (lv_room (Nat.le_of_ble_eq_true rfl)) dL_plays_123 ⟨Nat.zero_le _, Nat.zero_le _⟩) (fun H locs hP hS => ?_)
                refine lv_iload_n hx hb dL_plays_126 rfl (lv_at hl 4 rfl) ?_
                refine lv_icmp_ne (tgt := 134) hx hb dL_plays_127 (by decide) (fun c46 => ?_) (fun c46 => ?_)
                · rw [if_neg c46] at hN
                  refine lv_iconst (v := 0) hx hb dL_plays_134 (by decide) ?_
                  obtain ⟨hE, hE2⟩ := spair hN
                  exact k_zretW hx hb hr (by decide) hE (hE2 ▸ hX) hP hS hlk dL_plays_135
                · rw [if_pos c46] at hN
                  refine lv_iconst (v := 1) hx hb dL_plays_130 (by decide) ?_
                  refine lv_goto (tgt := 135) hx hb dL_plays_131 (by decide) ?_
                  obtain ⟨hE, hE2⟩ := spair hN
                  exact k_zretW hx hb hr (by decide) hE (hE2 ▸ hX) hP hS hlk dL_plays_135
              · rw [if_neg c43] at hN
                refine lv_iload hx hb dL_plays_96 (lv_at hl 1 rfl) ?_
                refine lv_ldc (v := (-1000002)) hx hb hown (hts (.constant RL 68 (-1000002)) (List.mem_of_getElem? (i := 3) rfl)) dL_plays_98 ?_
                refine lv_icmp_ne (tgt := 107) hx hb dL_plays_100 (by decide) (fun c47 => ?_) (fun c47 => ?_)
                · rw [if_neg c47] at hN
                  refine lv_iconst (v := 0) hx hb dL_plays_107 (by decide) ?_
                  refine lv_istore (lv' := [(7, .int (0 : Int32)), (6, .int (1 : Int32)), (5, .int v9), (4, .int v7), (3, .int v5), (2, .int v3), (1, .int v1), (0, .ref (ad 0))]) hx hb dL_plays_108 hl (by decide) rfl (fun ls hl => ?_)
                  refine lv_iload hx hb dL_plays_110 (lv_at hl 1 rfl) ?_
                  refine lv_if_ne (tgt := 120) hx hb dL_plays_112 (by decide) (fun _ => ?_) (fun c9 => absurd c9 (by decide))
                  refine lv_aload_n hx hb dL_plays_120 rfl (lv_at hl 7 rfl) ?_
                  refine lv_bipush (v := 9) hx hb dL_plays_121 (by decide) ?_
                  obtain ⟨v48, hv48, hN⟩ := oB_spec hN
                  refine k_iR hS (va_runV (As := [.int (9 : Int32)]) (rest := []) ⟨hx, hb, hml, hown, hts⟩ (c_X3_count l g L hL G11 ad (w10.1, w10.2.1, w10.2.2.1, w10.2.2.2.1, w10.2.2.2.2) hX (9 : Int32) v48 hv48) (cwV 1 hts gL_plays_X3_count rfl rfl rfl (by decide +kernel) ⟨Nat.le_of_ble_eq_true rfl, Nat.le_of_ble_eq_true rfl⟩) (k_preV (C := RX3) (T := TX3) (N := 3) hC hS hP (hX.m 0 (by omega)) hX.o0 rfl) rfl rfl hl.1 rfl (lv_room (Nat.le_of_ble_eq_true rfl)) dL_plays_123 ⟨Nat.zero_le _, Nat.zero_le _⟩) (fun H locs hP hS => ?_)
                  refine lv_iload_n hx hb dL_plays_126 rfl (lv_at hl 4 rfl) ?_
                  refine lv_icmp_ne (tgt := 134) hx hb dL_plays_127 (by decide) (fun c50 => ?_) (fun c50 => ?_)
                  · rw [if_neg c50] at hN
                    refine lv_iconst (v := 0) hx hb dL_plays_134 (by decide) ?_
                    obtain ⟨hE, hE2⟩ := spair hN
                    exact k_zretW hx hb hr (by decide) hE (hE2 ▸ hX) hP hS hlk dL_plays_135
                  · rw [if_pos c50] at hN
                    refine lv_iconst (v := 1) hx hb dL_plays_130 (by decide) ?_
                    refine lv_goto (tgt := 135) hx hb dL_plays_131 (by decide) ?_
                    obtain ⟨hE, hE2⟩ := spair hN
                    exact k_zretW hx hb hr (by decide) hE (hE2 ▸ hX) hP hS hlk dL_plays_135
                · rw [if_pos c47] at hN
                  refine lv_iconst (v := 1) hx hb dL_plays_103 (by decide) ?_
                  refine lv_goto (tgt := 108) hx hb dL_plays_104 (by decide) ?_
                  refine lv_istore (lv' := [(7, .int (1 : Int32)), (6, .int (1 : Int32)), (5, .int v9), (4, .int v7), (3, .int v5), (2, .int v3), (1, .int v1), (0, .ref (ad 0))]) hx hb dL_plays_108 hl (by decide) rfl (fun ls hl => ?_)
                  refine lv_iload hx hb dL_plays_110 (lv_at hl 1 rfl) ?_
                  refine lv_if_ne (tgt := 120) hx hb dL_plays_112 (by decide) (fun _ => ?_) (fun c9 => absurd c9 (by decide))
                  refine lv_aload_n hx hb dL_plays_120 rfl (lv_at hl 7 rfl) ?_
                  refine lv_bipush (v := 9) hx hb dL_plays_121 (by decide) ?_
                  obtain ⟨v51, hv51, hN⟩ := oB_spec hN
                  refine k_iR hS (va_runV (As := [.int (9 : Int32)]) (rest := []) ⟨hx, hb, hml, hown, hts⟩ (c_X3_count l g L hL G11 ad (w10.1, w10.2.1, w10.2.2.1, w10.2.2.2.1, w10.2.2.2.2) hX (9 : Int32) v51 hv51) (cwV 1 hts gL_plays_X3_count rfl rfl rfl (by decide +kernel) ⟨Nat.le_of_ble_eq_true rfl, Nat.le_of_ble_eq_true rfl⟩) (k_preV (C := RX3) (T := TX3) (N := 3) hC hS hP (hX.m 0 (by omega)) hX.o0 rfl) rfl rfl hl.1 rfl (lv_room (Nat.le_of_ble_eq_true rfl)) dL_plays_123 ⟨Nat.zero_le _, Nat.zero_le _⟩) (fun H locs hP hS => ?_)
                  refine lv_iload_n hx hb dL_plays_126 rfl (lv_at hl 4 rfl) ?_
                  refine lv_icmp_ne (tgt := 134) hx hb dL_plays_127 (by decide) (fun c53 => ?_) (fun c53 => ?_)
                  · rw [if_neg c53] at hN
                    refine lv_iconst (v := 0) hx hb dL_plays_134 (by decide) ?_
                    obtain ⟨hE, hE2⟩ := spair hN
                    exact k_zretW hx hb hr (by decide) hE (hE2 ▸ hX) hP hS hlk dL_plays_135
                  · rw [if_pos c53] at hN
                    refine lv_iconst (v := 1) hx hb dL_plays_130 (by decide) ?_
                    refine lv_goto (tgt := 135) hx hb dL_plays_131 (by decide) ?_
                    obtain ⟨hE, hE2⟩ := spair hN
                    exact k_zretW hx hb hr (by decide) hE (hE2 ▸ hX) hP hS hlk dL_plays_135
      · rw [if_neg c30] at hN
        refine lv_iload hx hb dL_plays_51 (lv_at hl 0 rfl) ?_
        refine lv_if_lt (tgt := 73) hx hb dL_plays_53 (by decide) (fun c54 => ?_) (fun c54 => ?_)
        · rw [if_pos c54] at hN
          refine lv_iconst (v := 0) hx hb dL_plays_73 (by decide) ?_
          refine lv_istore (lv' := [(6, .int (0 : Int32)), (5, .int v9), (4, .int v7), (3, .int v5), (2, .int v3), (1, .int v1), (0, .ref (ad 0))]) hx hb dL_plays_74 hl (by decide) rfl (fun ls hl => ?_)
          refine lv_iload_n hx hb dL_plays_76 rfl (lv_at hl 5 rfl) ?_
          refine lv_if_lt (tgt := 107) hx hb dL_plays_77 (by decide) (fun c55 => ?_) (fun c55 => ?_)
          · rw [if_pos c55] at hN
            refine lv_iconst (v := 0) hx hb dL_plays_107 (by decide) ?_
            refine lv_istore (lv' := [(7, .int (0 : Int32)), (6, .int (0 : Int32)), (5, .int v9), (4, .int v7), (3, .int v5), (2, .int v3), (1, .int v1), (0, .ref (ad 0))]) hx hb dL_plays_108 hl (by decide) rfl (fun ls hl => ?_)
            refine lv_iload hx hb dL_plays_110 (lv_at hl 1 rfl) ?_
            refine lv_if_ne (tgt := 120) hx hb dL_plays_112 (by decide) (fun c9 => absurd c9 (by decide)) (fun _ => ?_)
            refine lv_iload hx hb dL_plays_115 (lv_at hl 0 rfl) ?_
            refine lv_if_eq (tgt := 134) hx hb dL_plays_117 (by decide) (fun _ => ?_) (fun c9 => absurd c9 (by decide))
            refine lv_iconst (v := 0) hx hb dL_plays_134 (by decide) ?_
            obtain ⟨hE, hE2⟩ := spair hN
            exact k_zretW hx hb hr (by decide) hE (hE2 ▸ hX) hP hS hlk dL_plays_135
          · rw [if_neg c55] at hN
            refine lv_iload_n hx hb dL_plays_80 rfl (lv_at hl 5 rfl) ?_
            refine lv_iload_n hx hb dL_plays_81 rfl (lv_at hl 3 rfl) ?_
            refine lv_icmp_ge (tgt := 107) hx hb dL_plays_82 (by decide) (fun c56 => ?_) (fun c56 => ?_)
            · rw [if_pos c56] at hN
              refine lv_iconst (v := 0) hx hb dL_plays_107 (by decide) ?_
              refine lv_istore (lv' := [(7, .int (0 : Int32)), (6, .int (0 : Int32)), (5, .int v9), (4, .int v7), (3, .int v5), (2, .int v3), (1, .int v1), (0, .ref (ad 0))]) hx hb dL_plays_108 hl (by decide) rfl (fun ls hl => ?_)
              refine lv_iload hx hb dL_plays_110 (lv_at hl 1 rfl) ?_
              refine lv_if_ne (tgt := 120) hx hb dL_plays_112 (by decide) (fun c9 => absurd c9 (by decide)) (fun _ => ?_)
              refine lv_iload hx hb dL_plays_115 (lv_at hl 0 rfl) ?_
              refine lv_if_eq (tgt := 134) hx hb dL_plays_117 (by decide) (fun _ => ?_) (fun c9 => absurd c9 (by decide))
              refine lv_iconst (v := 0) hx hb dL_plays_134 (by decide) ?_
              obtain ⟨hE, hE2⟩ := spair hN
              exact k_zretW hx hb hr (by decide) hE (hE2 ▸ hX) hP hS hlk dL_plays_135
            · rw [if_neg c56] at hN
              refine lv_iload_n hx hb dL_plays_85 rfl (lv_at hl 4 rfl) ?_
              refine lv_if_lt (tgt := 107) hx hb dL_plays_86 (by decide) (fun c57 => ?_) (fun c57 => ?_)
              · rw [if_pos c57] at hN
                refine lv_iconst (v := 0) hx hb dL_plays_107 (by decide) ?_
                refine lv_istore (lv' := [(7, .int (0 : Int32)), (6, .int (0 : Int32)), (5, .int v9), (4, .int v7), (3, .int v5), (2, .int v3), (1, .int v1), (0, .ref (ad 0))]) hx hb dL_plays_108 hl (by decide) rfl (fun ls hl => ?_)
                refine lv_iload hx hb dL_plays_110 (lv_at hl 1 rfl) ?_
                refine lv_if_ne (tgt := 120) hx hb dL_plays_112 (by decide) (fun c9 => absurd c9 (by decide)) (fun _ => ?_)
                refine lv_iload hx hb dL_plays_115 (lv_at hl 0 rfl) ?_
                refine lv_if_eq (tgt := 134) hx hb dL_plays_117 (by decide) (fun _ => ?_) (fun c9 => absurd c9 (by decide))
                refine lv_iconst (v := 0) hx hb dL_plays_134 (by decide) ?_
                obtain ⟨hE, hE2⟩ := spair hN
                exact k_zretW hx hb hr (by decide) hE (hE2 ▸ hX) hP hS hlk dL_plays_135
              · rw [if_neg c57] at hN
                refine lv_iload_n hx hb dL_plays_89 rfl (lv_at hl 5 rfl) ?_
                refine lv_iload_n hx hb dL_plays_90 rfl (lv_at hl 4 rfl) ?_
                refine lv_iadd hx hb dL_plays_91 ?_
                refine lv_iload_n hx hb dL_plays_92 rfl (lv_at hl 3 rfl) ?_
                refine lv_icmp_gt (tgt := 107) hx hb dL_plays_93 (by decide) (fun c58 => ?_) (fun c58 => ?_)
                · rw [if_pos c58] at hN
                  refine lv_iconst (v := 0) hx hb dL_plays_107 (by decide) ?_
                  refine lv_istore (lv' := [(7, .int (0 : Int32)), (6, .int (0 : Int32)), (5, .int v9), (4, .int v7), (3, .int v5), (2, .int v3), (1, .int v1), (0, .ref (ad 0))]) hx hb dL_plays_108 hl (by decide) rfl (fun ls hl => ?_)
                  refine lv_iload hx hb dL_plays_110 (lv_at hl 1 rfl) ?_
                  refine lv_if_ne (tgt := 120) hx hb dL_plays_112 (by decide) (fun c9 => absurd c9 (by decide)) (fun _ => ?_)
                  refine lv_iload hx hb dL_plays_115 (lv_at hl 0 rfl) ?_
                  refine lv_if_eq (tgt := 134) hx hb dL_plays_117 (by decide) (fun _ => ?_) (fun c9 => absurd c9 (by decide))
                  refine lv_iconst (v := 0) hx hb dL_plays_134 (by decide) ?_
                  obtain ⟨hE, hE2⟩ := spair hN
                  exact k_zretW hx hb hr (by decide) hE (hE2 ▸ hX) hP hS hlk dL_plays_135
                · rw [if_neg c58] at hN
                  refine lv_iload hx hb dL_plays_96 (lv_at hl 1 rfl) ?_
                  refine lv_ldc (v := (-1000002)) hx hb hown (hts (.constant RL 68 (-1000002)) (List.mem_of_getElem? (i := 3) rfl)) dL_plays_98 ?_
                  refine lv_icmp_ne (tgt := 107) hx hb dL_plays_100 (by decide) (fun c59 => ?_) (fun c59 => ?_)
                  · rw [if_neg c59] at hN
                    refine lv_iconst (v := 0) hx hb dL_plays_107 (by decide) ?_
                    refine lv_istore (lv' := [(7, .int (0 : Int32)), (6, .int (0 : Int32)), (5, .int v9), (4, .int v7), (3, .int v5), (2, .int v3), (1, .int v1), (0, .ref (ad 0))]) hx hb dL_plays_108 hl (by decide) rfl (fun ls hl => ?_)
                    refine lv_iload hx hb dL_plays_110 (lv_at hl 1 rfl) ?_
                    refine lv_if_ne (tgt := 120) hx hb dL_plays_112 (by decide) (fun c9 => absurd c9 (by decide)) (fun _ => ?_)
                    refine lv_iload hx hb dL_plays_115 (lv_at hl 0 rfl) ?_
                    refine lv_if_eq (tgt := 134) hx hb dL_plays_117 (by decide) (fun _ => ?_) (fun c9 => absurd c9 (by decide))
                    refine lv_iconst (v := 0) hx hb dL_plays_134 (by decide) ?_
                    obtain ⟨hE, hE2⟩ := spair hN
                    exact k_zretW hx hb hr (by decide) hE (hE2 ▸ hX) hP hS hlk dL_plays_135
                  · rw [if_pos c59] at hN
                    refine lv_iconst (v := 1) hx hb dL_plays_103 (by decide) ?_
                    refine lv_goto (tgt := 108) hx hb dL_plays_104 (by decide) ?_
                    refine lv_istore (lv' := [(7, .int (1 : Int32)), (6, .int (0 : Int32)), (5, .int v9), (4, .int v7), (3, .int v5), (2, .int v3), (1, .int v1), (0, .ref (ad 0))]) hx hb dL_plays_108 hl (by decide) rfl (fun ls hl => ?_)
                    refine lv_iload hx hb dL_plays_110 (lv_at hl 1 rfl) ?_
                    refine lv_if_ne (tgt := 120) hx hb dL_plays_112 (by decide) (fun c9 => absurd c9 (by decide)) (fun _ => ?_)
                    refine lv_iload hx hb dL_plays_115 (lv_at hl 0 rfl) ?_
                    refine lv_if_eq (tgt := 134) hx hb dL_plays_117 (by decide) (fun c9 => absurd c9 (by decide)) (fun _ => ?_)
                    refine lv_aload_n hx hb dL_plays_120 rfl (lv_at hl 7 rfl) ?_
                    refine lv_bipush (v := 9) hx hb dL_plays_121 (by decide) ?_
                    obtain ⟨v60, hv60, hN⟩ := oB_spec hN
                    refine k_iR hS (va_runV (As := [.int (9 : Int32)]) (rest := []) ⟨hx, hb, hml, hown, hts⟩ (c_X3_count l g L hL G11 ad (w10.1, w10.2.1, w10.2.2.1, w10.2.2.2.1, w10.2.2.2.2) hX (9 : Int32) v60 hv60) (cwV 1 hts gL_plays_X3_count rfl rfl rfl (by decide +kernel) ⟨Nat.le_of_ble_eq_true rfl, Nat.le_of_ble_eq_true rfl⟩) (k_preV (C := RX3) (T := TX3) (N := 3) hC hS hP (hX.m 0 (by omega)) hX.o0 rfl) rfl rfl hl.1 rfl (lv_room (Nat.le_of_ble_eq_true rfl)) dL_plays_123 ⟨Nat.zero_le _, Nat.zero_le _⟩) (fun H locs hP hS => ?_)
                    refine lv_iload_n hx hb dL_plays_126 rfl (lv_at hl 4 rfl) ?_
                    refine lv_icmp_ne (tgt := 134) hx hb dL_plays_127 (by decide) (fun c62 => ?_) (fun c62 => ?_)
                    · rw [if_neg c62] at hN
                      refine lv_iconst (v := 0) hx hb dL_plays_134 (by decide) ?_
                      obtain ⟨hE, hE2⟩ := spair hN
                      exact k_zretW hx hb hr (by decide) hE (hE2 ▸ hX) hP hS hlk dL_plays_135
                    · rw [if_pos c62] at hN
                      refine lv_iconst (v := 1) hx hb dL_plays_130 (by decide) ?_
                      refine lv_goto (tgt := 135) hx hb dL_plays_131 (by decide) ?_
                      obtain ⟨hE, hE2⟩ := spair hN
                      exact k_zretW hx hb hr (by decide) hE (hE2 ▸ hX) hP hS hlk dL_plays_135
        · rw [if_neg c54] at hN
          refine lv_aload_n hx hb dL_plays_56 rfl (lv_at hl 5 rfl) ?_
          refine lv_iconst (v := 0) hx hb dL_plays_57 (by decide) ?_
          obtain ⟨v63, hv63, hN⟩ := oB_spec hN
          refine k_iR hS (va_runV (As := [.int (0 : Int32)]) (rest := []) ⟨hx, hb, hml, hown, hts⟩ (c_X3_count l g L hL G11 ad (w10.1, w10.2.1, w10.2.2.1, w10.2.2.2.1, w10.2.2.2.2) hX (0 : Int32) v63 hv63) (cwV 1 hts gL_plays_X3_count rfl rfl rfl (by decide +kernel) ⟨Nat.le_of_ble_eq_true rfl, Nat.le_of_ble_eq_true rfl⟩) (k_preV (C := RX3) (T := TX3) (N := 3) hC hS hP (hX.m 0 (by omega)) hX.o0 rfl) rfl rfl hl.1 rfl (lv_room (Nat.le_of_ble_eq_true rfl)) dL_plays_58 ⟨Nat.zero_le _, Nat.zero_le _⟩) (fun H locs hP hS => ?_)
          refine lv_iload hx hb dL_plays_61 (lv_at hl 1 rfl) ?_
          refine lv_iload hx hb dL_plays_63 (lv_at hl 0 rfl) ?_
          refine lv_iadd hx hb dL_plays_65 ?_
          refine lv_icmp_ne (tgt := 73) hx hb dL_plays_66 (by decide) (fun c65 => ?_) (fun c65 => ?_)
          · rw [if_neg c65] at hN
            refine lv_iconst (v := 0) hx hb dL_plays_73 (by decide) ?_
            refine lv_istore (lv' := [(6, .int (0 : Int32)), (5, .int v9), (4, .int v7), (3, .int v5), (2, .int v3), (1, .int v1), (0, .ref (ad 0))]) hx hb dL_plays_74 hl (by decide) rfl (fun ls hl => ?_)
            refine lv_iload_n hx hb dL_plays_76 rfl (lv_at hl 5 rfl) ?_
            refine lv_if_lt (tgt := 107) hx hb dL_plays_77 (by decide) (fun c66 => ?_) (fun c66 => ?_)
            · rw [if_pos c66] at hN
              refine lv_iconst (v := 0) hx hb dL_plays_107 (by decide) ?_
              refine lv_istore (lv' := [(7, .int (0 : Int32)), (6, .int (0 : Int32)), (5, .int v9), (4, .int v7), (3, .int v5), (2, .int v3), (1, .int v1), (0, .ref (ad 0))]) hx hb dL_plays_108 hl (by decide) rfl (fun ls hl => ?_)
              refine lv_iload hx hb dL_plays_110 (lv_at hl 1 rfl) ?_
              refine lv_if_ne (tgt := 120) hx hb dL_plays_112 (by decide) (fun c9 => absurd c9 (by decide)) (fun _ => ?_)
              refine lv_iload hx hb dL_plays_115 (lv_at hl 0 rfl) ?_
              refine lv_if_eq (tgt := 134) hx hb dL_plays_117 (by decide) (fun _ => ?_) (fun c9 => absurd c9 (by decide))
              refine lv_iconst (v := 0) hx hb dL_plays_134 (by decide) ?_
              obtain ⟨hE, hE2⟩ := spair hN
              exact k_zretW hx hb hr (by decide) hE (hE2 ▸ hX) hP hS hlk dL_plays_135
            · rw [if_neg c66] at hN
              refine lv_iload_n hx hb dL_plays_80 rfl (lv_at hl 5 rfl) ?_
              refine lv_iload_n hx hb dL_plays_81 rfl (lv_at hl 3 rfl) ?_
              refine lv_icmp_ge (tgt := 107) hx hb dL_plays_82 (by decide) (fun c67 => ?_) (fun c67 => ?_)
              · rw [if_pos c67] at hN
                refine lv_iconst (v := 0) hx hb dL_plays_107 (by decide) ?_
                refine lv_istore (lv' := [(7, .int (0 : Int32)), (6, .int (0 : Int32)), (5, .int v9), (4, .int v7), (3, .int v5), (2, .int v3), (1, .int v1), (0, .ref (ad 0))]) hx hb dL_plays_108 hl (by decide) rfl (fun ls hl => ?_)
                refine lv_iload hx hb dL_plays_110 (lv_at hl 1 rfl) ?_
                refine lv_if_ne (tgt := 120) hx hb dL_plays_112 (by decide) (fun c9 => absurd c9 (by decide)) (fun _ => ?_)
                refine lv_iload hx hb dL_plays_115 (lv_at hl 0 rfl) ?_
                refine lv_if_eq (tgt := 134) hx hb dL_plays_117 (by decide) (fun _ => ?_) (fun c9 => absurd c9 (by decide))
                refine lv_iconst (v := 0) hx hb dL_plays_134 (by decide) ?_
                obtain ⟨hE, hE2⟩ := spair hN
                exact k_zretW hx hb hr (by decide) hE (hE2 ▸ hX) hP hS hlk dL_plays_135
              · rw [if_neg c67] at hN
                refine lv_iload_n hx hb dL_plays_85 rfl (lv_at hl 4 rfl) ?_
                refine lv_if_lt (tgt := 107) hx hb dL_plays_86 (by decide) (fun c68 => ?_) (fun c68 => ?_)
                · rw [if_pos c68] at hN
                  refine lv_iconst (v := 0) hx hb dL_plays_107 (by decide) ?_
                  refine lv_istore (lv' := [(7, .int (0 : Int32)), (6, .int (0 : Int32)), (5, .int v9), (4, .int v7), (3, .int v5), (2, .int v3), (1, .int v1), (0, .ref (ad 0))]) hx hb dL_plays_108 hl (by decide) rfl (fun ls hl => ?_)
                  refine lv_iload hx hb dL_plays_110 (lv_at hl 1 rfl) ?_
                  refine lv_if_ne (tgt := 120) hx hb dL_plays_112 (by decide) (fun c9 => absurd c9 (by decide)) (fun _ => ?_)
                  refine lv_iload hx hb dL_plays_115 (lv_at hl 0 rfl) ?_
                  refine lv_if_eq (tgt := 134) hx hb dL_plays_117 (by decide) (fun _ => ?_) (fun c9 => absurd c9 (by decide))
                  refine lv_iconst (v := 0) hx hb dL_plays_134 (by decide) ?_
                  obtain ⟨hE, hE2⟩ := spair hN
                  exact k_zretW hx hb hr (by decide) hE (hE2 ▸ hX) hP hS hlk dL_plays_135
                · rw [if_neg c68] at hN
                  refine lv_iload_n hx hb dL_plays_89 rfl (lv_at hl 5 rfl) ?_
                  refine lv_iload_n hx hb dL_plays_90 rfl (lv_at hl 4 rfl) ?_
                  refine lv_iadd hx hb dL_plays_91 ?_
                  refine lv_iload_n hx hb dL_plays_92 rfl (lv_at hl 3 rfl) ?_
                  refine lv_icmp_gt (tgt := 107) hx hb dL_plays_93 (by decide) (fun c69 => ?_) (fun c69 => ?_)
                  · rw [if_pos c69] at hN
                    refine lv_iconst (v := 0) hx hb dL_plays_107 (by decide) ?_
                    refine lv_istore (lv' := [(7, .int (0 : Int32)), (6, .int (0 : Int32)), (5, .int v9), (4, .int v7), (3, .int v5), (2, .int v3), (1, .int v1), (0, .ref (ad 0))]) hx hb dL_plays_108 hl (by decide) rfl (fun ls hl => ?_)
                    refine lv_iload hx hb dL_plays_110 (lv_at hl 1 rfl) ?_
                    refine lv_if_ne (tgt := 120) hx hb dL_plays_112 (by decide) (fun c9 => absurd c9 (by decide)) (fun _ => ?_)
                    refine lv_iload hx hb dL_plays_115 (lv_at hl 0 rfl) ?_
                    refine lv_if_eq (tgt := 134) hx hb dL_plays_117 (by decide) (fun _ => ?_) (fun c9 => absurd c9 (by decide))
                    refine lv_iconst (v := 0) hx hb dL_plays_134 (by decide) ?_
                    obtain ⟨hE, hE2⟩ := spair hN
                    exact k_zretW hx hb hr (by decide) hE (hE2 ▸ hX) hP hS hlk dL_plays_135
                  · rw [if_neg c69] at hN
                    refine lv_iload hx hb dL_plays_96 (lv_at hl 1 rfl) ?_
                    refine lv_ldc (v := (-1000002)) hx hb hown (hts (.constant RL 68 (-1000002)) (List.mem_of_getElem? (i := 3) rfl)) dL_plays_98 ?_
                    refine lv_icmp_ne (tgt := 107) hx hb dL_plays_100 (by decide) (fun c70 => ?_) (fun c70 => ?_)
                    · rw [if_neg c70] at hN
                      refine lv_iconst (v := 0) hx hb dL_plays_107 (by decide) ?_
                      refine lv_istore (lv' := [(7, .int (0 : Int32)), (6, .int (0 : Int32)), (5, .int v9), (4, .int v7), (3, .int v5), (2, .int v3), (1, .int v1), (0, .ref (ad 0))]) hx hb dL_plays_108 hl (by decide) rfl (fun ls hl => ?_)
                      refine lv_iload hx hb dL_plays_110 (lv_at hl 1 rfl) ?_
                      refine lv_if_ne (tgt := 120) hx hb dL_plays_112 (by decide) (fun c9 => absurd c9 (by decide)) (fun _ => ?_)
                      refine lv_iload hx hb dL_plays_115 (lv_at hl 0 rfl) ?_
                      refine lv_if_eq (tgt := 134) hx hb dL_plays_117 (by decide) (fun _ => ?_) (fun c9 => absurd c9 (by decide))
                      refine lv_iconst (v := 0) hx hb dL_plays_134 (by decide) ?_
                      obtain ⟨hE, hE2⟩ := spair hN
                      exact k_zretW hx hb hr (by decide) hE (hE2 ▸ hX) hP hS hlk dL_plays_135
                    · rw [if_pos c70] at hN
                      refine lv_iconst (v := 1) hx hb dL_plays_103 (by decide) ?_
                      refine lv_goto (tgt := 108) hx hb dL_plays_104 (by decide) ?_
                      refine lv_istore (lv' := [(7, .int (1 : Int32)), (6, .int (0 : Int32)), (5, .int v9), (4, .int v7), (3, .int v5), (2, .int v3), (1, .int v1), (0, .ref (ad 0))]) hx hb dL_plays_108 hl (by decide) rfl (fun ls hl => ?_)
                      refine lv_iload hx hb dL_plays_110 (lv_at hl 1 rfl) ?_
                      refine lv_if_ne (tgt := 120) hx hb dL_plays_112 (by decide) (fun c9 => absurd c9 (by decide)) (fun _ => ?_)
                      refine lv_iload hx hb dL_plays_115 (lv_at hl 0 rfl) ?_
                      refine lv_if_eq (tgt := 134) hx hb dL_plays_117 (by decide) (fun c9 => absurd c9 (by decide)) (fun _ => ?_)
                      refine lv_aload_n hx hb dL_plays_120 rfl (lv_at hl 7 rfl) ?_
                      refine lv_bipush (v := 9) hx hb dL_plays_121 (by decide) ?_
                      obtain ⟨v71, hv71, hN⟩ := oB_spec hN
                      refine k_iR hS (va_runV (As := [.int (9 : Int32)]) (rest := []) ⟨hx, hb, hml, hown, hts⟩ (c_X3_count l g L hL G11 ad (w10.1, w10.2.1, w10.2.2.1, w10.2.2.2.1, w10.2.2.2.2) hX (9 : Int32) v71 hv71) (cwV 1 hts gL_plays_X3_count rfl rfl rfl (by decide +kernel) ⟨Nat.le_of_ble_eq_true rfl, Nat.le_of_ble_eq_true rfl⟩) (k_preV (C := RX3) (T := TX3) (N := 3) hC hS hP (hX.m 0 (by omega)) hX.o0 rfl) rfl rfl hl.1 rfl (lv_room (Nat.le_of_ble_eq_true rfl)) dL_plays_123 ⟨Nat.zero_le _, Nat.zero_le _⟩) (fun H locs hP hS => ?_)
                      refine lv_iload_n hx hb dL_plays_126 rfl (lv_at hl 4 rfl) ?_
                      refine lv_icmp_ne (tgt := 134) hx hb dL_plays_127 (by decide) (fun c73 => ?_) (fun c73 => ?_)
                      · rw [if_neg c73] at hN
                        refine lv_iconst (v := 0) hx hb dL_plays_134 (by decide) ?_
                        obtain ⟨hE, hE2⟩ := spair hN
                        exact k_zretW hx hb hr (by decide) hE (hE2 ▸ hX) hP hS hlk dL_plays_135
                      · rw [if_pos c73] at hN
                        refine lv_iconst (v := 1) hx hb dL_plays_130 (by decide) ?_
                        refine lv_goto (tgt := 135) hx hb dL_plays_131 (by decide) ?_
                        obtain ⟨hE, hE2⟩ := spair hN
                        exact k_zretW hx hb hr (by decide) hE (hE2 ▸ hX) hP hS hlk dL_plays_135
          · rw [if_pos c65] at hN
            refine lv_iconst (v := 1) hx hb dL_plays_69 (by decide) ?_
            refine lv_goto (tgt := 74) hx hb dL_plays_70 (by decide) ?_
            refine lv_istore (lv' := [(6, .int (1 : Int32)), (5, .int v9), (4, .int v7), (3, .int v5), (2, .int v3), (1, .int v1), (0, .ref (ad 0))]) hx hb dL_plays_74 hl (by decide) rfl (fun ls hl => ?_)
            refine lv_iload_n hx hb dL_plays_76 rfl (lv_at hl 5 rfl) ?_
            refine lv_if_lt (tgt := 107) hx hb dL_plays_77 (by decide) (fun c74 => ?_) (fun c74 => ?_)
            · rw [if_pos c74] at hN
              refine lv_iconst (v := 0) hx hb dL_plays_107 (by decide) ?_
              refine lv_istore (lv' := [(7, .int (0 : Int32)), (6, .int (1 : Int32)), (5, .int v9), (4, .int v7), (3, .int v5), (2, .int v3), (1, .int v1), (0, .ref (ad 0))]) hx hb dL_plays_108 hl (by decide) rfl (fun ls hl => ?_)
              refine lv_iload hx hb dL_plays_110 (lv_at hl 1 rfl) ?_
              refine lv_if_ne (tgt := 120) hx hb dL_plays_112 (by decide) (fun _ => ?_) (fun c9 => absurd c9 (by decide))
              refine lv_aload_n hx hb dL_plays_120 rfl (lv_at hl 7 rfl) ?_
              refine lv_bipush (v := 9) hx hb dL_plays_121 (by decide) ?_
              obtain ⟨v75, hv75, hN⟩ := oB_spec hN
              refine k_iR hS (va_runV (As := [.int (9 : Int32)]) (rest := []) ⟨hx, hb, hml, hown, hts⟩ (c_X3_count l g L hL G11 ad (w10.1, w10.2.1, w10.2.2.1, w10.2.2.2.1, w10.2.2.2.2) hX (9 : Int32) v75 hv75) (cwV 1 hts gL_plays_X3_count rfl rfl rfl (by decide +kernel) ⟨Nat.le_of_ble_eq_true rfl, Nat.le_of_ble_eq_true rfl⟩) (k_preV (C := RX3) (T := TX3) (N := 3) hC hS hP (hX.m 0 (by omega)) hX.o0 rfl) rfl rfl hl.1 rfl (lv_room (Nat.le_of_ble_eq_true rfl)) dL_plays_123 ⟨Nat.zero_le _, Nat.zero_le _⟩) (fun H locs hP hS => ?_)
              refine lv_iload_n hx hb dL_plays_126 rfl (lv_at hl 4 rfl) ?_
              refine lv_icmp_ne (tgt := 134) hx hb dL_plays_127 (by decide) (fun c77 => ?_) (fun c77 => ?_)
              · rw [if_neg c77] at hN
                refine lv_iconst (v := 0) hx hb dL_plays_134 (by decide) ?_
                obtain ⟨hE, hE2⟩ := spair hN
                exact k_zretW hx hb hr (by decide) hE (hE2 ▸ hX) hP hS hlk dL_plays_135
              · rw [if_pos c77] at hN
                refine lv_iconst (v := 1) hx hb dL_plays_130 (by decide) ?_
                refine lv_goto (tgt := 135) hx hb dL_plays_131 (by decide) ?_
                obtain ⟨hE, hE2⟩ := spair hN
                exact k_zretW hx hb hr (by decide) hE (hE2 ▸ hX) hP hS hlk dL_plays_135
            · rw [if_neg c74] at hN
              refine lv_iload_n hx hb dL_plays_80 rfl (lv_at hl 5 rfl) ?_
              refine lv_iload_n hx hb dL_plays_81 rfl (lv_at hl 3 rfl) ?_
              refine lv_icmp_ge (tgt := 107) hx hb dL_plays_82 (by decide) (fun c78 => ?_) (fun c78 => ?_)
              · rw [if_pos c78] at hN
                refine lv_iconst (v := 0) hx hb dL_plays_107 (by decide) ?_
                refine lv_istore (lv' := [(7, .int (0 : Int32)), (6, .int (1 : Int32)), (5, .int v9), (4, .int v7), (3, .int v5), (2, .int v3), (1, .int v1), (0, .ref (ad 0))]) hx hb dL_plays_108 hl (by decide) rfl (fun ls hl => ?_)
                refine lv_iload hx hb dL_plays_110 (lv_at hl 1 rfl) ?_
                refine lv_if_ne (tgt := 120) hx hb dL_plays_112 (by decide) (fun _ => ?_) (fun c9 => absurd c9 (by decide))
                refine lv_aload_n hx hb dL_plays_120 rfl (lv_at hl 7 rfl) ?_
                refine lv_bipush (v := 9) hx hb dL_plays_121 (by decide) ?_
                obtain ⟨v79, hv79, hN⟩ := oB_spec hN
                refine k_iR hS (va_runV (As := [.int (9 : Int32)]) (rest := []) ⟨hx, hb, hml, hown, hts⟩ (c_X3_count l g L hL G11 ad (w10.1, w10.2.1, w10.2.2.1, w10.2.2.2.1, w10.2.2.2.2) hX (9 : Int32) v79 hv79) (cwV 1 hts gL_plays_X3_count rfl rfl rfl (by decide +kernel) ⟨Nat.le_of_ble_eq_true rfl, Nat.le_of_ble_eq_true rfl⟩) (k_preV (C := RX3) (T := TX3) (N := 3) hC hS hP (hX.m 0 (by omega)) hX.o0 rfl) rfl rfl hl.1 rfl (lv_room (Nat.le_of_ble_eq_true rfl)) dL_plays_123 ⟨Nat.zero_le _, Nat.zero_le _⟩) (fun H locs hP hS => ?_)
                refine lv_iload_n hx hb dL_plays_126 rfl (lv_at hl 4 rfl) ?_
                refine lv_icmp_ne (tgt := 134) hx hb dL_plays_127 (by decide) (fun c81 => ?_) (fun c81 => ?_)
                · rw [if_neg c81] at hN
                  refine lv_iconst (v := 0) hx hb dL_plays_134 (by decide) ?_
                  obtain ⟨hE, hE2⟩ := spair hN
                  exact k_zretW hx hb hr (by decide) hE (hE2 ▸ hX) hP hS hlk dL_plays_135
                · rw [if_pos c81] at hN
                  refine lv_iconst (v := 1) hx hb dL_plays_130 (by decide) ?_
                  refine lv_goto (tgt := 135) hx hb dL_plays_131 (by decide) ?_
                  obtain ⟨hE, hE2⟩ := spair hN
                  exact k_zretW hx hb hr (by decide) hE (hE2 ▸ hX) hP hS hlk dL_plays_135
              · rw [if_neg c78] at hN
                refine lv_iload_n hx hb dL_plays_85 rfl (lv_at hl 4 rfl) ?_
                refine lv_if_lt (tgt := 107) hx hb dL_plays_86 (by decide) (fun c82 => ?_) (fun c82 => ?_)
                · rw [if_pos c82] at hN
                  refine lv_iconst (v := 0) hx hb dL_plays_107 (by decide) ?_
                  refine lv_istore (lv' := [(7, .int (0 : Int32)), (6, .int (1 : Int32)), (5, .int v9), (4, .int v7), (3, .int v5), (2, .int v3), (1, .int v1), (0, .ref (ad 0))]) hx hb dL_plays_108 hl (by decide) rfl (fun ls hl => ?_)
                  refine lv_iload hx hb dL_plays_110 (lv_at hl 1 rfl) ?_
                  refine lv_if_ne (tgt := 120) hx hb dL_plays_112 (by decide) (fun _ => ?_) (fun c9 => absurd c9 (by decide))
                  refine lv_aload_n hx hb dL_plays_120 rfl (lv_at hl 7 rfl) ?_
                  refine lv_bipush (v := 9) hx hb dL_plays_121 (by decide) ?_
                  obtain ⟨v83, hv83, hN⟩ := oB_spec hN
                  refine k_iR hS (va_runV (As := [.int (9 : Int32)]) (rest := []) ⟨hx, hb, hml, hown, hts⟩ (c_X3_count l g L hL G11 ad (w10.1, w10.2.1, w10.2.2.1, w10.2.2.2.1, w10.2.2.2.2) hX (9 : Int32) v83 hv83) (cwV 1 hts gL_plays_X3_count rfl rfl rfl (by decide +kernel) ⟨Nat.le_of_ble_eq_true rfl, Nat.le_of_ble_eq_true rfl⟩) (k_preV (C := RX3) (T := TX3) (N := 3) hC hS hP (hX.m 0 (by omega)) hX.o0 rfl) rfl rfl hl.1 rfl (lv_room (Nat.le_of_ble_eq_true rfl)) dL_plays_123 ⟨Nat.zero_le _, Nat.zero_le _⟩) (fun H locs hP hS => ?_)
                  refine lv_iload_n hx hb dL_plays_126 rfl (lv_at hl 4 rfl) ?_
                  refine lv_icmp_ne (tgt := 134) hx hb dL_plays_127 (by decide) (fun c85 => ?_) (fun c85 => ?_)
                  · rw [if_neg c85] at hN
                    refine lv_iconst (v := 0) hx hb dL_plays_134 (by decide) ?_
                    obtain ⟨hE, hE2⟩ := spair hN
                    exact k_zretW hx hb hr (by decide) hE (hE2 ▸ hX) hP hS hlk dL_plays_135
                  · rw [if_pos c85] at hN
                    refine lv_iconst (v := 1) hx hb dL_plays_130 (by decide) ?_
                    refine lv_goto (tgt := 135) hx hb dL_plays_131 (by decide) ?_
                    obtain ⟨hE, hE2⟩ := spair hN
                    exact k_zretW hx hb hr (by decide) hE (hE2 ▸ hX) hP hS hlk dL_plays_135
                · rw [if_neg c82] at hN
                  refine lv_iload_n hx hb dL_plays_89 rfl (lv_at hl 5 rfl) ?_
                  refine lv_iload_n hx hb dL_plays_90 rfl (lv_at hl 4 rfl) ?_
                  refine lv_iadd hx hb dL_plays_91 ?_
                  refine lv_iload_n hx hb dL_plays_92 rfl (lv_at hl 3 rfl) ?_
                  refine lv_icmp_gt (tgt := 107) hx hb dL_plays_93 (by decide) (fun c86 => ?_) (fun c86 => ?_)
                  · rw [if_pos c86] at hN
                    refine lv_iconst (v := 0) hx hb dL_plays_107 (by decide) ?_
                    refine lv_istore (lv' := [(7, .int (0 : Int32)), (6, .int (1 : Int32)), (5, .int v9), (4, .int v7), (3, .int v5), (2, .int v3), (1, .int v1), (0, .ref (ad 0))]) hx hb dL_plays_108 hl (by decide) rfl (fun ls hl => ?_)
                    refine lv_iload hx hb dL_plays_110 (lv_at hl 1 rfl) ?_
                    refine lv_if_ne (tgt := 120) hx hb dL_plays_112 (by decide) (fun _ => ?_) (fun c9 => absurd c9 (by decide))
                    refine lv_aload_n hx hb dL_plays_120 rfl (lv_at hl 7 rfl) ?_
                    refine lv_bipush (v := 9) hx hb dL_plays_121 (by decide) ?_
                    obtain ⟨v87, hv87, hN⟩ := oB_spec hN
                    refine k_iR hS (va_runV (As := [.int (9 : Int32)]) (rest := []) ⟨hx, hb, hml, hown, hts⟩ (c_X3_count l g L hL G11 ad (w10.1, w10.2.1, w10.2.2.1, w10.2.2.2.1, w10.2.2.2.2) hX (9 : Int32) v87 hv87) (cwV 1 hts gL_plays_X3_count rfl rfl rfl (by decide +kernel) ⟨Nat.le_of_ble_eq_true rfl, Nat.le_of_ble_eq_true rfl⟩) (k_preV (C := RX3) (T := TX3) (N := 3) hC hS hP (hX.m 0 (by omega)) hX.o0 rfl) rfl rfl hl.1 rfl (lv_room (Nat.le_of_ble_eq_true rfl)) dL_plays_123 ⟨Nat.zero_le _, Nat.zero_le _⟩) (fun H locs hP hS => ?_)
                    refine lv_iload_n hx hb dL_plays_126 rfl (lv_at hl 4 rfl) ?_
                    refine lv_icmp_ne (tgt := 134) hx hb dL_plays_127 (by decide) (fun c89 => ?_) (fun c89 => ?_)
                    · rw [if_neg c89] at hN
                      refine lv_iconst (v := 0) hx hb dL_plays_134 (by decide) ?_
                      obtain ⟨hE, hE2⟩ := spair hN
                      exact k_zretW hx hb hr (by decide) hE (hE2 ▸ hX) hP hS hlk dL_plays_135
                    · rw [if_pos c89] at hN
                      refine lv_iconst (v := 1) hx hb dL_plays_130 (by decide) ?_
                      refine lv_goto (tgt := 135) hx hb dL_plays_131 (by decide) ?_
                      obtain ⟨hE, hE2⟩ := spair hN
                      exact k_zretW hx hb hr (by decide) hE (hE2 ▸ hX) hP hS hlk dL_plays_135
                  · rw [if_neg c86] at hN
                    refine lv_iload hx hb dL_plays_96 (lv_at hl 1 rfl) ?_
                    refine lv_ldc (v := (-1000002)) hx hb hown (hts (.constant RL 68 (-1000002)) (List.mem_of_getElem? (i := 3) rfl)) dL_plays_98 ?_
                    refine lv_icmp_ne (tgt := 107) hx hb dL_plays_100 (by decide) (fun c90 => ?_) (fun c90 => ?_)
                    · rw [if_neg c90] at hN
                      refine lv_iconst (v := 0) hx hb dL_plays_107 (by decide) ?_
                      refine lv_istore (lv' := [(7, .int (0 : Int32)), (6, .int (1 : Int32)), (5, .int v9), (4, .int v7), (3, .int v5), (2, .int v3), (1, .int v1), (0, .ref (ad 0))]) hx hb dL_plays_108 hl (by decide) rfl (fun ls hl => ?_)
                      refine lv_iload hx hb dL_plays_110 (lv_at hl 1 rfl) ?_
                      refine lv_if_ne (tgt := 120) hx hb dL_plays_112 (by decide) (fun _ => ?_) (fun c9 => absurd c9 (by decide))
                      refine lv_aload_n hx hb dL_plays_120 rfl (lv_at hl 7 rfl) ?_
                      refine lv_bipush (v := 9) hx hb dL_plays_121 (by decide) ?_
                      obtain ⟨v91, hv91, hN⟩ := oB_spec hN
                      refine k_iR hS (va_runV (As := [.int (9 : Int32)]) (rest := []) ⟨hx, hb, hml, hown, hts⟩ (c_X3_count l g L hL G11 ad (w10.1, w10.2.1, w10.2.2.1, w10.2.2.2.1, w10.2.2.2.2) hX (9 : Int32) v91 hv91) (cwV 1 hts gL_plays_X3_count rfl rfl rfl (by decide +kernel) ⟨Nat.le_of_ble_eq_true rfl, Nat.le_of_ble_eq_true rfl⟩) (k_preV (C := RX3) (T := TX3) (N := 3) hC hS hP (hX.m 0 (by omega)) hX.o0 rfl) rfl rfl hl.1 rfl (lv_room (Nat.le_of_ble_eq_true rfl)) dL_plays_123 ⟨Nat.zero_le _, Nat.zero_le _⟩) (fun H locs hP hS => ?_)
                      refine lv_iload_n hx hb dL_plays_126 rfl (lv_at hl 4 rfl) ?_
                      refine lv_icmp_ne (tgt := 134) hx hb dL_plays_127 (by decide) (fun c93 => ?_) (fun c93 => ?_)
                      · rw [if_neg c93] at hN
                        refine lv_iconst (v := 0) hx hb dL_plays_134 (by decide) ?_
                        obtain ⟨hE, hE2⟩ := spair hN
                        exact k_zretW hx hb hr (by decide) hE (hE2 ▸ hX) hP hS hlk dL_plays_135
                      · rw [if_pos c93] at hN
                        refine lv_iconst (v := 1) hx hb dL_plays_130 (by decide) ?_
                        refine lv_goto (tgt := 135) hx hb dL_plays_131 (by decide) ?_
                        obtain ⟨hE, hE2⟩ := spair hN
                        exact k_zretW hx hb hr (by decide) hE (hE2 ▸ hX) hP hS hlk dL_plays_135
                    · rw [if_pos c90] at hN
                      refine lv_iconst (v := 1) hx hb dL_plays_103 (by decide) ?_
                      refine lv_goto (tgt := 108) hx hb dL_plays_104 (by decide) ?_
                      refine lv_istore (lv' := [(7, .int (1 : Int32)), (6, .int (1 : Int32)), (5, .int v9), (4, .int v7), (3, .int v5), (2, .int v3), (1, .int v1), (0, .ref (ad 0))]) hx hb dL_plays_108 hl (by decide) rfl (fun ls hl => ?_)
                      refine lv_iload hx hb dL_plays_110 (lv_at hl 1 rfl) ?_
                      refine lv_if_ne (tgt := 120) hx hb dL_plays_112 (by decide) (fun _ => ?_) (fun c9 => absurd c9 (by decide))
                      refine lv_aload_n hx hb dL_plays_120 rfl (lv_at hl 7 rfl) ?_
                      refine lv_bipush (v := 9) hx hb dL_plays_121 (by decide) ?_
                      obtain ⟨v94, hv94, hN⟩ := oB_spec hN
                      refine k_iR hS (va_runV (As := [.int (9 : Int32)]) (rest := []) ⟨hx, hb, hml, hown, hts⟩ (c_X3_count l g L hL G11 ad (w10.1, w10.2.1, w10.2.2.1, w10.2.2.2.1, w10.2.2.2.2) hX (9 : Int32) v94 hv94) (cwV 1 hts gL_plays_X3_count rfl rfl rfl (by decide +kernel) ⟨Nat.le_of_ble_eq_true rfl, Nat.le_of_ble_eq_true rfl⟩) (k_preV (C := RX3) (T := TX3) (N := 3) hC hS hP (hX.m 0 (by omega)) hX.o0 rfl) rfl rfl hl.1 rfl (lv_room (Nat.le_of_ble_eq_true rfl)) dL_plays_123 ⟨Nat.zero_le _, Nat.zero_le _⟩) (fun H locs hP hS => ?_)
                      refine lv_iload_n hx hb dL_plays_126 rfl (lv_at hl 4 rfl) ?_
                      refine lv_icmp_ne (tgt := 134) hx hb dL_plays_127 (by decide) (fun c96 => ?_) (fun c96 => ?_)
                      · rw [if_neg c96] at hN
                        refine lv_iconst (v := 0) hx hb dL_plays_134 (by decide) ?_
                        obtain ⟨hE, hE2⟩ := spair hN
                        exact k_zretW hx hb hr (by decide) hE (hE2 ▸ hX) hP hS hlk dL_plays_135
                      · rw [if_pos c96] at hN
                        refine lv_iconst (v := 1) hx hb dL_plays_130 (by decide) ?_
                        refine lv_goto (tgt := 135) hx hb dL_plays_131 (by decide) ?_
                        obtain ⟨hE, hE2⟩ := spair hN
                        exact k_zretW hx hb hr (by decide) hE (hE2 ▸ hX) hP hS hlk dL_plays_135
set_option maxHeartbeats 4000000 in
set_option maxRecDepth 100000 in
theorem c_L_acts (l : Launch) (g : Gm) (L : List Nat) {A : Nat → Prop} (hL : kL L A) (G : Nat → va_E) (ad : Nat → Nat) (x : XS) (hX : vX g L G ad x) (p0 : Int32) (p1 : Int32) (v : Int32) (w : XS) (hF : F_L_acts x p0 p1 = some (v, w)) : Met l yL_acts wsL_acts ({ frames := 7, cells := 0, slots := 0, locals := 195 } : Room) (va_Pc [.ref (ad 0), .int p0, .int p1] (kB g L A G)) (va_Qi (fun x9 (G9 : Nat → va_E) => x9 = v ∧ (vX g L G9 ad w)) (kE g L) A) 0 0 A := by
  refine Met.ofW (cc := cL_acts) (maxL := 8) (ret := (some .boolean)) (by decide) rfl ?_
  intro p e s m args below meth c s₁ B hml hv
  obtain ⟨rfl, hP, hC⟩ := hv
  have hx := B.exec
  have hb := B.bytes
  have hr := B.returns
  have hts := atoms_spec (ws := wsL_acts) B.pre
  have hown : s.vm.findClass RL = some m.cls := findClass_of_methodNamed B.named
  have hlk := B.notSynchronized
  have hS : va_S A s.heap s.heap [] := va_S.rf
  have hl := lv_entry ([.ref (ad 0), .int p0, .int p1]) (n := 8) (Nat.le_of_ble_eq_true rfl)
  rw [lg_entry_eq]
  generalize (lg_sl ([.ref (ad 0), .int p0, .int p1]) ++ List.replicate (8 - (lg_sl ([.ref (ad 0), .int p0, .int p1])).length) Slot.unset).toArray = ls at hl ⊢
  have hl : lv_has ls 8 [(0, .ref (ad 0)), (1, .int p0), (2, .int p1)] := hl
  have hN := hF
  unfold F_L_acts at hN
  refine lv_iload_n hx hb dL_acts_0 rfl (lv_at hl 1 rfl) ?_
  refine lv_bipush (v := 16) hx hb dL_acts_1 (by decide) ?_
  obtain ⟨v1, hv1, hN⟩ := oB_spec hN
  refine k_iR hS (va_runS (As := [.int p0, .int (16 : Int32)]) (rest := []) ⟨hx, hb, hml, hown, hts⟩ (c_L_low l g L hL G p0 (16 : Int32) v1 hv1) (va_cwS 2 hts gL_acts_L_low rfl rfl rfl (by decide +kernel) ⟨Nat.le_of_ble_eq_true rfl, Nat.le_of_ble_eq_true rfl⟩) (k_pre hC hS hP) rfl rfl hl.1 rfl (lv_room (Nat.le_of_ble_eq_true rfl)) dL_acts_3 ⟨Nat.zero_le _, Nat.zero_le _⟩) (fun H locs hP hS => ?_)
  refine lv_istore_n (lv' := [(3, .int v1), (0, .ref (ad 0)), (1, .int p0), (2, .int p1)]) hx hb dL_acts_6 rfl hl (by decide) rfl (fun ls hl => ?_)
  refine lv_aload_n hx hb dL_acts_7 rfl (lv_at hl 1 rfl) ?_
  refine lv_iconst (v := 0) hx hb dL_acts_8 (by decide) ?_
  obtain ⟨v3, hv3, hN⟩ := oB_spec hN
  refine k_iR hS (va_runV (As := [.int (0 : Int32)]) (rest := []) ⟨hx, hb, hml, hown, hts⟩ (c_X3_count l g L hL G ad (x.1, x.2.1, x.2.2.1, x.2.2.2.1, x.2.2.2.2) hX (0 : Int32) v3 hv3) (cwV 1 hts gL_acts_X3_count rfl rfl rfl (by decide +kernel) ⟨Nat.le_of_ble_eq_true rfl, Nat.le_of_ble_eq_true rfl⟩) (k_preV (C := RX3) (T := TX3) (N := 3) hC hS hP (hX.m 0 (by omega)) hX.o0 rfl) rfl rfl hl.1 rfl (lv_room (Nat.le_of_ble_eq_true rfl)) dL_acts_9 ⟨Nat.zero_le _, Nat.zero_le _⟩) (fun H locs hP hS => ?_)
  refine lv_istore (lv' := [(4, .int v3), (3, .int v1), (0, .ref (ad 0)), (1, .int p0), (2, .int p1)]) hx hb dL_acts_12 hl (by decide) rfl (fun ls hl => ?_)
  refine lv_iload_n hx hb dL_acts_14 rfl (lv_at hl 1 rfl) ?_
  refine lv_bipush (v := 6) hx hb dL_acts_15 (by decide) ?_
  refine lv_icmp_ge (tgt := 167) hx hb dL_acts_17 (by decide) (fun c5 => ?_) (fun c5 => ?_)
  · rw [if_pos c5] at hN
    refine lv_iload_n hx hb dL_acts_167 rfl (lv_at hl 1 rfl) ?_
    refine lv_bipush (v := 6) hx hb dL_acts_168 (by decide) ?_
    refine lv_icmp_ne (tgt := 251) hx hb dL_acts_170 (by decide) (fun c6 => ?_) (fun c6 => ?_)
    · rw [if_neg c6] at hN
      refine lv_iload_n hx hb dL_acts_251 rfl (lv_at hl 1 rfl) ?_
      refine lv_bipush (v := 7) hx hb dL_acts_252 (by decide) ?_
      refine lv_icmp_ne (tgt := 306) hx hb dL_acts_254 (by decide) (fun c7 => ?_) (fun c7 => ?_)
      · rw [if_neg c7] at hN
        refine lv_iload_n hx hb dL_acts_306 rfl (lv_at hl 1 rfl) ?_
        refine lv_bipush (v := 8) hx hb dL_acts_307 (by decide) ?_
        refine lv_icmp_ne (tgt := 351) hx hb dL_acts_309 (by decide) (fun c8 => ?_) (fun c8 => ?_)
        · rw [if_neg c8] at hN
          refine lv_aload_n hx hb dL_acts_351 rfl (lv_at hl 2 rfl) ?_
          refine lv_iconst (v := 4) hx hb dL_acts_352 (by decide) ?_
          obtain ⟨v9, hv9, hN⟩ := oB_spec hN
          refine k_iR hS (va_runV (As := [.int (4 : Int32)]) (rest := []) ⟨hx, hb, hml, hown, hts⟩ (c_X3_count l g L hL G ad (x.1, x.2.1, x.2.2.1, x.2.2.2.1, x.2.2.2.2) hX (4 : Int32) v9 hv9) (cwV 1 hts gL_acts_X3_count rfl rfl rfl (by decide +kernel) ⟨Nat.le_of_ble_eq_true rfl, Nat.le_of_ble_eq_true rfl⟩) (k_preV (C := RX3) (T := TX3) (N := 3) hC hS hP (hX.m 0 (by omega)) hX.o0 rfl) rfl rfl hl.1 rfl (lv_room (Nat.le_of_ble_eq_true rfl)) dL_acts_353 ⟨Nat.zero_le _, Nat.zero_le _⟩) (fun H locs hP hS => ?_)
          refine lv_istore (lv' := [(5, .int v9), (4, .int v3), (3, .int v1), (0, .ref (ad 0)), (1, .int p0), (2, .int p1)]) hx hb dL_acts_356 hl (by decide) rfl (fun ls hl => ?_)
          refine lv_iload_n hx hb dL_acts_358 rfl (lv_at hl 2 rfl) ?_
          refine lv_bipush (v := 12) hx hb dL_acts_359 (by decide) ?_
          refine lv_icmp_ge (tgt := 440) hx hb dL_acts_361 (by decide) (fun c11 => ?_) (fun c11 => ?_)
          · rw [if_pos c11] at hN
            refine lv_iload_n hx hb dL_acts_440 rfl (lv_at hl 2 rfl) ?_
            refine lv_bipush (v := 12) hx hb dL_acts_441 (by decide) ?_
            refine lv_icmp_ne (tgt := 556) hx hb dL_acts_443 (by decide) (fun c12 => ?_) (fun c12 => ?_)
            · rw [if_neg c12] at hN
              refine lv_aload_n hx hb dL_acts_556 rfl (lv_at hl 3 rfl) ?_
              refine lv_iload_n hx hb dL_acts_557 rfl (lv_at hl 5 rfl) ?_
              obtain ⟨v13, w14, hv13, hN⟩ := oB2_spec hN
              refine k_iW hS (va_runS (As := [.ref (ad 0), .int p1]) (rest := []) ⟨hx, hb, hml, hown, hts⟩ (c_L_types l g L hL G ad (x.1, x.2.1, x.2.2.1, x.2.2.2.1, x.2.2.2.2) hX p1 v13 w14 hv13) (va_cwS 2 hts gL_acts_L_types rfl rfl rfl (by decide +kernel) ⟨Nat.le_of_ble_eq_true rfl, Nat.le_of_ble_eq_true rfl⟩) (k_pre hC hS hP) rfl rfl hl.1 rfl (lv_room (Nat.le_of_ble_eq_true rfl)) dL_acts_558 ⟨Nat.zero_le _, Nat.zero_le _⟩) (fun G15 H locs hq hP hS => ?_)
              have hX := hq
              refine lv_if_eq (tgt := 575) hx hb dL_acts_561 (by decide) (fun c16 => ?_) (fun c16 => ?_)
              · rw [if_pos c16] at hN
                refine lv_iconst (v := 0) hx hb dL_acts_575 (by decide) ?_
                obtain ⟨hE, hE2⟩ := spair hN
                exact k_zretW hx hb hr (by decide) hE (hE2 ▸ hX) hP hS hlk dL_acts_576
              · rw [if_neg c16] at hN
                refine lv_aload_n hx hb dL_acts_564 rfl (lv_at hl 3 rfl) ?_
                obtain ⟨v17, w18, hv17, hN⟩ := oB2_spec hN
                refine k_iW hS (va_runS (As := [.ref (ad 0)]) (rest := []) ⟨hx, hb, hml, hown, hts⟩ (c_L_plays l g L hL G15 ad (w14.1, w14.2.1, w14.2.2.1, w14.2.2.2.1, w14.2.2.2.2) hX v17 w18 hv17) (va_cwS 1 hts gL_acts_L_plays rfl rfl rfl (by decide +kernel) ⟨Nat.le_of_ble_eq_true rfl, Nat.le_of_ble_eq_true rfl⟩) (k_pre hC hS hP) rfl rfl hl.1 rfl (lv_room (Nat.le_of_ble_eq_true rfl)) dL_acts_565 ⟨Nat.zero_le _, Nat.zero_le _⟩) (fun G19 H locs hq hP hS => ?_)
                have hX := hq
                refine lv_if_eq (tgt := 575) hx hb dL_acts_568 (by decide) (fun c20 => ?_) (fun c20 => ?_)
                · rw [if_pos c20] at hN
                  refine lv_iconst (v := 0) hx hb dL_acts_575 (by decide) ?_
                  obtain ⟨hE, hE2⟩ := spair hN
                  exact k_zretW hx hb hr (by decide) hE (hE2 ▸ hX) hP hS hlk dL_acts_576
                · rw [if_neg c20] at hN
                  refine lv_iconst (v := 1) hx hb dL_acts_571 (by decide) ?_
                  refine lv_goto (tgt := 576) hx hb dL_acts_572 (by decide) ?_
                  obtain ⟨hE, hE2⟩ := spair hN
                  exact k_zretW hx hb hr (by decide) hE (hE2 ▸ hX) hP hS hlk dL_acts_576
            · rw [if_pos c12] at hN
              refine lv_iload_n hx hb dL_acts_446 rfl (lv_at hl 5 rfl) ?_
              refine lv_bipush (v := 13) hx hb dL_acts_447 (by decide) ?_
              obtain ⟨v21, hv21, hN⟩ := oB_spec hN
              refine k_iR hS (va_runS (As := [.int p1, .int (13 : Int32)]) (rest := []) ⟨hx, hb, hml, hown, hts⟩ (c_L_low l g L hL G p1 (13 : Int32) v21 hv21) (va_cwS 2 hts gL_acts_L_low rfl rfl rfl (by decide +kernel) ⟨Nat.le_of_ble_eq_true rfl, Nat.le_of_ble_eq_true rfl⟩) (k_pre hC hS hP) rfl rfl hl.1 rfl (lv_room (Nat.le_of_ble_eq_true rfl)) dL_acts_449 ⟨Nat.zero_le _, Nat.zero_le _⟩) (fun H locs hP hS => ?_)
              refine lv_iconst (v := 3) hx hb dL_acts_452 (by decide) ?_
              refine lv_imul hx hb dL_acts_453 ?_
              refine lv_iload_n hx hb dL_acts_454 rfl (lv_at hl 5 rfl) ?_
              refine lv_iconst (v := 4) hx hb dL_acts_455 (by decide) ?_
              refine lv_ishr hx hb dL_acts_456 ?_
              refine lv_bipush (v := 6) hx hb dL_acts_457 (by decide) ?_
              obtain ⟨v23, hv23, hN⟩ := oB_spec hN
              refine k_iR hS (va_runS (As := [.int (p1 >>> ((4 : Int32) &&& 31)), .int (6 : Int32)]) (rest := [.int (v21 * (3 : Int32))]) ⟨hx, hb, hml, hown, hts⟩ (c_L_low l g L hL G (p1 >>> ((4 : Int32) &&& 31)) (6 : Int32) v23 hv23) (va_cwS 2 hts gL_acts_L_low rfl rfl rfl (by decide +kernel) ⟨Nat.le_of_ble_eq_true rfl, Nat.le_of_ble_eq_true rfl⟩) (k_pre hC hS hP) rfl rfl hl.1 rfl (lv_room (Nat.le_of_ble_eq_true rfl)) dL_acts_459 ⟨Nat.zero_le _, Nat.zero_le _⟩) (fun H locs hP hS => ?_)
              refine lv_iadd hx hb dL_acts_462 ?_
              refine lv_istore (lv' := [(6, .int ((v21 * (3 : Int32)) + v23)), (5, .int v9), (4, .int v3), (3, .int v1), (0, .ref (ad 0)), (1, .int p0), (2, .int p1)]) hx hb dL_acts_463 hl (by decide) rfl (fun ls hl => ?_)
              refine lv_aload_n hx hb dL_acts_465 rfl (lv_at hl 4 rfl) ?_
              refine lv_iload hx hb dL_acts_466 (lv_at hl 0 rfl) ?_
              obtain ⟨v25, w26, hv25, hN⟩ := oB2_spec hN
              refine k_iW hS (va_runV (As := [.int ((v21 * (3 : Int32)) + v23)]) (rest := []) ⟨hx, hb, hml, hown, hts⟩ (c_X3_run l g L hL G ad (x.1, x.2.1, x.2.2.1, x.2.2.2.1, x.2.2.2.2) hX ((v21 * (3 : Int32)) + v23) v25 w26 hv25) (cwV 1 hts gL_acts_X3_run rfl rfl rfl (by decide +kernel) ⟨Nat.le_of_ble_eq_true rfl, Nat.le_of_ble_eq_true rfl⟩) (k_preV (C := RX3) (T := TX3) (N := 3) hC hS hP (hX.m 0 (by omega)) hX.o0 rfl) rfl rfl hl.1 rfl (lv_room (Nat.le_of_ble_eq_true rfl)) dL_acts_468 ⟨Nat.zero_le _, Nat.zero_le _⟩) (fun G27 H locs hq hP hS => ?_)
              have hX := hq
              refine lv_istore (lv' := [(7, .int v25), (6, .int ((v21 * (3 : Int32)) + v23)), (5, .int v9), (4, .int v3), (3, .int v1), (0, .ref (ad 0)), (1, .int p0), (2, .int p1)]) hx hb dL_acts_471 hl (by decide) rfl (fun ls hl => ?_)
              refine lv_iload hx hb dL_acts_473 (lv_at hl 1 rfl) ?_
              refine lv_iconst (v := 1) hx hb dL_acts_475 (by decide) ?_
              refine lv_icmp_lt (tgt := 486) hx hb dL_acts_476 (by decide) (fun c28 => ?_) (fun c28 => ?_)
              · rw [if_pos c28] at hN
                refine lv_iload hx hb dL_acts_486 (lv_at hl 0 rfl) ?_
                refine lv_ldc (v := (-1000001)) hx hb hown (hts (.constant RL 72 (-1000001)) (List.mem_of_getElem? (i := 1) rfl)) dL_acts_488 ?_
                refine lv_icmp_ne (tgt := 497) hx hb dL_acts_490 (by decide) (fun c29 => ?_) (fun c29 => ?_)
                · rw [if_neg c29] at hN
                  refine lv_iconst (v := 0) hx hb dL_acts_497 (by decide) ?_
                  refine lv_goto (tgt := 555) hx hb dL_acts_498 (by decide) ?_
                  obtain ⟨hE, hE2⟩ := spair hN
                  exact k_zretW hx hb hr (by decide) hE (hE2 ▸ hX) hP hS hlk dL_acts_555
                · rw [if_pos c29] at hN
                  refine lv_iconst (v := 1) hx hb dL_acts_493 (by decide) ?_
                  refine lv_goto (tgt := 555) hx hb dL_acts_494 (by decide) ?_
                  obtain ⟨hE, hE2⟩ := spair hN
                  exact k_zretW hx hb hr (by decide) hE (hE2 ▸ hX) hP hS hlk dL_acts_555
              · rw [if_neg c28] at hN
                refine lv_iload hx hb dL_acts_479 (lv_at hl 1 rfl) ?_
                refine lv_bipush (v := 40) hx hb dL_acts_481 (by decide) ?_
                refine lv_icmp_le (tgt := 501) hx hb dL_acts_483 (by decide) (fun c30 => ?_) (fun c30 => ?_)
                · rw [if_pos c30] at hN
                  refine lv_iload hx hb dL_acts_501 (lv_at hl 0 rfl) ?_
                  refine lv_ldc (v := (-1000003)) hx hb hown (hts (.constant RL 67 (-1000003)) (List.mem_of_getElem? (i := 3) rfl)) dL_acts_503 ?_
                  refine lv_icmp_eq (tgt := 550) hx hb dL_acts_505 (by decide) (fun c31 => ?_) (fun c31 => ?_)
                  · rw [if_pos c31] at hN
                    refine lv_iconst (v := 1) hx hb dL_acts_550 (by decide) ?_
                    refine lv_goto (tgt := 555) hx hb dL_acts_551 (by decide) ?_
                    obtain ⟨hE, hE2⟩ := spair hN
                    exact k_zretW hx hb hr (by decide) hE (hE2 ▸ hX) hP hS hlk dL_acts_555
                  · rw [if_neg c31] at hN
                    refine lv_iload hx hb dL_acts_508 (lv_at hl 0 rfl) ?_
                    refine lv_iload hx hb dL_acts_510 (lv_at hl 1 rfl) ?_
                    refine lv_icmp_gt (tgt := 554) hx hb dL_acts_512 (by decide) (fun c32 => ?_) (fun c32 => ?_)
                    · rw [if_pos c32] at hN
                      refine lv_iconst (v := 0) hx hb dL_acts_554 (by decide) ?_
                      obtain ⟨hE, hE2⟩ := spair hN
                      exact k_zretW hx hb hr (by decide) hE (hE2 ▸ hX) hP hS hlk dL_acts_555
                    · rw [if_neg c32] at hN
                      refine lv_aload_n hx hb dL_acts_515 rfl (lv_at hl 5 rfl) ?_
                      refine lv_iconst (v := 4) hx hb dL_acts_516 (by decide) ?_
                      obtain ⟨v33, hv33, hN⟩ := oB_spec hN
                      refine k_iR hS (va_runV (As := [.int (4 : Int32)]) (rest := []) ⟨hx, hb, hml, hown, hts⟩ (c_X3_count l g L hL G27 ad (w26.1, w26.2.1, w26.2.2.1, w26.2.2.2.1, w26.2.2.2.2) hX (4 : Int32) v33 hv33) (cwV 1 hts gL_acts_X3_count rfl rfl rfl (by decide +kernel) ⟨Nat.le_of_ble_eq_true rfl, Nat.le_of_ble_eq_true rfl⟩) (k_preV (C := RX3) (T := TX3) (N := 3) hC hS hP (hX.m 0 (by omega)) hX.o0 rfl) rfl rfl hl.1 rfl (lv_room (Nat.le_of_ble_eq_true rfl)) dL_acts_517 ⟨Nat.zero_le _, Nat.zero_le _⟩) (fun H locs hP hS => ?_)
                      refine lv_iload hx hb dL_acts_520 (lv_at hl 2 rfl) ?_
                      refine lv_iload hx hb dL_acts_522 (lv_at hl 0 rfl) ?_
                      refine lv_iadd hx hb dL_acts_524 ?_
                      refine lv_icmp_ne (tgt := 554) hx hb dL_acts_525 (by decide) (fun c35 => ?_) (fun c35 => ?_)
                      · rw [if_neg c35] at hN
                        refine lv_iconst (v := 0) hx hb dL_acts_554 (by decide) ?_
                        obtain ⟨hE, hE2⟩ := spair hN
                        exact k_zretW hx hb hr (by decide) hE (hE2 ▸ hX) hP hS hlk dL_acts_555
                      · rw [if_pos c35] at hN
                        refine lv_iload hx hb dL_acts_528 (lv_at hl 0 rfl) ?_
                        refine lv_iload hx hb dL_acts_530 (lv_at hl 1 rfl) ?_
                        refine lv_icmp_eq (tgt := 550) hx hb dL_acts_532 (by decide) (fun c36 => ?_) (fun c36 => ?_)
                        · rw [if_pos c36] at hN
                          refine lv_iconst (v := 1) hx hb dL_acts_550 (by decide) ?_
                          refine lv_goto (tgt := 555) hx hb dL_acts_551 (by decide) ?_
                          obtain ⟨hE, hE2⟩ := spair hN
                          exact k_zretW hx hb hr (by decide) hE (hE2 ▸ hX) hP hS hlk dL_acts_555
                        · rw [if_neg c36] at hN
                          refine lv_aload_n hx hb dL_acts_535 rfl (lv_at hl 5 rfl) ?_
                          refine lv_iconst (v := 1) hx hb dL_acts_536 (by decide) ?_
                          obtain ⟨v37, hv37, hN⟩ := oB_spec hN
                          refine k_iR hS (va_runV (As := [.int (1 : Int32)]) (rest := []) ⟨hx, hb, hml, hown, hts⟩ (c_X3_count l g L hL G27 ad (w26.1, w26.2.1, w26.2.2.1, w26.2.2.2.1, w26.2.2.2.2) hX (1 : Int32) v37 hv37) (cwV 1 hts gL_acts_X3_count rfl rfl rfl (by decide +kernel) ⟨Nat.le_of_ble_eq_true rfl, Nat.le_of_ble_eq_true rfl⟩) (k_preV (C := RX3) (T := TX3) (N := 3) hC hS hP (hX.m 0 (by omega)) hX.o0 rfl) rfl rfl hl.1 rfl (lv_room (Nat.le_of_ble_eq_true rfl)) dL_acts_537 ⟨Nat.zero_le _, Nat.zero_le _⟩) (fun H locs hP hS => ?_)
                          refine lv_if_eq (tgt := 550) hx hb dL_acts_540 (by decide) (fun c39 => ?_) (fun c39 => ?_)
                          · rw [if_pos c39] at hN
                            refine lv_iconst (v := 1) hx hb dL_acts_550 (by decide) ?_
                            refine lv_goto (tgt := 555) hx hb dL_acts_551 (by decide) ?_
                            obtain ⟨hE, hE2⟩ := spair hN
                            exact k_zretW hx hb hr (by decide) hE (hE2 ▸ hX) hP hS hlk dL_acts_555
                          · rw [if_neg c39] at hN
                            refine lv_aload_n hx hb dL_acts_543 rfl (lv_at hl 5 rfl) ?_
                            obtain ⟨v40, hv40, hN⟩ := oB_spec hN
                            refine k_iR hS (va_runV (As := []) (rest := []) ⟨hx, hb, hml, hown, hts⟩ (c_X3_refutation l g L hL G27 ad (w26.1, w26.2.1, w26.2.2.1, w26.2.2.2.1, w26.2.2.2.2) hX v40 hv40) (cwV 0 hts gL_acts_X3_refutation rfl rfl rfl (by decide +kernel) ⟨Nat.le_of_ble_eq_true rfl, Nat.le_of_ble_eq_true rfl⟩) (k_preV (C := RX3) (T := TX3) (N := 3) hC hS hP (hX.m 0 (by omega)) hX.o0 rfl) rfl rfl hl.1 rfl (lv_room (Nat.le_of_ble_eq_true rfl)) dL_acts_544 ⟨Nat.zero_le _, Nat.zero_le _⟩) (fun H locs hP hS => ?_)
                            refine lv_if_lt (tgt := 554) hx hb dL_acts_547 (by decide) (fun c42 => ?_) (fun c42 => ?_)
                            · rw [if_pos c42] at hN
                              refine lv_iconst (v := 0) hx hb dL_acts_554 (by decide) ?_
                              obtain ⟨hE, hE2⟩ := spair hN
                              exact k_zretW hx hb hr (by decide) hE (hE2 ▸ hX) hP hS hlk dL_acts_555
                            · rw [if_neg c42] at hN
                              refine lv_iconst (v := 1) hx hb dL_acts_550 (by decide) ?_
                              refine lv_goto (tgt := 555) hx hb dL_acts_551 (by decide) ?_
                              obtain ⟨hE, hE2⟩ := spair hN
                              exact k_zretW hx hb hr (by decide) hE (hE2 ▸ hX) hP hS hlk dL_acts_555
                · rw [if_neg c30] at hN
                  refine lv_iload hx hb dL_acts_486 (lv_at hl 0 rfl) ?_
                  refine lv_ldc (v := (-1000001)) hx hb hown (hts (.constant RL 72 (-1000001)) (List.mem_of_getElem? (i := 1) rfl)) dL_acts_488 ?_
                  refine lv_icmp_ne (tgt := 497) hx hb dL_acts_490 (by decide) (fun c43 => ?_) (fun c43 => ?_)
                  · rw [if_neg c43] at hN
                    refine lv_iconst (v := 0) hx hb dL_acts_497 (by decide) ?_
                    refine lv_goto (tgt := 555) hx hb dL_acts_498 (by decide) ?_
                    obtain ⟨hE, hE2⟩ := spair hN
                    exact k_zretW hx hb hr (by decide) hE (hE2 ▸ hX) hP hS hlk dL_acts_555
                  · rw [if_pos c43] at hN
                    refine lv_iconst (v := 1) hx hb dL_acts_493 (by decide) ?_
                    refine lv_goto (tgt := 555) hx hb dL_acts_494 (by decide) ?_
                    obtain ⟨hE, hE2⟩ := spair hN
                    exact k_zretW hx hb hr (by decide) hE (hE2 ▸ hX) hP hS hlk dL_acts_555
          · rw [if_neg c11] at hN
            refine lv_aload_n hx hb dL_acts_364 rfl (lv_at hl 3 rfl) ?_
            obtain ⟨v44, w45, hv44, hN⟩ := oB2_spec hN
            refine k_iW hS (va_runV (As := []) (rest := []) ⟨hx, hb, hml, hown, hts⟩ (c_X3_step l g L hL G ad (x.1, x.2.1, x.2.2.1, x.2.2.2.1, x.2.2.2.2) hX v44 w45 hv44) (cwV 0 hts gL_acts_X3_step rfl rfl rfl (by decide +kernel) ⟨Nat.le_of_ble_eq_true rfl, Nat.le_of_ble_eq_true rfl⟩) (k_preV (C := RX3) (T := TX3) (N := 3) hC hS hP (hX.m 0 (by omega)) hX.o0 rfl) rfl rfl hl.1 rfl (lv_room (Nat.le_of_ble_eq_true rfl)) dL_acts_365 ⟨Nat.zero_le _, Nat.zero_le _⟩) (fun G46 H locs hq hP hS => ?_)
            have hX := hq
            refine lv_istore (lv' := [(6, .int v44), (5, .int v9), (4, .int v3), (3, .int v1), (0, .ref (ad 0)), (1, .int p0), (2, .int p1)]) hx hb dL_acts_368 hl (by decide) rfl (fun ls hl => ?_)
            refine lv_iload hx hb dL_acts_370 (lv_at hl 0 rfl) ?_
            refine lv_if_ge (tgt := 412) hx hb dL_acts_372 (by decide) (fun c47 => ?_) (fun c47 => ?_)
            · rw [if_pos c47] at hN
              refine lv_aload_n hx hb dL_acts_412 rfl (lv_at hl 4 rfl) ?_
              refine lv_iload hx hb dL_acts_413 (lv_at hl 0 rfl) ?_
              refine lv_iconst (v := 1) hx hb dL_acts_415 (by decide) ?_
              obtain ⟨v48, hv48, hN⟩ := oB_spec hN
              refine k_iR hS (va_runV (As := [.int v44, .int (1 : Int32)]) (rest := []) ⟨hx, hb, hml, hown, hts⟩ (c_X3_clauseOf l g L hL G46 ad (w45.1, w45.2.1, w45.2.2.1, w45.2.2.2.1, w45.2.2.2.2) hX v44 (1 : Int32) v48 hv48) (cwV 2 hts gL_acts_X3_clauseOf rfl rfl rfl (by decide +kernel) ⟨Nat.le_of_ble_eq_true rfl, Nat.le_of_ble_eq_true rfl⟩) (k_preV (C := RX3) (T := TX3) (N := 3) hC hS hP (hX.m 0 (by omega)) hX.o0 rfl) rfl rfl hl.1 rfl (lv_room (Nat.le_of_ble_eq_true rfl)) dL_acts_416 ⟨Nat.zero_le _, Nat.zero_le _⟩) (fun H locs hP hS => ?_)
              refine lv_if_le (tgt := 438) hx hb dL_acts_419 (by decide) (fun c50 => ?_) (fun c50 => ?_)
              · rw [if_pos c50] at hN
                refine lv_iconst (v := 0) hx hb dL_acts_438 (by decide) ?_
                obtain ⟨hE, hE2⟩ := spair hN
                exact k_zretW hx hb hr (by decide) hE (hE2 ▸ hX) hP hS hlk dL_acts_439
              · rw [if_neg c50] at hN
                refine lv_aload_n hx hb dL_acts_422 rfl (lv_at hl 4 rfl) ?_
                refine lv_iconst (v := 4) hx hb dL_acts_423 (by decide) ?_
                obtain ⟨v51, hv51, hN⟩ := oB_spec hN
                refine k_iR hS (va_runV (As := [.int (4 : Int32)]) (rest := []) ⟨hx, hb, hml, hown, hts⟩ (c_X3_count l g L hL G46 ad (w45.1, w45.2.1, w45.2.2.1, w45.2.2.2.1, w45.2.2.2.2) hX (4 : Int32) v51 hv51) (cwV 1 hts gL_acts_X3_count rfl rfl rfl (by decide +kernel) ⟨Nat.le_of_ble_eq_true rfl, Nat.le_of_ble_eq_true rfl⟩) (k_preV (C := RX3) (T := TX3) (N := 3) hC hS hP (hX.m 0 (by omega)) hX.o0 rfl) rfl rfl hl.1 rfl (lv_room (Nat.le_of_ble_eq_true rfl)) dL_acts_424 ⟨Nat.zero_le _, Nat.zero_le _⟩) (fun H locs hP hS => ?_)
                refine lv_iload hx hb dL_acts_427 (lv_at hl 1 rfl) ?_
                refine lv_iconst (v := 1) hx hb dL_acts_429 (by decide) ?_
                refine lv_iadd hx hb dL_acts_430 ?_
                refine lv_icmp_ne (tgt := 438) hx hb dL_acts_431 (by decide) (fun c53 => ?_) (fun c53 => ?_)
                · rw [if_neg c53] at hN
                  refine lv_iconst (v := 0) hx hb dL_acts_438 (by decide) ?_
                  obtain ⟨hE, hE2⟩ := spair hN
                  exact k_zretW hx hb hr (by decide) hE (hE2 ▸ hX) hP hS hlk dL_acts_439
                · rw [if_pos c53] at hN
                  refine lv_iconst (v := 1) hx hb dL_acts_434 (by decide) ?_
                  refine lv_goto (tgt := 439) hx hb dL_acts_435 (by decide) ?_
                  obtain ⟨hE, hE2⟩ := spair hN
                  exact k_zretW hx hb hr (by decide) hE (hE2 ▸ hX) hP hS hlk dL_acts_439
            · rw [if_neg c47] at hN
              refine lv_iload hx hb dL_acts_375 (lv_at hl 0 rfl) ?_
              refine lv_ldc (v := (-1000003)) hx hb hown (hts (.constant RL 67 (-1000003)) (List.mem_of_getElem? (i := 3) rfl)) dL_acts_377 ?_
              refine lv_icmp_eq (tgt := 404) hx hb dL_acts_379 (by decide) (fun c54 => ?_) (fun c54 => ?_)
              · rw [if_pos c54] at hN
                refine lv_iconst (v := 1) hx hb dL_acts_404 (by decide) ?_
                refine lv_goto (tgt := 439) hx hb dL_acts_405 (by decide) ?_
                obtain ⟨hE, hE2⟩ := spair hN
                exact k_zretW hx hb hr (by decide) hE (hE2 ▸ hX) hP hS hlk dL_acts_439
              · rw [if_neg c54] at hN
                refine lv_iload hx hb dL_acts_382 (lv_at hl 0 rfl) ?_
                refine lv_ldc (v := (-1000002)) hx hb hown (hts (.constant RL 68 (-1000002)) (List.mem_of_getElem? (i := 4) rfl)) dL_acts_384 ?_
                refine lv_icmp_ne (tgt := 408) hx hb dL_acts_386 (by decide) (fun c55 => ?_) (fun c55 => ?_)
                · rw [if_neg c55] at hN
                  refine lv_iconst (v := 0) hx hb dL_acts_408 (by decide) ?_
                  refine lv_goto (tgt := 439) hx hb dL_acts_409 (by decide) ?_
                  obtain ⟨hE, hE2⟩ := spair hN
                  exact k_zretW hx hb hr (by decide) hE (hE2 ▸ hX) hP hS hlk dL_acts_439
                · rw [if_pos c55] at hN
                  refine lv_aload_n hx hb dL_acts_389 rfl (lv_at hl 4 rfl) ?_
                  refine lv_iconst (v := 1) hx hb dL_acts_390 (by decide) ?_
                  obtain ⟨v56, hv56, hN⟩ := oB_spec hN
                  refine k_iR hS (va_runV (As := [.int (1 : Int32)]) (rest := []) ⟨hx, hb, hml, hown, hts⟩ (c_X3_count l g L hL G46 ad (w45.1, w45.2.1, w45.2.2.1, w45.2.2.2.1, w45.2.2.2.2) hX (1 : Int32) v56 hv56) (cwV 1 hts gL_acts_X3_count rfl rfl rfl (by decide +kernel) ⟨Nat.le_of_ble_eq_true rfl, Nat.le_of_ble_eq_true rfl⟩) (k_preV (C := RX3) (T := TX3) (N := 3) hC hS hP (hX.m 0 (by omega)) hX.o0 rfl) rfl rfl hl.1 rfl (lv_room (Nat.le_of_ble_eq_true rfl)) dL_acts_391 ⟨Nat.zero_le _, Nat.zero_le _⟩) (fun H locs hP hS => ?_)
                  refine lv_if_eq (tgt := 404) hx hb dL_acts_394 (by decide) (fun c58 => ?_) (fun c58 => ?_)
                  · rw [if_pos c58] at hN
                    refine lv_iconst (v := 1) hx hb dL_acts_404 (by decide) ?_
                    refine lv_goto (tgt := 439) hx hb dL_acts_405 (by decide) ?_
                    obtain ⟨hE, hE2⟩ := spair hN
                    exact k_zretW hx hb hr (by decide) hE (hE2 ▸ hX) hP hS hlk dL_acts_439
                  · rw [if_neg c58] at hN
                    refine lv_aload_n hx hb dL_acts_397 rfl (lv_at hl 4 rfl) ?_
                    obtain ⟨v59, hv59, hN⟩ := oB_spec hN
                    refine k_iR hS (va_runV (As := []) (rest := []) ⟨hx, hb, hml, hown, hts⟩ (c_X3_refutation l g L hL G46 ad (w45.1, w45.2.1, w45.2.2.1, w45.2.2.2.1, w45.2.2.2.2) hX v59 hv59) (cwV 0 hts gL_acts_X3_refutation rfl rfl rfl (by decide +kernel) ⟨Nat.le_of_ble_eq_true rfl, Nat.le_of_ble_eq_true rfl⟩) (k_preV (C := RX3) (T := TX3) (N := 3) hC hS hP (hX.m 0 (by omega)) hX.o0 rfl) rfl rfl hl.1 rfl (lv_room (Nat.le_of_ble_eq_true rfl)) dL_acts_398 ⟨Nat.zero_le _, Nat.zero_le _⟩) (fun H locs hP hS => ?_)
                    refine lv_if_lt (tgt := 408) hx hb dL_acts_401 (by decide) (fun c61 => ?_) (fun c61 => ?_)
                    · rw [if_pos c61] at hN
                      refine lv_iconst (v := 0) hx hb dL_acts_408 (by decide) ?_
                      refine lv_goto (tgt := 439) hx hb dL_acts_409 (by decide) ?_
                      obtain ⟨hE, hE2⟩ := spair hN
                      exact k_zretW hx hb hr (by decide) hE (hE2 ▸ hX) hP hS hlk dL_acts_439
                    · rw [if_neg c61] at hN
                      refine lv_iconst (v := 1) hx hb dL_acts_404 (by decide) ?_
                      refine lv_goto (tgt := 439) hx hb dL_acts_405 (by decide) ?_
                      obtain ⟨hE, hE2⟩ := spair hN
                      exact k_zretW hx hb hr (by decide) hE (hE2 ▸ hX) hP hS hlk dL_acts_439
        · rw [if_pos c8] at hN
          refine lv_iload_n hx hb dL_acts_312 rfl (lv_at hl 4 rfl) ?_
          refine lv_iconst (v := 3) hx hb dL_acts_313 (by decide) ?_
          obtain ⟨v62, hv62, hN⟩ := oB_spec hN
          refine k_iR hS (va_runS (As := [.int p1, .int (3 : Int32)]) (rest := []) ⟨hx, hb, hml, hown, hts⟩ (c_L_low l g L hL G p1 (3 : Int32) v62 hv62) (va_cwS 2 hts gL_acts_L_low rfl rfl rfl (by decide +kernel) ⟨Nat.le_of_ble_eq_true rfl, Nat.le_of_ble_eq_true rfl⟩) (k_pre hC hS hP) rfl rfl hl.1 rfl (lv_room (Nat.le_of_ble_eq_true rfl)) dL_acts_314 ⟨Nat.zero_le _, Nat.zero_le _⟩) (fun H locs hP hS => ?_)
          refine lv_if_ne (tgt := 351) hx hb dL_acts_317 (by decide) (fun c64 => ?_) (fun c64 => ?_)
          · rw [if_neg c64] at hN
            refine lv_aload_n hx hb dL_acts_351 rfl (lv_at hl 2 rfl) ?_
            refine lv_iconst (v := 4) hx hb dL_acts_352 (by decide) ?_
            obtain ⟨v65, hv65, hN⟩ := oB_spec hN
            refine k_iR hS (va_runV (As := [.int (4 : Int32)]) (rest := []) ⟨hx, hb, hml, hown, hts⟩ (c_X3_count l g L hL G ad (x.1, x.2.1, x.2.2.1, x.2.2.2.1, x.2.2.2.2) hX (4 : Int32) v65 hv65) (cwV 1 hts gL_acts_X3_count rfl rfl rfl (by decide +kernel) ⟨Nat.le_of_ble_eq_true rfl, Nat.le_of_ble_eq_true rfl⟩) (k_preV (C := RX3) (T := TX3) (N := 3) hC hS hP (hX.m 0 (by omega)) hX.o0 rfl) rfl rfl hl.1 rfl (lv_room (Nat.le_of_ble_eq_true rfl)) dL_acts_353 ⟨Nat.zero_le _, Nat.zero_le _⟩) (fun H locs hP hS => ?_)
            refine lv_istore (lv' := [(5, .int v65), (4, .int v3), (3, .int v1), (0, .ref (ad 0)), (1, .int p0), (2, .int p1)]) hx hb dL_acts_356 hl (by decide) rfl (fun ls hl => ?_)
            refine lv_iload_n hx hb dL_acts_358 rfl (lv_at hl 2 rfl) ?_
            refine lv_bipush (v := 12) hx hb dL_acts_359 (by decide) ?_
            refine lv_icmp_ge (tgt := 440) hx hb dL_acts_361 (by decide) (fun c67 => ?_) (fun c67 => ?_)
            · rw [if_pos c67] at hN
              refine lv_iload_n hx hb dL_acts_440 rfl (lv_at hl 2 rfl) ?_
              refine lv_bipush (v := 12) hx hb dL_acts_441 (by decide) ?_
              refine lv_icmp_ne (tgt := 556) hx hb dL_acts_443 (by decide) (fun c68 => ?_) (fun c68 => ?_)
              · rw [if_neg c68] at hN
                refine lv_aload_n hx hb dL_acts_556 rfl (lv_at hl 3 rfl) ?_
                refine lv_iload_n hx hb dL_acts_557 rfl (lv_at hl 5 rfl) ?_
                obtain ⟨v69, w70, hv69, hN⟩ := oB2_spec hN
                refine k_iW hS (va_runS (As := [.ref (ad 0), .int p1]) (rest := []) ⟨hx, hb, hml, hown, hts⟩ (c_L_types l g L hL G ad (x.1, x.2.1, x.2.2.1, x.2.2.2.1, x.2.2.2.2) hX p1 v69 w70 hv69) (va_cwS 2 hts gL_acts_L_types rfl rfl rfl (by decide +kernel) ⟨Nat.le_of_ble_eq_true rfl, Nat.le_of_ble_eq_true rfl⟩) (k_pre hC hS hP) rfl rfl hl.1 rfl (lv_room (Nat.le_of_ble_eq_true rfl)) dL_acts_558 ⟨Nat.zero_le _, Nat.zero_le _⟩) (fun G71 H locs hq hP hS => ?_)
                have hX := hq
                refine lv_if_eq (tgt := 575) hx hb dL_acts_561 (by decide) (fun c72 => ?_) (fun c72 => ?_)
                · rw [if_pos c72] at hN
                  refine lv_iconst (v := 0) hx hb dL_acts_575 (by decide) ?_
                  obtain ⟨hE, hE2⟩ := spair hN
                  exact k_zretW hx hb hr (by decide) hE (hE2 ▸ hX) hP hS hlk dL_acts_576
                · rw [if_neg c72] at hN
                  refine lv_aload_n hx hb dL_acts_564 rfl (lv_at hl 3 rfl) ?_
                  obtain ⟨v73, w74, hv73, hN⟩ := oB2_spec hN
                  refine k_iW hS (va_runS (As := [.ref (ad 0)]) (rest := []) ⟨hx, hb, hml, hown, hts⟩ (c_L_plays l g L hL G71 ad (w70.1, w70.2.1, w70.2.2.1, w70.2.2.2.1, w70.2.2.2.2) hX v73 w74 hv73) (va_cwS 1 hts gL_acts_L_plays rfl rfl rfl (by decide +kernel) ⟨Nat.le_of_ble_eq_true rfl, Nat.le_of_ble_eq_true rfl⟩) (k_pre hC hS hP) rfl rfl hl.1 rfl (lv_room (Nat.le_of_ble_eq_true rfl)) dL_acts_565 ⟨Nat.zero_le _, Nat.zero_le _⟩) (fun G75 H locs hq hP hS => ?_)
                  have hX := hq
                  refine lv_if_eq (tgt := 575) hx hb dL_acts_568 (by decide) (fun c76 => ?_) (fun c76 => ?_)
                  · rw [if_pos c76] at hN
                    refine lv_iconst (v := 0) hx hb dL_acts_575 (by decide) ?_
                    obtain ⟨hE, hE2⟩ := spair hN
                    exact k_zretW hx hb hr (by decide) hE (hE2 ▸ hX) hP hS hlk dL_acts_576
                  · rw [if_neg c76] at hN
                    refine lv_iconst (v := 1) hx hb dL_acts_571 (by decide) ?_
                    refine lv_goto (tgt := 576) hx hb dL_acts_572 (by decide) ?_
                    obtain ⟨hE, hE2⟩ := spair hN
                    exact k_zretW hx hb hr (by decide) hE (hE2 ▸ hX) hP hS hlk dL_acts_576
              · rw [if_pos c68] at hN
                refine lv_iload_n hx hb dL_acts_446 rfl (lv_at hl 5 rfl) ?_
                refine lv_bipush (v := 13) hx hb dL_acts_447 (by decide) ?_
                obtain ⟨v77, hv77, hN⟩ := oB_spec hN
                refine k_iR hS (va_runS (As := [.int p1, .int (13 : Int32)]) (rest := []) ⟨hx, hb, hml, hown, hts⟩ (c_L_low l g L hL G p1 (13 : Int32) v77 hv77) (va_cwS 2 hts gL_acts_L_low rfl rfl rfl (by decide +kernel) ⟨Nat.le_of_ble_eq_true rfl, Nat.le_of_ble_eq_true rfl⟩) (k_pre hC hS hP) rfl rfl hl.1 rfl (lv_room (Nat.le_of_ble_eq_true rfl)) dL_acts_449 ⟨Nat.zero_le _, Nat.zero_le _⟩) (fun H locs hP hS => ?_)
                refine lv_iconst (v := 3) hx hb dL_acts_452 (by decide) ?_
                refine lv_imul hx hb dL_acts_453 ?_
                refine lv_iload_n hx hb dL_acts_454 rfl (lv_at hl 5 rfl) ?_
                refine lv_iconst (v := 4) hx hb dL_acts_455 (by decide) ?_
                refine lv_ishr hx hb dL_acts_456 ?_
                refine lv_bipush (v := 6) hx hb dL_acts_457 (by decide) ?_
                obtain ⟨v79, hv79, hN⟩ := oB_spec hN
                refine k_iR hS (va_runS (As := [.int (p1 >>> ((4 : Int32) &&& 31)), .int (6 : Int32)]) (rest := [.int (v77 * (3 : Int32))]) ⟨hx, hb, hml, hown, hts⟩ (c_L_low l g L hL G (p1 >>> ((4 : Int32) &&& 31)) (6 : Int32) v79 hv79) (va_cwS 2 hts gL_acts_L_low rfl rfl rfl (by decide +kernel) ⟨Nat.le_of_ble_eq_true rfl, Nat.le_of_ble_eq_true rfl⟩) (k_pre hC hS hP) rfl rfl hl.1 rfl (lv_room (Nat.le_of_ble_eq_true rfl)) dL_acts_459 ⟨Nat.zero_le _, Nat.zero_le _⟩) (fun H locs hP hS => ?_)
                refine lv_iadd hx hb dL_acts_462 ?_
                refine lv_istore (lv' := [(6, .int ((v77 * (3 : Int32)) + v79)), (5, .int v65), (4, .int v3), (3, .int v1), (0, .ref (ad 0)), (1, .int p0), (2, .int p1)]) hx hb dL_acts_463 hl (by decide) rfl (fun ls hl => ?_)
                refine lv_aload_n hx hb dL_acts_465 rfl (lv_at hl 4 rfl) ?_
                refine lv_iload hx hb dL_acts_466 (lv_at hl 0 rfl) ?_
                obtain ⟨v81, w82, hv81, hN⟩ := oB2_spec hN
                refine k_iW hS (va_runV (As := [.int ((v77 * (3 : Int32)) + v79)]) (rest := []) ⟨hx, hb, hml, hown, hts⟩ (c_X3_run l g L hL G ad (x.1, x.2.1, x.2.2.1, x.2.2.2.1, x.2.2.2.2) hX ((v77 * (3 : Int32)) + v79) v81 w82 hv81) (cwV 1 hts gL_acts_X3_run rfl rfl rfl (by decide +kernel) ⟨Nat.le_of_ble_eq_true rfl, Nat.le_of_ble_eq_true rfl⟩) (k_preV (C := RX3) (T := TX3) (N := 3) hC hS hP (hX.m 0 (by omega)) hX.o0 rfl) rfl rfl hl.1 rfl (lv_room (Nat.le_of_ble_eq_true rfl)) dL_acts_468 ⟨Nat.zero_le _, Nat.zero_le _⟩) (fun G83 H locs hq hP hS => ?_)
                have hX := hq
                refine lv_istore (lv' := [(7, .int v81), (6, .int ((v77 * (3 : Int32)) + v79)), (5, .int v65), (4, .int v3), (3, .int v1), (0, .ref (ad 0)), (1, .int p0), (2, .int p1)]) hx hb dL_acts_471 hl (by decide) rfl (fun ls hl => ?_)
                refine lv_iload hx hb dL_acts_473 (lv_at hl 1 rfl) ?_
                refine lv_iconst (v := 1) hx hb dL_acts_475 (by decide) ?_
                refine lv_icmp_lt (tgt := 486) hx hb dL_acts_476 (by decide) (fun c84 => ?_) (fun c84 => ?_)
                · rw [if_pos c84] at hN
                  refine lv_iload hx hb dL_acts_486 (lv_at hl 0 rfl) ?_
                  refine lv_ldc (v := (-1000001)) hx hb hown (hts (.constant RL 72 (-1000001)) (List.mem_of_getElem? (i := 1) rfl)) dL_acts_488 ?_
                  refine lv_icmp_ne (tgt := 497) hx hb dL_acts_490 (by decide) (fun c85 => ?_) (fun c85 => ?_)
                  · rw [if_neg c85] at hN
                    refine lv_iconst (v := 0) hx hb dL_acts_497 (by decide) ?_
                    refine lv_goto (tgt := 555) hx hb dL_acts_498 (by decide) ?_
                    obtain ⟨hE, hE2⟩ := spair hN
                    exact k_zretW hx hb hr (by decide) hE (hE2 ▸ hX) hP hS hlk dL_acts_555
                  · rw [if_pos c85] at hN
                    refine lv_iconst (v := 1) hx hb dL_acts_493 (by decide) ?_
                    refine lv_goto (tgt := 555) hx hb dL_acts_494 (by decide) ?_
                    obtain ⟨hE, hE2⟩ := spair hN
                    exact k_zretW hx hb hr (by decide) hE (hE2 ▸ hX) hP hS hlk dL_acts_555
                · rw [if_neg c84] at hN
                  refine lv_iload hx hb dL_acts_479 (lv_at hl 1 rfl) ?_
                  refine lv_bipush (v := 40) hx hb dL_acts_481 (by decide) ?_
                  refine lv_icmp_le (tgt := 501) hx hb dL_acts_483 (by decide) (fun c86 => ?_) (fun c86 => ?_)
                  · rw [if_pos c86] at hN
                    refine lv_iload hx hb dL_acts_501 (lv_at hl 0 rfl) ?_
                    refine lv_ldc (v := (-1000003)) hx hb hown (hts (.constant RL 67 (-1000003)) (List.mem_of_getElem? (i := 3) rfl)) dL_acts_503 ?_
                    refine lv_icmp_eq (tgt := 550) hx hb dL_acts_505 (by decide) (fun c87 => ?_) (fun c87 => ?_)
                    · rw [if_pos c87] at hN
                      refine lv_iconst (v := 1) hx hb dL_acts_550 (by decide) ?_
                      refine lv_goto (tgt := 555) hx hb dL_acts_551 (by decide) ?_
                      obtain ⟨hE, hE2⟩ := spair hN
                      exact k_zretW hx hb hr (by decide) hE (hE2 ▸ hX) hP hS hlk dL_acts_555
                    · rw [if_neg c87] at hN
                      refine lv_iload hx hb dL_acts_508 (lv_at hl 0 rfl) ?_
                      refine lv_iload hx hb dL_acts_510 (lv_at hl 1 rfl) ?_
                      refine lv_icmp_gt (tgt := 554) hx hb dL_acts_512 (by decide) (fun c88 => ?_) (fun c88 => ?_)
                      · rw [if_pos c88] at hN
                        refine lv_iconst (v := 0) hx hb dL_acts_554 (by decide) ?_
                        obtain ⟨hE, hE2⟩ := spair hN
                        exact k_zretW hx hb hr (by decide) hE (hE2 ▸ hX) hP hS hlk dL_acts_555
                      · rw [if_neg c88] at hN
                        refine lv_aload_n hx hb dL_acts_515 rfl (lv_at hl 5 rfl) ?_
                        refine lv_iconst (v := 4) hx hb dL_acts_516 (by decide) ?_
                        obtain ⟨v89, hv89, hN⟩ := oB_spec hN
                        refine k_iR hS (va_runV (As := [.int (4 : Int32)]) (rest := []) ⟨hx, hb, hml, hown, hts⟩ (c_X3_count l g L hL G83 ad (w82.1, w82.2.1, w82.2.2.1, w82.2.2.2.1, w82.2.2.2.2) hX (4 : Int32) v89 hv89) (cwV 1 hts gL_acts_X3_count rfl rfl rfl (by decide +kernel) ⟨Nat.le_of_ble_eq_true rfl, Nat.le_of_ble_eq_true rfl⟩) (k_preV (C := RX3) (T := TX3) (N := 3) hC hS hP (hX.m 0 (by omega)) hX.o0 rfl) rfl rfl hl.1 rfl (lv_room (Nat.le_of_ble_eq_true rfl)) dL_acts_517 ⟨Nat.zero_le _, Nat.zero_le _⟩) (fun H locs hP hS => ?_)
                        refine lv_iload hx hb dL_acts_520 (lv_at hl 2 rfl) ?_
                        refine lv_iload hx hb dL_acts_522 (lv_at hl 0 rfl) ?_
                        refine lv_iadd hx hb dL_acts_524 ?_
                        refine lv_icmp_ne (tgt := 554) hx hb dL_acts_525 (by decide) (fun c91 => ?_) (fun c91 => ?_)
                        · rw [if_neg c91] at hN
                          refine lv_iconst (v := 0) hx hb dL_acts_554 (by decide) ?_
                          obtain ⟨hE, hE2⟩ := spair hN
                          exact k_zretW hx hb hr (by decide) hE (hE2 ▸ hX) hP hS hlk dL_acts_555
                        · rw [if_pos c91] at hN
                          refine lv_iload hx hb dL_acts_528 (lv_at hl 0 rfl) ?_
                          refine lv_iload hx hb dL_acts_530 (lv_at hl 1 rfl) ?_
                          refine lv_icmp_eq (tgt := 550) hx hb dL_acts_532 (by decide) (fun c92 => ?_) (fun c92 => ?_)
                          · rw [if_pos c92] at hN
                            refine lv_iconst (v := 1) hx hb dL_acts_550 (by decide) ?_
                            refine lv_goto (tgt := 555) hx hb dL_acts_551 (by decide) ?_
                            obtain ⟨hE, hE2⟩ := spair hN
                            exact k_zretW hx hb hr (by decide) hE (hE2 ▸ hX) hP hS hlk dL_acts_555
                          · rw [if_neg c92] at hN
                            refine lv_aload_n hx hb dL_acts_535 rfl (lv_at hl 5 rfl) ?_
                            refine lv_iconst (v := 1) hx hb dL_acts_536 (by decide) ?_
                            obtain ⟨v93, hv93, hN⟩ := oB_spec hN
                            refine k_iR hS (va_runV (As := [.int (1 : Int32)]) (rest := []) ⟨hx, hb, hml, hown, hts⟩ (c_X3_count l g L hL G83 ad (w82.1, w82.2.1, w82.2.2.1, w82.2.2.2.1, w82.2.2.2.2) hX (1 : Int32) v93 hv93) (cwV 1 hts gL_acts_X3_count rfl rfl rfl (by decide +kernel) ⟨Nat.le_of_ble_eq_true rfl, Nat.le_of_ble_eq_true rfl⟩) (k_preV (C := RX3) (T := TX3) (N := 3) hC hS hP (hX.m 0 (by omega)) hX.o0 rfl) rfl rfl hl.1 rfl (lv_room (Nat.le_of_ble_eq_true rfl)) dL_acts_537 ⟨Nat.zero_le _, Nat.zero_le _⟩) (fun H locs hP hS => ?_)
                            refine lv_if_eq (tgt := 550) hx hb dL_acts_540 (by decide) (fun c95 => ?_) (fun c95 => ?_)
                            · rw [if_pos c95] at hN
                              refine lv_iconst (v := 1) hx hb dL_acts_550 (by decide) ?_
                              refine lv_goto (tgt := 555) hx hb dL_acts_551 (by decide) ?_
                              obtain ⟨hE, hE2⟩ := spair hN
                              exact k_zretW hx hb hr (by decide) hE (hE2 ▸ hX) hP hS hlk dL_acts_555
                            · rw [if_neg c95] at hN
                              refine lv_aload_n hx hb dL_acts_543 rfl (lv_at hl 5 rfl) ?_
                              obtain ⟨v96, hv96, hN⟩ := oB_spec hN
                              refine k_iR hS (va_runV (As := []) (rest := []) ⟨hx, hb, hml, hown, hts⟩ (c_X3_refutation l g L hL G83 ad (w82.1, w82.2.1, w82.2.2.1, w82.2.2.2.1, w82.2.2.2.2) hX v96 hv96) (cwV 0 hts gL_acts_X3_refutation rfl rfl rfl (by decide +kernel) ⟨Nat.le_of_ble_eq_true rfl, Nat.le_of_ble_eq_true rfl⟩) (k_preV (C := RX3) (T := TX3) (N := 3) hC hS hP (hX.m 0 (by omega)) hX.o0 rfl) rfl rfl hl.1 rfl (lv_room (Nat.le_of_ble_eq_true rfl)) dL_acts_544 ⟨Nat.zero_le _, Nat.zero_le _⟩) (fun H locs hP hS => ?_)
                              refine lv_if_lt (tgt := 554) hx hb dL_acts_547 (by decide) (fun c98 => ?_) (fun c98 => ?_)
                              · rw [if_pos c98] at hN
                                refine lv_iconst (v := 0) hx hb dL_acts_554 (by decide) ?_
                                obtain ⟨hE, hE2⟩ := spair hN
                                exact k_zretW hx hb hr (by decide) hE (hE2 ▸ hX) hP hS hlk dL_acts_555
                              · rw [if_neg c98] at hN
                                refine lv_iconst (v := 1) hx hb dL_acts_550 (by decide) ?_
                                refine lv_goto (tgt := 555) hx hb dL_acts_551 (by decide) ?_
                                obtain ⟨hE, hE2⟩ := spair hN
                                exact k_zretW hx hb hr (by decide) hE (hE2 ▸ hX) hP hS hlk dL_acts_555
                  · rw [if_neg c86] at hN
                    refine lv_iload hx hb dL_acts_486 (lv_at hl 0 rfl) ?_
                    refine lv_ldc (v := (-1000001)) hx hb hown (hts (.constant RL 72 (-1000001)) (List.mem_of_getElem? (i := 1) rfl)) dL_acts_488 ?_
                    refine lv_icmp_ne (tgt := 497) hx hb dL_acts_490 (by decide) (fun c99 => ?_) (fun c99 => ?_)
                    · rw [if_neg c99] at hN
                      refine lv_iconst (v := 0) hx hb dL_acts_497 (by decide) ?_
                      refine lv_goto (tgt := 555) hx hb dL_acts_498 (by decide) ?_
                      obtain ⟨hE, hE2⟩ := spair hN
                      exact k_zretW hx hb hr (by decide) hE (hE2 ▸ hX) hP hS hlk dL_acts_555
                    · rw [if_pos c99] at hN
                      refine lv_iconst (v := 1) hx hb dL_acts_493 (by decide) ?_
                      refine lv_goto (tgt := 555) hx hb dL_acts_494 (by decide) ?_
                      obtain ⟨hE, hE2⟩ := spair hN
                      exact k_zretW hx hb hr (by decide) hE (hE2 ▸ hX) hP hS hlk dL_acts_555
            · rw [if_neg c67] at hN
              refine lv_aload_n hx hb dL_acts_364 rfl (lv_at hl 3 rfl) ?_
              obtain ⟨v100, w101, hv100, hN⟩ := oB2_spec hN
              refine k_iW hS (va_runV (As := []) (rest := []) ⟨hx, hb, hml, hown, hts⟩ (c_X3_step l g L hL G ad (x.1, x.2.1, x.2.2.1, x.2.2.2.1, x.2.2.2.2) hX v100 w101 hv100) (cwV 0 hts gL_acts_X3_step rfl rfl rfl (by decide +kernel) ⟨Nat.le_of_ble_eq_true rfl, Nat.le_of_ble_eq_true rfl⟩) (k_preV (C := RX3) (T := TX3) (N := 3) hC hS hP (hX.m 0 (by omega)) hX.o0 rfl) rfl rfl hl.1 rfl (lv_room (Nat.le_of_ble_eq_true rfl)) dL_acts_365 ⟨Nat.zero_le _, Nat.zero_le _⟩) (fun G102 H locs hq hP hS => ?_)
              have hX := hq
              refine lv_istore (lv' := [(6, .int v100), (5, .int v65), (4, .int v3), (3, .int v1), (0, .ref (ad 0)), (1, .int p0), (2, .int p1)]) hx hb dL_acts_368 hl (by decide) rfl (fun ls hl => ?_)
              refine lv_iload hx hb dL_acts_370 (lv_at hl 0 rfl) ?_
              refine lv_if_ge (tgt := 412) hx hb dL_acts_372 (by decide) (fun c103 => ?_) (fun c103 => ?_)
              · rw [if_pos c103] at hN
                refine lv_aload_n hx hb dL_acts_412 rfl (lv_at hl 4 rfl) ?_
                refine lv_iload hx hb dL_acts_413 (lv_at hl 0 rfl) ?_
                refine lv_iconst (v := 1) hx hb dL_acts_415 (by decide) ?_
                obtain ⟨v104, hv104, hN⟩ := oB_spec hN
                refine k_iR hS (va_runV (As := [.int v100, .int (1 : Int32)]) (rest := []) ⟨hx, hb, hml, hown, hts⟩ (c_X3_clauseOf l g L hL G102 ad (w101.1, w101.2.1, w101.2.2.1, w101.2.2.2.1, w101.2.2.2.2) hX v100 (1 : Int32) v104 hv104) (cwV 2 hts gL_acts_X3_clauseOf rfl rfl rfl (by decide +kernel) ⟨Nat.le_of_ble_eq_true rfl, Nat.le_of_ble_eq_true rfl⟩) (k_preV (C := RX3) (T := TX3) (N := 3) hC hS hP (hX.m 0 (by omega)) hX.o0 rfl) rfl rfl hl.1 rfl (lv_room (Nat.le_of_ble_eq_true rfl)) dL_acts_416 ⟨Nat.zero_le _, Nat.zero_le _⟩) (fun H locs hP hS => ?_)
                refine lv_if_le (tgt := 438) hx hb dL_acts_419 (by decide) (fun c106 => ?_) (fun c106 => ?_)
                · rw [if_pos c106] at hN
                  refine lv_iconst (v := 0) hx hb dL_acts_438 (by decide) ?_
                  obtain ⟨hE, hE2⟩ := spair hN
                  exact k_zretW hx hb hr (by decide) hE (hE2 ▸ hX) hP hS hlk dL_acts_439
                · rw [if_neg c106] at hN
                  refine lv_aload_n hx hb dL_acts_422 rfl (lv_at hl 4 rfl) ?_
                  refine lv_iconst (v := 4) hx hb dL_acts_423 (by decide) ?_
                  obtain ⟨v107, hv107, hN⟩ := oB_spec hN
                  refine k_iR hS (va_runV (As := [.int (4 : Int32)]) (rest := []) ⟨hx, hb, hml, hown, hts⟩ (c_X3_count l g L hL G102 ad (w101.1, w101.2.1, w101.2.2.1, w101.2.2.2.1, w101.2.2.2.2) hX (4 : Int32) v107 hv107) (cwV 1 hts gL_acts_X3_count rfl rfl rfl (by decide +kernel) ⟨Nat.le_of_ble_eq_true rfl, Nat.le_of_ble_eq_true rfl⟩) (k_preV (C := RX3) (T := TX3) (N := 3) hC hS hP (hX.m 0 (by omega)) hX.o0 rfl) rfl rfl hl.1 rfl (lv_room (Nat.le_of_ble_eq_true rfl)) dL_acts_424 ⟨Nat.zero_le _, Nat.zero_le _⟩) (fun H locs hP hS => ?_)
                  refine lv_iload hx hb dL_acts_427 (lv_at hl 1 rfl) ?_
                  refine lv_iconst (v := 1) hx hb dL_acts_429 (by decide) ?_
                  refine lv_iadd hx hb dL_acts_430 ?_
                  refine lv_icmp_ne (tgt := 438) hx hb dL_acts_431 (by decide) (fun c109 => ?_) (fun c109 => ?_)
                  · rw [if_neg c109] at hN
                    refine lv_iconst (v := 0) hx hb dL_acts_438 (by decide) ?_
                    obtain ⟨hE, hE2⟩ := spair hN
                    exact k_zretW hx hb hr (by decide) hE (hE2 ▸ hX) hP hS hlk dL_acts_439
                  · rw [if_pos c109] at hN
                    refine lv_iconst (v := 1) hx hb dL_acts_434 (by decide) ?_
                    refine lv_goto (tgt := 439) hx hb dL_acts_435 (by decide) ?_
                    obtain ⟨hE, hE2⟩ := spair hN
                    exact k_zretW hx hb hr (by decide) hE (hE2 ▸ hX) hP hS hlk dL_acts_439
              · rw [if_neg c103] at hN
                refine lv_iload hx hb dL_acts_375 (lv_at hl 0 rfl) ?_
                refine lv_ldc (v := (-1000003)) hx hb hown (hts (.constant RL 67 (-1000003)) (List.mem_of_getElem? (i := 3) rfl)) dL_acts_377 ?_
                refine lv_icmp_eq (tgt := 404) hx hb dL_acts_379 (by decide) (fun c110 => ?_) (fun c110 => ?_)
                · rw [if_pos c110] at hN
                  refine lv_iconst (v := 1) hx hb dL_acts_404 (by decide) ?_
                  refine lv_goto (tgt := 439) hx hb dL_acts_405 (by decide) ?_
                  obtain ⟨hE, hE2⟩ := spair hN
                  exact k_zretW hx hb hr (by decide) hE (hE2 ▸ hX) hP hS hlk dL_acts_439
                · rw [if_neg c110] at hN
                  refine lv_iload hx hb dL_acts_382 (lv_at hl 0 rfl) ?_
                  refine lv_ldc (v := (-1000002)) hx hb hown (hts (.constant RL 68 (-1000002)) (List.mem_of_getElem? (i := 4) rfl)) dL_acts_384 ?_
                  refine lv_icmp_ne (tgt := 408) hx hb dL_acts_386 (by decide) (fun c111 => ?_) (fun c111 => ?_)
                  · rw [if_neg c111] at hN
                    refine lv_iconst (v := 0) hx hb dL_acts_408 (by decide) ?_
                    refine lv_goto (tgt := 439) hx hb dL_acts_409 (by decide) ?_
                    obtain ⟨hE, hE2⟩ := spair hN
                    exact k_zretW hx hb hr (by decide) hE (hE2 ▸ hX) hP hS hlk dL_acts_439
                  · rw [if_pos c111] at hN
                    refine lv_aload_n hx hb dL_acts_389 rfl (lv_at hl 4 rfl) ?_
                    refine lv_iconst (v := 1) hx hb dL_acts_390 (by decide) ?_
                    obtain ⟨v112, hv112, hN⟩ := oB_spec hN
                    refine k_iR hS (va_runV (As := [.int (1 : Int32)]) (rest := []) ⟨hx, hb, hml, hown, hts⟩ (c_X3_count l g L hL G102 ad (w101.1, w101.2.1, w101.2.2.1, w101.2.2.2.1, w101.2.2.2.2) hX (1 : Int32) v112 hv112) (cwV 1 hts gL_acts_X3_count rfl rfl rfl (by decide +kernel) ⟨Nat.le_of_ble_eq_true rfl, Nat.le_of_ble_eq_true rfl⟩) (k_preV (C := RX3) (T := TX3) (N := 3) hC hS hP (hX.m 0 (by omega)) hX.o0 rfl) rfl rfl hl.1 rfl (lv_room (Nat.le_of_ble_eq_true rfl)) dL_acts_391 ⟨Nat.zero_le _, Nat.zero_le _⟩) (fun H locs hP hS => ?_)
                    refine lv_if_eq (tgt := 404) hx hb dL_acts_394 (by decide) (fun c114 => ?_) (fun c114 => ?_)
                    · rw [if_pos c114] at hN
                      refine lv_iconst (v := 1) hx hb dL_acts_404 (by decide) ?_
                      refine lv_goto (tgt := 439) hx hb dL_acts_405 (by decide) ?_
                      obtain ⟨hE, hE2⟩ := spair hN
                      exact k_zretW hx hb hr (by decide) hE (hE2 ▸ hX) hP hS hlk dL_acts_439
                    · rw [if_neg c114] at hN
                      refine lv_aload_n hx hb dL_acts_397 rfl (lv_at hl 4 rfl) ?_
                      obtain ⟨v115, hv115, hN⟩ := oB_spec hN
                      refine k_iR hS (va_runV (As := []) (rest := []) ⟨hx, hb, hml, hown, hts⟩ (c_X3_refutation l g L hL G102 ad (w101.1, w101.2.1, w101.2.2.1, w101.2.2.2.1, w101.2.2.2.2) hX v115 hv115) (cwV 0 hts gL_acts_X3_refutation rfl rfl rfl (by decide +kernel) ⟨Nat.le_of_ble_eq_true rfl, Nat.le_of_ble_eq_true rfl⟩) (k_preV (C := RX3) (T := TX3) (N := 3) hC hS hP (hX.m 0 (by omega)) hX.o0 rfl) rfl rfl hl.1 rfl (lv_room (Nat.le_of_ble_eq_true rfl)) dL_acts_398 ⟨Nat.zero_le _, Nat.zero_le _⟩) (fun H locs hP hS => ?_)
                      refine lv_if_lt (tgt := 408) hx hb dL_acts_401 (by decide) (fun c117 => ?_) (fun c117 => ?_)
                      · rw [if_pos c117] at hN
                        refine lv_iconst (v := 0) hx hb dL_acts_408 (by decide) ?_
                        refine lv_goto (tgt := 439) hx hb dL_acts_409 (by decide) ?_
                        obtain ⟨hE, hE2⟩ := spair hN
                        exact k_zretW hx hb hr (by decide) hE (hE2 ▸ hX) hP hS hlk dL_acts_439
                      · rw [if_neg c117] at hN
                        refine lv_iconst (v := 1) hx hb dL_acts_404 (by decide) ?_
                        refine lv_goto (tgt := 439) hx hb dL_acts_405 (by decide) ?_
                        obtain ⟨hE, hE2⟩ := spair hN
                        exact k_zretW hx hb hr (by decide) hE (hE2 ▸ hX) hP hS hlk dL_acts_439
          · rw [if_pos c64] at hN
            refine lv_aload_n hx hb dL_acts_320 rfl (lv_at hl 2 rfl) ?_
            obtain ⟨v118, w119, hv118, hN⟩ := oB2_spec hN
            refine k_iW hS (va_runV (As := []) (rest := []) ⟨hx, hb, hml, hown, hts⟩ (c_X3_empty l g L hL G ad (x.1, x.2.1, x.2.2.1, x.2.2.2.1, x.2.2.2.2) hX v118 w119 hv118) (cwV 0 hts gL_acts_X3_empty rfl rfl rfl (by decide +kernel) ⟨Nat.le_of_ble_eq_true rfl, Nat.le_of_ble_eq_true rfl⟩) (k_preV (C := RX3) (T := TX3) (N := 3) hC hS hP (hX.m 0 (by omega)) hX.o0 rfl) rfl rfl hl.1 rfl (lv_room (Nat.le_of_ble_eq_true rfl)) dL_acts_321 ⟨Nat.zero_le _, Nat.zero_le _⟩) (fun G120 H locs hq hP hS => ?_)
            have hX := hq
            refine lv_iload hx hb dL_acts_324 (lv_at hl 0 rfl) ?_
            refine lv_icmp_ne (tgt := 349) hx hb dL_acts_326 (by decide) (fun c121 => ?_) (fun c121 => ?_)
            · rw [if_neg c121] at hN
              refine lv_iconst (v := 0) hx hb dL_acts_349 (by decide) ?_
              obtain ⟨hE, hE2⟩ := spair hN
              exact k_zretW hx hb hr (by decide) hE (hE2 ▸ hX) hP hS hlk dL_acts_350
            · rw [if_pos c121] at hN
              refine lv_aload_n hx hb dL_acts_329 rfl (lv_at hl 2 rfl) ?_
              refine lv_iconst (v := 0) hx hb dL_acts_330 (by decide) ?_
              obtain ⟨v122, hv122, hN⟩ := oB_spec hN
              refine k_iR hS (va_runV (As := [.int (0 : Int32)]) (rest := []) ⟨hx, hb, hml, hown, hts⟩ (c_X3_count l g L hL G120 ad (w119.1, w119.2.1, w119.2.2.1, w119.2.2.2.1, w119.2.2.2.2) hX (0 : Int32) v122 hv122) (cwV 1 hts gL_acts_X3_count rfl rfl rfl (by decide +kernel) ⟨Nat.le_of_ble_eq_true rfl, Nat.le_of_ble_eq_true rfl⟩) (k_preV (C := RX3) (T := TX3) (N := 3) hC hS hP (hX.m 0 (by omega)) hX.o0 rfl) rfl rfl hl.1 rfl (lv_room (Nat.le_of_ble_eq_true rfl)) dL_acts_331 ⟨Nat.zero_le _, Nat.zero_le _⟩) (fun H locs hP hS => ?_)
              refine lv_if_ne (tgt := 349) hx hb dL_acts_334 (by decide) (fun c124 => ?_) (fun c124 => ?_)
              · rw [if_neg c124] at hN
                refine lv_iconst (v := 0) hx hb dL_acts_349 (by decide) ?_
                obtain ⟨hE, hE2⟩ := spair hN
                exact k_zretW hx hb hr (by decide) hE (hE2 ▸ hX) hP hS hlk dL_acts_350
              · rw [if_pos c124] at hN
                refine lv_aload_n hx hb dL_acts_337 rfl (lv_at hl 2 rfl) ?_
                refine lv_iconst (v := 4) hx hb dL_acts_338 (by decide) ?_
                obtain ⟨v125, hv125, hN⟩ := oB_spec hN
                refine k_iR hS (va_runV (As := [.int (4 : Int32)]) (rest := []) ⟨hx, hb, hml, hown, hts⟩ (c_X3_count l g L hL G120 ad (w119.1, w119.2.1, w119.2.2.1, w119.2.2.2.1, w119.2.2.2.2) hX (4 : Int32) v125 hv125) (cwV 1 hts gL_acts_X3_count rfl rfl rfl (by decide +kernel) ⟨Nat.le_of_ble_eq_true rfl, Nat.le_of_ble_eq_true rfl⟩) (k_preV (C := RX3) (T := TX3) (N := 3) hC hS hP (hX.m 0 (by omega)) hX.o0 rfl) rfl rfl hl.1 rfl (lv_room (Nat.le_of_ble_eq_true rfl)) dL_acts_339 ⟨Nat.zero_le _, Nat.zero_le _⟩) (fun H locs hP hS => ?_)
                refine lv_if_ne (tgt := 349) hx hb dL_acts_342 (by decide) (fun c127 => ?_) (fun c127 => ?_)
                · rw [if_neg c127] at hN
                  refine lv_iconst (v := 0) hx hb dL_acts_349 (by decide) ?_
                  obtain ⟨hE, hE2⟩ := spair hN
                  exact k_zretW hx hb hr (by decide) hE (hE2 ▸ hX) hP hS hlk dL_acts_350
                · rw [if_pos c127] at hN
                  refine lv_iconst (v := 1) hx hb dL_acts_345 (by decide) ?_
                  refine lv_goto (tgt := 350) hx hb dL_acts_346 (by decide) ?_
                  obtain ⟨hE, hE2⟩ := spair hN
                  exact k_zretW hx hb hr (by decide) hE (hE2 ▸ hX) hP hS hlk dL_acts_350
      · rw [if_pos c7] at hN
        refine lv_iload_n hx hb dL_acts_257 rfl (lv_at hl 4 rfl) ?_
        refine lv_bipush (v := 11) hx hb dL_acts_258 (by decide) ?_
        obtain ⟨v128, hv128, hN⟩ := oB_spec hN
        refine k_iR hS (va_runS (As := [.int p1, .int (11 : Int32)]) (rest := []) ⟨hx, hb, hml, hown, hts⟩ (c_L_low l g L hL G p1 (11 : Int32) v128 hv128) (va_cwS 2 hts gL_acts_L_low rfl rfl rfl (by decide +kernel) ⟨Nat.le_of_ble_eq_true rfl, Nat.le_of_ble_eq_true rfl⟩) (k_pre hC hS hP) rfl rfl hl.1 rfl (lv_room (Nat.le_of_ble_eq_true rfl)) dL_acts_260 ⟨Nat.zero_le _, Nat.zero_le _⟩) (fun H locs hP hS => ?_)
        refine lv_istore (lv' := [(5, .int v128), (4, .int v3), (3, .int v1), (0, .ref (ad 0)), (1, .int p0), (2, .int p1)]) hx hb dL_acts_263 hl (by decide) rfl (fun ls hl => ?_)
        refine lv_aload_n hx hb dL_acts_265 rfl (lv_at hl 3 rfl) ?_
        refine lv_iconst (v := 5) hx hb dL_acts_266 (by decide) ?_
        obtain ⟨v130, hv130, hN⟩ := oB_spec hN
        refine k_iR hS (va_runV (As := [.int (5 : Int32)]) (rest := []) ⟨hx, hb, hml, hown, hts⟩ (c_X3_count l g L hL G ad (x.1, x.2.1, x.2.2.1, x.2.2.2.1, x.2.2.2.2) hX (5 : Int32) v130 hv130) (cwV 1 hts gL_acts_X3_count rfl rfl rfl (by decide +kernel) ⟨Nat.le_of_ble_eq_true rfl, Nat.le_of_ble_eq_true rfl⟩) (k_preV (C := RX3) (T := TX3) (N := 3) hC hS hP (hX.m 0 (by omega)) hX.o0 rfl) rfl rfl hl.1 rfl (lv_room (Nat.le_of_ble_eq_true rfl)) dL_acts_267 ⟨Nat.zero_le _, Nat.zero_le _⟩) (fun H locs hP hS => ?_)
        refine lv_istore (lv' := [(6, .int v130), (5, .int v128), (4, .int v3), (3, .int v1), (0, .ref (ad 0)), (1, .int p0), (2, .int p1)]) hx hb dL_acts_270 hl (by decide) rfl (fun ls hl => ?_)
        refine lv_aload_n hx hb dL_acts_272 rfl (lv_at hl 4 rfl) ?_
        refine lv_iload hx hb dL_acts_273 (lv_at hl 1 rfl) ?_
        obtain ⟨v132, w133, hv132, hN⟩ := oB2_spec hN
        refine k_iW hS (va_runV (As := [.int v128]) (rest := []) ⟨hx, hb, hml, hown, hts⟩ (c_X3_set l g L hL G ad (x.1, x.2.1, x.2.2.1, x.2.2.2.1, x.2.2.2.2) hX v128 v132 w133 hv132) (cwV 1 hts gL_acts_X3_set rfl rfl rfl (by decide +kernel) ⟨Nat.le_of_ble_eq_true rfl, Nat.le_of_ble_eq_true rfl⟩) (k_preV (C := RX3) (T := TX3) (N := 3) hC hS hP (hX.m 0 (by omega)) hX.o0 rfl) rfl rfl hl.1 rfl (lv_room (Nat.le_of_ble_eq_true rfl)) dL_acts_275 ⟨Nat.zero_le _, Nat.zero_le _⟩) (fun G134 H locs hq hP hS => ?_)
        have hX := hq
        refine lv_iload hx hb dL_acts_278 (lv_at hl 1 rfl) ?_
        refine lv_if_eq (tgt := 290) hx hb dL_acts_280 (by decide) (fun c135 => ?_) (fun c135 => ?_)
        · rw [if_pos c135] at hN
          refine lv_ldc (v := (-1000001)) hx hb hown (hts (.constant RL 72 (-1000001)) (List.mem_of_getElem? (i := 1) rfl)) dL_acts_290 ?_
          refine lv_goto (tgt := 297) hx hb dL_acts_292 (by decide) ?_
          refine lv_icmp_ne (tgt := 304) hx hb dL_acts_297 (by decide) (fun c136 => ?_) (fun c136 => ?_)
          · rw [if_neg c136] at hN
            refine lv_iconst (v := 0) hx hb dL_acts_304 (by decide) ?_
            obtain ⟨hE, hE2⟩ := spair hN
            exact k_zretW hx hb hr (by decide) hE (hE2 ▸ hX) hP hS hlk dL_acts_305
          · rw [if_pos c136] at hN
            refine lv_iconst (v := 1) hx hb dL_acts_300 (by decide) ?_
            refine lv_goto (tgt := 305) hx hb dL_acts_301 (by decide) ?_
            obtain ⟨hE, hE2⟩ := spair hN
            exact k_zretW hx hb hr (by decide) hE (hE2 ▸ hX) hP hS hlk dL_acts_305
        · rw [if_neg c135] at hN
          refine lv_iload hx hb dL_acts_283 (lv_at hl 1 rfl) ?_
          refine lv_bipush (v := 10) hx hb dL_acts_285 (by decide) ?_
          refine lv_icmp_ne (tgt := 295) hx hb dL_acts_287 (by decide) (fun c137 => ?_) (fun c137 => ?_)
          · rw [if_neg c137] at hN
            refine lv_iload hx hb dL_acts_295 (lv_at hl 0 rfl) ?_
            refine lv_icmp_ne (tgt := 304) hx hb dL_acts_297 (by decide) (fun c138 => ?_) (fun c138 => ?_)
            · rw [if_neg c138] at hN
              refine lv_iconst (v := 0) hx hb dL_acts_304 (by decide) ?_
              obtain ⟨hE, hE2⟩ := spair hN
              exact k_zretW hx hb hr (by decide) hE (hE2 ▸ hX) hP hS hlk dL_acts_305
            · rw [if_pos c138] at hN
              refine lv_iconst (v := 1) hx hb dL_acts_300 (by decide) ?_
              refine lv_goto (tgt := 305) hx hb dL_acts_301 (by decide) ?_
              obtain ⟨hE, hE2⟩ := spair hN
              exact k_zretW hx hb hr (by decide) hE (hE2 ▸ hX) hP hS hlk dL_acts_305
          · rw [if_pos c137] at hN
            refine lv_ldc (v := (-1000001)) hx hb hown (hts (.constant RL 72 (-1000001)) (List.mem_of_getElem? (i := 1) rfl)) dL_acts_290 ?_
            refine lv_goto (tgt := 297) hx hb dL_acts_292 (by decide) ?_
            refine lv_icmp_ne (tgt := 304) hx hb dL_acts_297 (by decide) (fun c139 => ?_) (fun c139 => ?_)
            · rw [if_neg c139] at hN
              refine lv_iconst (v := 0) hx hb dL_acts_304 (by decide) ?_
              obtain ⟨hE, hE2⟩ := spair hN
              exact k_zretW hx hb hr (by decide) hE (hE2 ▸ hX) hP hS hlk dL_acts_305
            · rw [if_pos c139] at hN
              refine lv_iconst (v := 1) hx hb dL_acts_300 (by decide) ?_
              refine lv_goto (tgt := 305) hx hb dL_acts_301 (by decide) ?_
              obtain ⟨hE, hE2⟩ := spair hN
              exact k_zretW hx hb hr (by decide) hE (hE2 ▸ hX) hP hS hlk dL_acts_305
    · rw [if_pos c6] at hN
      refine lv_iload_n hx hb dL_acts_173 rfl (lv_at hl 4 rfl) ?_
      refine lv_bipush (v := 7) hx hb dL_acts_174 (by decide) ?_
      obtain ⟨v140, hv140, hN⟩ := oB_spec hN
      refine k_iR hS (va_runS (As := [.int p1, .int (7 : Int32)]) (rest := []) ⟨hx, hb, hml, hown, hts⟩ (c_L_low l g L hL G p1 (7 : Int32) v140 hv140) (va_cwS 2 hts gL_acts_L_low rfl rfl rfl (by decide +kernel) ⟨Nat.le_of_ble_eq_true rfl, Nat.le_of_ble_eq_true rfl⟩) (k_pre hC hS hP) rfl rfl hl.1 rfl (lv_room (Nat.le_of_ble_eq_true rfl)) dL_acts_176 ⟨Nat.zero_le _, Nat.zero_le _⟩) (fun H locs hP hS => ?_)
      refine lv_istore (lv' := [(5, .int v140), (4, .int v3), (3, .int v1), (0, .ref (ad 0)), (1, .int p0), (2, .int p1)]) hx hb dL_acts_179 hl (by decide) rfl (fun ls hl => ?_)
      refine lv_iload_n hx hb dL_acts_181 rfl (lv_at hl 5 rfl) ?_
      refine lv_iconst (v := 3) hx hb dL_acts_182 (by decide) ?_
      refine lv_ishr hx hb dL_acts_183 ?_
      refine lv_bipush (v := 7) hx hb dL_acts_184 (by decide) ?_
      obtain ⟨v142, hv142, hN⟩ := oB_spec hN
      refine k_iR hS (va_runS (As := [.int (p1 >>> ((3 : Int32) &&& 31)), .int (7 : Int32)]) (rest := []) ⟨hx, hb, hml, hown, hts⟩ (c_L_low l g L hL G (p1 >>> ((3 : Int32) &&& 31)) (7 : Int32) v142 hv142) (va_cwS 2 hts gL_acts_L_low rfl rfl rfl (by decide +kernel) ⟨Nat.le_of_ble_eq_true rfl, Nat.le_of_ble_eq_true rfl⟩) (k_pre hC hS hP) rfl rfl hl.1 rfl (lv_room (Nat.le_of_ble_eq_true rfl)) dL_acts_186 ⟨Nat.zero_le _, Nat.zero_le _⟩) (fun H locs hP hS => ?_)
      refine lv_istore (lv' := [(6, .int v142), (5, .int v140), (4, .int v3), (3, .int v1), (0, .ref (ad 0)), (1, .int p0), (2, .int p1)]) hx hb dL_acts_189 hl (by decide) rfl (fun ls hl => ?_)
      refine lv_aload_n hx hb dL_acts_191 rfl (lv_at hl 4 rfl) ?_
      refine lv_bipush (v := 10) hx hb dL_acts_192 (by decide) ?_
      refine lv_iload hx hb dL_acts_194 (lv_at hl 1 rfl) ?_
      refine lv_bipush (v := 6) hx hb dL_acts_196 (by decide) ?_
      refine lv_icmp_ne (tgt := 205) hx hb dL_acts_198 (by decide) (fun c144 => ?_) (fun c144 => ?_)
      · rw [if_neg c144] at hN
        refine lv_iload hx hb dL_acts_205 (lv_at hl 1 rfl) ?_
        refine lv_iadd hx hb dL_acts_207 ?_
        obtain ⟨v145, hv145, hN⟩ := oB_spec hN
        refine k_iR hS (va_runV (As := [.int ((10 : Int32) + v140)]) (rest := []) ⟨hx, hb, hml, hown, hts⟩ (c_X3_count l g L hL G ad (x.1, x.2.1, x.2.2.1, x.2.2.2.1, x.2.2.2.2) hX ((10 : Int32) + v140) v145 hv145) (cwV 1 hts gL_acts_X3_count rfl rfl rfl (by decide +kernel) ⟨Nat.le_of_ble_eq_true rfl, Nat.le_of_ble_eq_true rfl⟩) (k_preV (C := RX3) (T := TX3) (N := 3) hC hS hP (hX.m 0 (by omega)) hX.o0 rfl) rfl rfl hl.1 rfl (lv_room (Nat.le_of_ble_eq_true rfl)) dL_acts_208 ⟨Nat.zero_le _, Nat.zero_le _⟩) (fun H locs hP hS => ?_)
        refine lv_istore (lv' := [(7, .int v145), (6, .int v142), (5, .int v140), (4, .int v3), (3, .int v1), (0, .ref (ad 0)), (1, .int p0), (2, .int p1)]) hx hb dL_acts_211 hl (by decide) rfl (fun ls hl => ?_)
        refine lv_aload_n hx hb dL_acts_213 rfl (lv_at hl 5 rfl) ?_
        refine lv_iload hx hb dL_acts_214 (lv_at hl 2 rfl) ?_
        refine lv_iload hx hb dL_acts_216 (lv_at hl 1 rfl) ?_
        obtain ⟨v147, w148, hv147, hN⟩ := oB2_spec hN
        refine k_iW hS (va_runV (As := [.int v140, .int v142]) (rest := []) ⟨hx, hb, hml, hown, hts⟩ (c_X3_rank l g L hL G ad (x.1, x.2.1, x.2.2.1, x.2.2.2.1, x.2.2.2.2) hX v140 v142 v147 w148 hv147) (cwV 2 hts gL_acts_X3_rank rfl rfl rfl (by decide +kernel) ⟨Nat.le_of_ble_eq_true rfl, Nat.le_of_ble_eq_true rfl⟩) (k_preV (C := RX3) (T := TX3) (N := 3) hC hS hP (hX.m 0 (by omega)) hX.o0 rfl) rfl rfl hl.1 rfl (lv_room (Nat.le_of_ble_eq_true rfl)) dL_acts_218 ⟨Nat.zero_le _, Nat.zero_le _⟩) (fun G149 H locs hq hP hS => ?_)
        have hX := hq
        refine lv_iload hx hb dL_acts_221 (lv_at hl 2 rfl) ?_
        refine lv_bipush (v := 6) hx hb dL_acts_223 (by decide) ?_
        refine lv_icmp_eq (tgt := 235) hx hb dL_acts_225 (by decide) (fun c150 => ?_) (fun c150 => ?_)
        · rw [if_pos c150] at hN
          refine lv_ldc (v := (-1000001)) hx hb hown (hts (.constant RL 72 (-1000001)) (List.mem_of_getElem? (i := 1) rfl)) dL_acts_235 ?_
          refine lv_goto (tgt := 242) hx hb dL_acts_237 (by decide) ?_
          refine lv_icmp_ne (tgt := 249) hx hb dL_acts_242 (by decide) (fun c151 => ?_) (fun c151 => ?_)
          · rw [if_neg c151] at hN
            refine lv_iconst (v := 0) hx hb dL_acts_249 (by decide) ?_
            obtain ⟨hE, hE2⟩ := spair hN
            exact k_zretW hx hb hr (by decide) hE (hE2 ▸ hX) hP hS hlk dL_acts_250
          · rw [if_pos c151] at hN
            refine lv_iconst (v := 1) hx hb dL_acts_245 (by decide) ?_
            refine lv_goto (tgt := 250) hx hb dL_acts_246 (by decide) ?_
            obtain ⟨hE, hE2⟩ := spair hN
            exact k_zretW hx hb hr (by decide) hE (hE2 ▸ hX) hP hS hlk dL_acts_250
        · rw [if_neg c150] at hN
          refine lv_iload hx hb dL_acts_228 (lv_at hl 1 rfl) ?_
          refine lv_bipush (v := 6) hx hb dL_acts_230 (by decide) ?_
          refine lv_icmp_ne (tgt := 240) hx hb dL_acts_232 (by decide) (fun c152 => ?_) (fun c152 => ?_)
          · rw [if_neg c152] at hN
            refine lv_iload hx hb dL_acts_240 (lv_at hl 0 rfl) ?_
            refine lv_icmp_ne (tgt := 249) hx hb dL_acts_242 (by decide) (fun c153 => ?_) (fun c153 => ?_)
            · rw [if_neg c153] at hN
              refine lv_iconst (v := 0) hx hb dL_acts_249 (by decide) ?_
              obtain ⟨hE, hE2⟩ := spair hN
              exact k_zretW hx hb hr (by decide) hE (hE2 ▸ hX) hP hS hlk dL_acts_250
            · rw [if_pos c153] at hN
              refine lv_iconst (v := 1) hx hb dL_acts_245 (by decide) ?_
              refine lv_goto (tgt := 250) hx hb dL_acts_246 (by decide) ?_
              obtain ⟨hE, hE2⟩ := spair hN
              exact k_zretW hx hb hr (by decide) hE (hE2 ▸ hX) hP hS hlk dL_acts_250
          · rw [if_pos c152] at hN
            refine lv_ldc (v := (-1000001)) hx hb hown (hts (.constant RL 72 (-1000001)) (List.mem_of_getElem? (i := 1) rfl)) dL_acts_235 ?_
            refine lv_goto (tgt := 242) hx hb dL_acts_237 (by decide) ?_
            refine lv_icmp_ne (tgt := 249) hx hb dL_acts_242 (by decide) (fun c154 => ?_) (fun c154 => ?_)
            · rw [if_neg c154] at hN
              refine lv_iconst (v := 0) hx hb dL_acts_249 (by decide) ?_
              obtain ⟨hE, hE2⟩ := spair hN
              exact k_zretW hx hb hr (by decide) hE (hE2 ▸ hX) hP hS hlk dL_acts_250
            · rw [if_pos c154] at hN
              refine lv_iconst (v := 1) hx hb dL_acts_245 (by decide) ?_
              refine lv_goto (tgt := 250) hx hb dL_acts_246 (by decide) ?_
              obtain ⟨hE, hE2⟩ := spair hN
              exact k_zretW hx hb hr (by decide) hE (hE2 ▸ hX) hP hS hlk dL_acts_250
      · rw [if_pos c144] at hN
        refine lv_iconst (v := 0) hx hb dL_acts_201 (by decide) ?_
        refine lv_goto (tgt := 207) hx hb dL_acts_202 (by decide) ?_
        refine lv_iadd hx hb dL_acts_207 ?_
        obtain ⟨v155, hv155, hN⟩ := oB_spec hN
        refine k_iR hS (va_runV (As := [.int ((10 : Int32) + (0 : Int32))]) (rest := []) ⟨hx, hb, hml, hown, hts⟩ (c_X3_count l g L hL G ad (x.1, x.2.1, x.2.2.1, x.2.2.2.1, x.2.2.2.2) hX ((10 : Int32) + (0 : Int32)) v155 hv155) (cwV 1 hts gL_acts_X3_count rfl rfl rfl (by decide +kernel) ⟨Nat.le_of_ble_eq_true rfl, Nat.le_of_ble_eq_true rfl⟩) (k_preV (C := RX3) (T := TX3) (N := 3) hC hS hP (hX.m 0 (by omega)) hX.o0 rfl) rfl rfl hl.1 rfl (lv_room (Nat.le_of_ble_eq_true rfl)) dL_acts_208 ⟨Nat.zero_le _, Nat.zero_le _⟩) (fun H locs hP hS => ?_)
        refine lv_istore (lv' := [(7, .int v155), (6, .int v142), (5, .int v140), (4, .int v3), (3, .int v1), (0, .ref (ad 0)), (1, .int p0), (2, .int p1)]) hx hb dL_acts_211 hl (by decide) rfl (fun ls hl => ?_)
        refine lv_aload_n hx hb dL_acts_213 rfl (lv_at hl 5 rfl) ?_
        refine lv_iload hx hb dL_acts_214 (lv_at hl 2 rfl) ?_
        refine lv_iload hx hb dL_acts_216 (lv_at hl 1 rfl) ?_
        obtain ⟨v157, w158, hv157, hN⟩ := oB2_spec hN
        refine k_iW hS (va_runV (As := [.int v140, .int v142]) (rest := []) ⟨hx, hb, hml, hown, hts⟩ (c_X3_rank l g L hL G ad (x.1, x.2.1, x.2.2.1, x.2.2.2.1, x.2.2.2.2) hX v140 v142 v157 w158 hv157) (cwV 2 hts gL_acts_X3_rank rfl rfl rfl (by decide +kernel) ⟨Nat.le_of_ble_eq_true rfl, Nat.le_of_ble_eq_true rfl⟩) (k_preV (C := RX3) (T := TX3) (N := 3) hC hS hP (hX.m 0 (by omega)) hX.o0 rfl) rfl rfl hl.1 rfl (lv_room (Nat.le_of_ble_eq_true rfl)) dL_acts_218 ⟨Nat.zero_le _, Nat.zero_le _⟩) (fun G159 H locs hq hP hS => ?_)
        have hX := hq
        refine lv_iload hx hb dL_acts_221 (lv_at hl 2 rfl) ?_
        refine lv_bipush (v := 6) hx hb dL_acts_223 (by decide) ?_
        refine lv_icmp_eq (tgt := 235) hx hb dL_acts_225 (by decide) (fun c160 => ?_) (fun c160 => ?_)
        · rw [if_pos c160] at hN
          refine lv_ldc (v := (-1000001)) hx hb hown (hts (.constant RL 72 (-1000001)) (List.mem_of_getElem? (i := 1) rfl)) dL_acts_235 ?_
          refine lv_goto (tgt := 242) hx hb dL_acts_237 (by decide) ?_
          refine lv_icmp_ne (tgt := 249) hx hb dL_acts_242 (by decide) (fun c161 => ?_) (fun c161 => ?_)
          · rw [if_neg c161] at hN
            refine lv_iconst (v := 0) hx hb dL_acts_249 (by decide) ?_
            obtain ⟨hE, hE2⟩ := spair hN
            exact k_zretW hx hb hr (by decide) hE (hE2 ▸ hX) hP hS hlk dL_acts_250
          · rw [if_pos c161] at hN
            refine lv_iconst (v := 1) hx hb dL_acts_245 (by decide) ?_
            refine lv_goto (tgt := 250) hx hb dL_acts_246 (by decide) ?_
            obtain ⟨hE, hE2⟩ := spair hN
            exact k_zretW hx hb hr (by decide) hE (hE2 ▸ hX) hP hS hlk dL_acts_250
        · rw [if_neg c160] at hN
          refine lv_iload hx hb dL_acts_228 (lv_at hl 1 rfl) ?_
          refine lv_bipush (v := 6) hx hb dL_acts_230 (by decide) ?_
          refine lv_icmp_ne (tgt := 240) hx hb dL_acts_232 (by decide) (fun c162 => ?_) (fun c162 => ?_)
          · rw [if_neg c162] at hN
            refine lv_iload hx hb dL_acts_240 (lv_at hl 0 rfl) ?_
            refine lv_icmp_ne (tgt := 249) hx hb dL_acts_242 (by decide) (fun c163 => ?_) (fun c163 => ?_)
            · rw [if_neg c163] at hN
              refine lv_iconst (v := 0) hx hb dL_acts_249 (by decide) ?_
              obtain ⟨hE, hE2⟩ := spair hN
              exact k_zretW hx hb hr (by decide) hE (hE2 ▸ hX) hP hS hlk dL_acts_250
            · rw [if_pos c163] at hN
              refine lv_iconst (v := 1) hx hb dL_acts_245 (by decide) ?_
              refine lv_goto (tgt := 250) hx hb dL_acts_246 (by decide) ?_
              obtain ⟨hE, hE2⟩ := spair hN
              exact k_zretW hx hb hr (by decide) hE (hE2 ▸ hX) hP hS hlk dL_acts_250
          · rw [if_pos c162] at hN
            refine lv_ldc (v := (-1000001)) hx hb hown (hts (.constant RL 72 (-1000001)) (List.mem_of_getElem? (i := 1) rfl)) dL_acts_235 ?_
            refine lv_goto (tgt := 242) hx hb dL_acts_237 (by decide) ?_
            refine lv_icmp_ne (tgt := 249) hx hb dL_acts_242 (by decide) (fun c164 => ?_) (fun c164 => ?_)
            · rw [if_neg c164] at hN
              refine lv_iconst (v := 0) hx hb dL_acts_249 (by decide) ?_
              obtain ⟨hE, hE2⟩ := spair hN
              exact k_zretW hx hb hr (by decide) hE (hE2 ▸ hX) hP hS hlk dL_acts_250
            · rw [if_pos c164] at hN
              refine lv_iconst (v := 1) hx hb dL_acts_245 (by decide) ?_
              refine lv_goto (tgt := 250) hx hb dL_acts_246 (by decide) ?_
              obtain ⟨hE, hE2⟩ := spair hN
              exact k_zretW hx hb hr (by decide) hE (hE2 ▸ hX) hP hS hlk dL_acts_250
  · rw [if_neg c5] at hN
    refine lv_iconst (v := 1) hx hb dL_acts_20 (by decide) ?_
    refine lv_iload_n hx hb dL_acts_21 rfl (lv_at hl 4 rfl) ?_
    refine lv_bipush (v := 8) hx hb dL_acts_22 (by decide) ?_
    obtain ⟨v165, hv165, hN⟩ := oB_spec hN
    refine k_iR hS (va_runS (As := [.int p1, .int (8 : Int32)]) (rest := [.int (1 : Int32)]) ⟨hx, hb, hml, hown, hts⟩ (c_L_low l g L hL G p1 (8 : Int32) v165 hv165) (va_cwS 2 hts gL_acts_L_low rfl rfl rfl (by decide +kernel) ⟨Nat.le_of_ble_eq_true rfl, Nat.le_of_ble_eq_true rfl⟩) (k_pre hC hS hP) rfl rfl hl.1 rfl (lv_room (Nat.le_of_ble_eq_true rfl)) dL_acts_24 ⟨Nat.zero_le _, Nat.zero_le _⟩) (fun H locs hP hS => ?_)
    refine lv_ishl hx hb dL_acts_27 ?_
    refine lv_iconst (v := 1) hx hb dL_acts_28 (by decide) ?_
    refine lv_iload_n hx hb dL_acts_29 rfl (lv_at hl 4 rfl) ?_
    refine lv_iconst (v := 3) hx hb dL_acts_30 (by decide) ?_
    refine lv_ishr hx hb dL_acts_31 ?_
    refine lv_bipush (v := 10) hx hb dL_acts_32 (by decide) ?_
    obtain ⟨v167, hv167, hN⟩ := oB_spec hN
    refine k_iR hS (va_runS (As := [.int (p1 >>> ((3 : Int32) &&& 31)), .int (10 : Int32)]) (rest := [.int (1 : Int32), .int ((1 : Int32) <<< (v165 &&& 31))]) ⟨hx, hb, hml, hown, hts⟩ (c_L_low l g L hL G (p1 >>> ((3 : Int32) &&& 31)) (10 : Int32) v167 hv167) (va_cwS 2 hts gL_acts_L_low rfl rfl rfl (by decide +kernel) ⟨Nat.le_of_ble_eq_true rfl, Nat.le_of_ble_eq_true rfl⟩) (k_pre hC hS hP) rfl rfl hl.1 rfl (lv_room (Nat.le_of_ble_eq_true rfl)) dL_acts_34 ⟨Nat.zero_le _, Nat.zero_le _⟩) (fun H locs hP hS => ?_)
    refine lv_ishl hx hb dL_acts_37 ?_
    refine lv_ior hx hb dL_acts_38 ?_
    refine lv_iconst (v := 1) hx hb dL_acts_39 (by decide) ?_
    refine lv_iload_n hx hb dL_acts_40 rfl (lv_at hl 4 rfl) ?_
    refine lv_bipush (v := 7) hx hb dL_acts_41 (by decide) ?_
    refine lv_ishr hx hb dL_acts_43 ?_
    refine lv_bipush (v := 13) hx hb dL_acts_44 (by decide) ?_
    obtain ⟨v169, hv169, hN⟩ := oB_spec hN
    refine k_iR hS (va_runS (As := [.int (p1 >>> ((7 : Int32) &&& 31)), .int (13 : Int32)]) (rest := [.int (1 : Int32), .int (((1 : Int32) <<< (v165 &&& 31)) ||| ((1 : Int32) <<< (v167 &&& 31)))]) ⟨hx, hb, hml, hown, hts⟩ (c_L_low l g L hL G (p1 >>> ((7 : Int32) &&& 31)) (13 : Int32) v169 hv169) (va_cwS 2 hts gL_acts_L_low rfl rfl rfl (by decide +kernel) ⟨Nat.le_of_ble_eq_true rfl, Nat.le_of_ble_eq_true rfl⟩) (k_pre hC hS hP) rfl rfl hl.1 rfl (lv_room (Nat.le_of_ble_eq_true rfl)) dL_acts_46 ⟨Nat.zero_le _, Nat.zero_le _⟩) (fun H locs hP hS => ?_)
    refine lv_ishl hx hb dL_acts_49 ?_
    refine lv_ior hx hb dL_acts_50 ?_
    refine lv_istore (lv' := [(5, .int ((((1 : Int32) <<< (v165 &&& 31)) ||| ((1 : Int32) <<< (v167 &&& 31))) ||| ((1 : Int32) <<< (v169 &&& 31)))), (4, .int v3), (3, .int v1), (0, .ref (ad 0)), (1, .int p0), (2, .int p1)]) hx hb dL_acts_51 hl (by decide) rfl (fun ls hl => ?_)
    refine lv_aload_n hx hb dL_acts_53 rfl (lv_at hl 3 rfl) ?_
    refine lv_iload hx hb dL_acts_54 (lv_at hl 0 rfl) ?_
    obtain ⟨v171, w172, hv171, hN⟩ := oB2_spec hN
    refine k_iW hS (va_runV (As := [.int ((((1 : Int32) <<< (v165 &&& 31)) ||| ((1 : Int32) <<< (v167 &&& 31))) ||| ((1 : Int32) <<< (v169 &&& 31)))]) (rest := []) ⟨hx, hb, hml, hown, hts⟩ (c_X3_tell l g L hL G ad (x.1, x.2.1, x.2.2.1, x.2.2.2.1, x.2.2.2.2) hX ((((1 : Int32) <<< (v165 &&& 31)) ||| ((1 : Int32) <<< (v167 &&& 31))) ||| ((1 : Int32) <<< (v169 &&& 31))) v171 w172 hv171) (cwV 1 hts gL_acts_X3_tell rfl rfl rfl (by decide +kernel) ⟨Nat.le_of_ble_eq_true rfl, Nat.le_of_ble_eq_true rfl⟩) (k_preV (C := RX3) (T := TX3) (N := 3) hC hS hP (hX.m 0 (by omega)) hX.o0 rfl) rfl rfl hl.1 rfl (lv_room (Nat.le_of_ble_eq_true rfl)) dL_acts_56 ⟨Nat.zero_le _, Nat.zero_le _⟩) (fun G173 H locs hq hP hS => ?_)
    have hX := hq
    refine lv_istore (lv' := [(6, .int v171), (5, .int ((((1 : Int32) <<< (v165 &&& 31)) ||| ((1 : Int32) <<< (v167 &&& 31))) ||| ((1 : Int32) <<< (v169 &&& 31)))), (4, .int v3), (3, .int v1), (0, .ref (ad 0)), (1, .int p0), (2, .int p1)]) hx hb dL_acts_59 hl (by decide) rfl (fun ls hl => ?_)
    refine lv_iload hx hb dL_acts_61 (lv_at hl 1 rfl) ?_
    refine lv_sipush (v := 4095) hx hb dL_acts_63 (by decide) ?_
    refine lv_icmp_le (tgt := 84) hx hb dL_acts_66 (by decide) (fun c174 => ?_) (fun c174 => ?_)
    · rw [if_pos c174] at hN
      refine lv_iload hx hb dL_acts_84 (lv_at hl 0 rfl) ?_
      refine lv_iload hx hb dL_acts_86 (lv_at hl 2 rfl) ?_
      refine lv_icmp_ne (tgt := 103) hx hb dL_acts_88 (by decide) (fun c175 => ?_) (fun c175 => ?_)
      · rw [if_neg c175] at hN
        refine lv_iload hx hb dL_acts_103 (lv_at hl 0 rfl) ?_
        refine lv_iconst (v := (-1)) hx hb dL_acts_105 (by decide) ?_
        refine lv_icmp_ne (tgt := 130) hx hb dL_acts_106 (by decide) (fun c176 => ?_) (fun c176 => ?_)
        · rw [if_neg c176] at hN
          refine lv_iload hx hb dL_acts_130 (lv_at hl 0 rfl) ?_
          refine lv_bipush (v := (-2)) hx hb dL_acts_132 (by decide) ?_
          refine lv_icmp_ne (tgt := 147) hx hb dL_acts_134 (by decide) (fun c177 => ?_) (fun c177 => ?_)
          · rw [if_neg c177] at hN
            refine lv_iload hx hb dL_acts_147 (lv_at hl 0 rfl) ?_
            refine lv_ldc (v := (-1000003)) hx hb hown (hts (.constant RL 67 (-1000003)) (List.mem_of_getElem? (i := 3) rfl)) dL_acts_149 ?_
            refine lv_icmp_ne (tgt := 165) hx hb dL_acts_151 (by decide) (fun c178 => ?_) (fun c178 => ?_)
            · rw [if_neg c178] at hN
              refine lv_iconst (v := 0) hx hb dL_acts_165 (by decide) ?_
              obtain ⟨hE, hE2⟩ := spair hN
              exact k_zretW hx hb hr (by decide) hE (hE2 ▸ hX) hP hS hlk dL_acts_166
            · rw [if_pos c178] at hN
              refine lv_iload hx hb dL_acts_154 (lv_at hl 2 rfl) ?_
              refine lv_bipush (v := 40) hx hb dL_acts_156 (by decide) ?_
              refine lv_icmp_ne (tgt := 165) hx hb dL_acts_158 (by decide) (fun c179 => ?_) (fun c179 => ?_)
              · rw [if_neg c179] at hN
                refine lv_iconst (v := 0) hx hb dL_acts_165 (by decide) ?_
                obtain ⟨hE, hE2⟩ := spair hN
                exact k_zretW hx hb hr (by decide) hE (hE2 ▸ hX) hP hS hlk dL_acts_166
              · rw [if_pos c179] at hN
                refine lv_iconst (v := 1) hx hb dL_acts_161 (by decide) ?_
                refine lv_goto (tgt := 166) hx hb dL_acts_162 (by decide) ?_
                obtain ⟨hE, hE2⟩ := spair hN
                exact k_zretW hx hb hr (by decide) hE (hE2 ▸ hX) hP hS hlk dL_acts_166
          · rw [if_pos c177] at hN
            refine lv_aload_n hx hb dL_acts_137 rfl (lv_at hl 4 rfl) ?_
            refine lv_iconst (v := 0) hx hb dL_acts_138 (by decide) ?_
            obtain ⟨v180, hv180, hN⟩ := oB_spec hN
            refine k_iR hS (va_runV (As := [.int (0 : Int32)]) (rest := []) ⟨hx, hb, hml, hown, hts⟩ (c_X3_count l g L hL G173 ad (w172.1, w172.2.1, w172.2.2.1, w172.2.2.2.1, w172.2.2.2.2) hX (0 : Int32) v180 hv180) (cwV 1 hts gL_acts_X3_count rfl rfl rfl (by decide +kernel) ⟨Nat.le_of_ble_eq_true rfl, Nat.le_of_ble_eq_true rfl⟩) (k_preV (C := RX3) (T := TX3) (N := 3) hC hS hP (hX.m 0 (by omega)) hX.o0 rfl) rfl rfl hl.1 rfl (lv_room (Nat.le_of_ble_eq_true rfl)) dL_acts_139 ⟨Nat.zero_le _, Nat.zero_le _⟩) (fun H locs hP hS => ?_)
            refine lv_iload hx hb dL_acts_142 (lv_at hl 2 rfl) ?_
            refine lv_icmp_eq (tgt := 161) hx hb dL_acts_144 (by decide) (fun c182 => ?_) (fun c182 => ?_)
            · rw [if_pos c182] at hN
              refine lv_iconst (v := 1) hx hb dL_acts_161 (by decide) ?_
              refine lv_goto (tgt := 166) hx hb dL_acts_162 (by decide) ?_
              obtain ⟨hE, hE2⟩ := spair hN
              exact k_zretW hx hb hr (by decide) hE (hE2 ▸ hX) hP hS hlk dL_acts_166
            · rw [if_neg c182] at hN
              refine lv_iload hx hb dL_acts_147 (lv_at hl 0 rfl) ?_
              refine lv_ldc (v := (-1000003)) hx hb hown (hts (.constant RL 67 (-1000003)) (List.mem_of_getElem? (i := 3) rfl)) dL_acts_149 ?_
              refine lv_icmp_ne (tgt := 165) hx hb dL_acts_151 (by decide) (fun c183 => ?_) (fun c183 => ?_)
              · rw [if_neg c183] at hN
                refine lv_iconst (v := 0) hx hb dL_acts_165 (by decide) ?_
                obtain ⟨hE, hE2⟩ := spair hN
                exact k_zretW hx hb hr (by decide) hE (hE2 ▸ hX) hP hS hlk dL_acts_166
              · rw [if_pos c183] at hN
                refine lv_iload hx hb dL_acts_154 (lv_at hl 2 rfl) ?_
                refine lv_bipush (v := 40) hx hb dL_acts_156 (by decide) ?_
                refine lv_icmp_ne (tgt := 165) hx hb dL_acts_158 (by decide) (fun c184 => ?_) (fun c184 => ?_)
                · rw [if_neg c184] at hN
                  refine lv_iconst (v := 0) hx hb dL_acts_165 (by decide) ?_
                  obtain ⟨hE, hE2⟩ := spair hN
                  exact k_zretW hx hb hr (by decide) hE (hE2 ▸ hX) hP hS hlk dL_acts_166
                · rw [if_pos c184] at hN
                  refine lv_iconst (v := 1) hx hb dL_acts_161 (by decide) ?_
                  refine lv_goto (tgt := 166) hx hb dL_acts_162 (by decide) ?_
                  obtain ⟨hE, hE2⟩ := spair hN
                  exact k_zretW hx hb hr (by decide) hE (hE2 ▸ hX) hP hS hlk dL_acts_166
        · rw [if_pos c176] at hN
          refine lv_aload_n hx hb dL_acts_109 rfl (lv_at hl 4 rfl) ?_
          refine lv_iload hx hb dL_acts_110 (lv_at hl 1 rfl) ?_
          obtain ⟨v185, hv185, hN⟩ := oB_spec hN
          refine k_iR hS (va_runV (As := [.int ((((1 : Int32) <<< (v165 &&& 31)) ||| ((1 : Int32) <<< (v167 &&& 31))) ||| ((1 : Int32) <<< (v169 &&& 31)))]) (rest := []) ⟨hx, hb, hml, hown, hts⟩ (c_X3_share l g L hL G173 ad (w172.1, w172.2.1, w172.2.2.1, w172.2.2.2.1, w172.2.2.2.2) hX ((((1 : Int32) <<< (v165 &&& 31)) ||| ((1 : Int32) <<< (v167 &&& 31))) ||| ((1 : Int32) <<< (v169 &&& 31))) v185 hv185) (cwV 1 hts gL_acts_X3_share rfl rfl rfl (by decide +kernel) ⟨Nat.le_of_ble_eq_true rfl, Nat.le_of_ble_eq_true rfl⟩) (k_preV (C := RX3) (T := TX3) (N := 3) hC hS hP (hX.m 0 (by omega)) hX.o0 rfl) rfl rfl hl.1 rfl (lv_room (Nat.le_of_ble_eq_true rfl)) dL_acts_112 ⟨Nat.zero_le _, Nat.zero_le _⟩) (fun H locs hP hS => ?_)
          refine lv_ldc (v := 1065353216) hx hb hown (hts (.constant RL 76 (1065353216)) (List.mem_of_getElem? (i := 2) rfl)) dL_acts_115 ?_
          refine lv_icmp_ne (tgt := 130) hx hb dL_acts_117 (by decide) (fun c187 => ?_) (fun c187 => ?_)
          · rw [if_neg c187] at hN
            refine lv_iload hx hb dL_acts_130 (lv_at hl 0 rfl) ?_
            refine lv_bipush (v := (-2)) hx hb dL_acts_132 (by decide) ?_
            refine lv_icmp_ne (tgt := 147) hx hb dL_acts_134 (by decide) (fun c188 => ?_) (fun c188 => ?_)
            · rw [if_neg c188] at hN
              refine lv_iload hx hb dL_acts_147 (lv_at hl 0 rfl) ?_
              refine lv_ldc (v := (-1000003)) hx hb hown (hts (.constant RL 67 (-1000003)) (List.mem_of_getElem? (i := 3) rfl)) dL_acts_149 ?_
              refine lv_icmp_ne (tgt := 165) hx hb dL_acts_151 (by decide) (fun c189 => ?_) (fun c189 => ?_)
              · rw [if_neg c189] at hN
                refine lv_iconst (v := 0) hx hb dL_acts_165 (by decide) ?_
                obtain ⟨hE, hE2⟩ := spair hN
                exact k_zretW hx hb hr (by decide) hE (hE2 ▸ hX) hP hS hlk dL_acts_166
              · rw [if_pos c189] at hN
                refine lv_iload hx hb dL_acts_154 (lv_at hl 2 rfl) ?_
                refine lv_bipush (v := 40) hx hb dL_acts_156 (by decide) ?_
                refine lv_icmp_ne (tgt := 165) hx hb dL_acts_158 (by decide) (fun c190 => ?_) (fun c190 => ?_)
                · rw [if_neg c190] at hN
                  refine lv_iconst (v := 0) hx hb dL_acts_165 (by decide) ?_
                  obtain ⟨hE, hE2⟩ := spair hN
                  exact k_zretW hx hb hr (by decide) hE (hE2 ▸ hX) hP hS hlk dL_acts_166
                · rw [if_pos c190] at hN
                  refine lv_iconst (v := 1) hx hb dL_acts_161 (by decide) ?_
                  refine lv_goto (tgt := 166) hx hb dL_acts_162 (by decide) ?_
                  obtain ⟨hE, hE2⟩ := spair hN
                  exact k_zretW hx hb hr (by decide) hE (hE2 ▸ hX) hP hS hlk dL_acts_166
            · rw [if_pos c188] at hN
              refine lv_aload_n hx hb dL_acts_137 rfl (lv_at hl 4 rfl) ?_
              refine lv_iconst (v := 0) hx hb dL_acts_138 (by decide) ?_
              obtain ⟨v191, hv191, hN⟩ := oB_spec hN
              refine k_iR hS (va_runV (As := [.int (0 : Int32)]) (rest := []) ⟨hx, hb, hml, hown, hts⟩ (c_X3_count l g L hL G173 ad (w172.1, w172.2.1, w172.2.2.1, w172.2.2.2.1, w172.2.2.2.2) hX (0 : Int32) v191 hv191) (cwV 1 hts gL_acts_X3_count rfl rfl rfl (by decide +kernel) ⟨Nat.le_of_ble_eq_true rfl, Nat.le_of_ble_eq_true rfl⟩) (k_preV (C := RX3) (T := TX3) (N := 3) hC hS hP (hX.m 0 (by omega)) hX.o0 rfl) rfl rfl hl.1 rfl (lv_room (Nat.le_of_ble_eq_true rfl)) dL_acts_139 ⟨Nat.zero_le _, Nat.zero_le _⟩) (fun H locs hP hS => ?_)
              refine lv_iload hx hb dL_acts_142 (lv_at hl 2 rfl) ?_
              refine lv_icmp_eq (tgt := 161) hx hb dL_acts_144 (by decide) (fun c193 => ?_) (fun c193 => ?_)
              · rw [if_pos c193] at hN
                refine lv_iconst (v := 1) hx hb dL_acts_161 (by decide) ?_
                refine lv_goto (tgt := 166) hx hb dL_acts_162 (by decide) ?_
                obtain ⟨hE, hE2⟩ := spair hN
                exact k_zretW hx hb hr (by decide) hE (hE2 ▸ hX) hP hS hlk dL_acts_166
              · rw [if_neg c193] at hN
                refine lv_iload hx hb dL_acts_147 (lv_at hl 0 rfl) ?_
                refine lv_ldc (v := (-1000003)) hx hb hown (hts (.constant RL 67 (-1000003)) (List.mem_of_getElem? (i := 3) rfl)) dL_acts_149 ?_
                refine lv_icmp_ne (tgt := 165) hx hb dL_acts_151 (by decide) (fun c194 => ?_) (fun c194 => ?_)
                · rw [if_neg c194] at hN
                  refine lv_iconst (v := 0) hx hb dL_acts_165 (by decide) ?_
                  obtain ⟨hE, hE2⟩ := spair hN
                  exact k_zretW hx hb hr (by decide) hE (hE2 ▸ hX) hP hS hlk dL_acts_166
                · rw [if_pos c194] at hN
                  refine lv_iload hx hb dL_acts_154 (lv_at hl 2 rfl) ?_
                  refine lv_bipush (v := 40) hx hb dL_acts_156 (by decide) ?_
                  refine lv_icmp_ne (tgt := 165) hx hb dL_acts_158 (by decide) (fun c195 => ?_) (fun c195 => ?_)
                  · rw [if_neg c195] at hN
                    refine lv_iconst (v := 0) hx hb dL_acts_165 (by decide) ?_
                    obtain ⟨hE, hE2⟩ := spair hN
                    exact k_zretW hx hb hr (by decide) hE (hE2 ▸ hX) hP hS hlk dL_acts_166
                  · rw [if_pos c195] at hN
                    refine lv_iconst (v := 1) hx hb dL_acts_161 (by decide) ?_
                    refine lv_goto (tgt := 166) hx hb dL_acts_162 (by decide) ?_
                    obtain ⟨hE, hE2⟩ := spair hN
                    exact k_zretW hx hb hr (by decide) hE (hE2 ▸ hX) hP hS hlk dL_acts_166
          · rw [if_pos c187] at hN
            refine lv_aload_n hx hb dL_acts_120 rfl (lv_at hl 4 rfl) ?_
            refine lv_iconst (v := 0) hx hb dL_acts_121 (by decide) ?_
            obtain ⟨v196, hv196, hN⟩ := oB_spec hN
            refine k_iR hS (va_runV (As := [.int (0 : Int32)]) (rest := []) ⟨hx, hb, hml, hown, hts⟩ (c_X3_count l g L hL G173 ad (w172.1, w172.2.1, w172.2.2.1, w172.2.2.2.1, w172.2.2.2.2) hX (0 : Int32) v196 hv196) (cwV 1 hts gL_acts_X3_count rfl rfl rfl (by decide +kernel) ⟨Nat.le_of_ble_eq_true rfl, Nat.le_of_ble_eq_true rfl⟩) (k_preV (C := RX3) (T := TX3) (N := 3) hC hS hP (hX.m 0 (by omega)) hX.o0 rfl) rfl rfl hl.1 rfl (lv_room (Nat.le_of_ble_eq_true rfl)) dL_acts_122 ⟨Nat.zero_le _, Nat.zero_le _⟩) (fun H locs hP hS => ?_)
            refine lv_iload hx hb dL_acts_125 (lv_at hl 2 rfl) ?_
            refine lv_icmp_eq (tgt := 161) hx hb dL_acts_127 (by decide) (fun c198 => ?_) (fun c198 => ?_)
            · rw [if_pos c198] at hN
              refine lv_iconst (v := 1) hx hb dL_acts_161 (by decide) ?_
              refine lv_goto (tgt := 166) hx hb dL_acts_162 (by decide) ?_
              obtain ⟨hE, hE2⟩ := spair hN
              exact k_zretW hx hb hr (by decide) hE (hE2 ▸ hX) hP hS hlk dL_acts_166
            · rw [if_neg c198] at hN
              refine lv_iload hx hb dL_acts_130 (lv_at hl 0 rfl) ?_
              refine lv_bipush (v := (-2)) hx hb dL_acts_132 (by decide) ?_
              refine lv_icmp_ne (tgt := 147) hx hb dL_acts_134 (by decide) (fun c199 => ?_) (fun c199 => ?_)
              · rw [if_neg c199] at hN
                refine lv_iload hx hb dL_acts_147 (lv_at hl 0 rfl) ?_
                refine lv_ldc (v := (-1000003)) hx hb hown (hts (.constant RL 67 (-1000003)) (List.mem_of_getElem? (i := 3) rfl)) dL_acts_149 ?_
                refine lv_icmp_ne (tgt := 165) hx hb dL_acts_151 (by decide) (fun c200 => ?_) (fun c200 => ?_)
                · rw [if_neg c200] at hN
                  refine lv_iconst (v := 0) hx hb dL_acts_165 (by decide) ?_
                  obtain ⟨hE, hE2⟩ := spair hN
                  exact k_zretW hx hb hr (by decide) hE (hE2 ▸ hX) hP hS hlk dL_acts_166
                · rw [if_pos c200] at hN
                  refine lv_iload hx hb dL_acts_154 (lv_at hl 2 rfl) ?_
                  refine lv_bipush (v := 40) hx hb dL_acts_156 (by decide) ?_
                  refine lv_icmp_ne (tgt := 165) hx hb dL_acts_158 (by decide) (fun c201 => ?_) (fun c201 => ?_)
                  · rw [if_neg c201] at hN
                    refine lv_iconst (v := 0) hx hb dL_acts_165 (by decide) ?_
                    obtain ⟨hE, hE2⟩ := spair hN
                    exact k_zretW hx hb hr (by decide) hE (hE2 ▸ hX) hP hS hlk dL_acts_166
                  · rw [if_pos c201] at hN
                    refine lv_iconst (v := 1) hx hb dL_acts_161 (by decide) ?_
                    refine lv_goto (tgt := 166) hx hb dL_acts_162 (by decide) ?_
                    obtain ⟨hE, hE2⟩ := spair hN
                    exact k_zretW hx hb hr (by decide) hE (hE2 ▸ hX) hP hS hlk dL_acts_166
              · rw [if_pos c199] at hN
                refine lv_aload_n hx hb dL_acts_137 rfl (lv_at hl 4 rfl) ?_
                refine lv_iconst (v := 0) hx hb dL_acts_138 (by decide) ?_
                obtain ⟨v202, hv202, hN⟩ := oB_spec hN
                refine k_iR hS (va_runV (As := [.int (0 : Int32)]) (rest := []) ⟨hx, hb, hml, hown, hts⟩ (c_X3_count l g L hL G173 ad (w172.1, w172.2.1, w172.2.2.1, w172.2.2.2.1, w172.2.2.2.2) hX (0 : Int32) v202 hv202) (cwV 1 hts gL_acts_X3_count rfl rfl rfl (by decide +kernel) ⟨Nat.le_of_ble_eq_true rfl, Nat.le_of_ble_eq_true rfl⟩) (k_preV (C := RX3) (T := TX3) (N := 3) hC hS hP (hX.m 0 (by omega)) hX.o0 rfl) rfl rfl hl.1 rfl (lv_room (Nat.le_of_ble_eq_true rfl)) dL_acts_139 ⟨Nat.zero_le _, Nat.zero_le _⟩) (fun H locs hP hS => ?_)
                refine lv_iload hx hb dL_acts_142 (lv_at hl 2 rfl) ?_
                refine lv_icmp_eq (tgt := 161) hx hb dL_acts_144 (by decide) (fun c204 => ?_) (fun c204 => ?_)
                · rw [if_pos c204] at hN
                  refine lv_iconst (v := 1) hx hb dL_acts_161 (by decide) ?_
                  refine lv_goto (tgt := 166) hx hb dL_acts_162 (by decide) ?_
                  obtain ⟨hE, hE2⟩ := spair hN
                  exact k_zretW hx hb hr (by decide) hE (hE2 ▸ hX) hP hS hlk dL_acts_166
                · rw [if_neg c204] at hN
                  refine lv_iload hx hb dL_acts_147 (lv_at hl 0 rfl) ?_
                  refine lv_ldc (v := (-1000003)) hx hb hown (hts (.constant RL 67 (-1000003)) (List.mem_of_getElem? (i := 3) rfl)) dL_acts_149 ?_
                  refine lv_icmp_ne (tgt := 165) hx hb dL_acts_151 (by decide) (fun c205 => ?_) (fun c205 => ?_)
                  · rw [if_neg c205] at hN
                    refine lv_iconst (v := 0) hx hb dL_acts_165 (by decide) ?_
                    obtain ⟨hE, hE2⟩ := spair hN
                    exact k_zretW hx hb hr (by decide) hE (hE2 ▸ hX) hP hS hlk dL_acts_166
                  · rw [if_pos c205] at hN
                    refine lv_iload hx hb dL_acts_154 (lv_at hl 2 rfl) ?_
                    refine lv_bipush (v := 40) hx hb dL_acts_156 (by decide) ?_
                    refine lv_icmp_ne (tgt := 165) hx hb dL_acts_158 (by decide) (fun c206 => ?_) (fun c206 => ?_)
                    · rw [if_neg c206] at hN
                      refine lv_iconst (v := 0) hx hb dL_acts_165 (by decide) ?_
                      obtain ⟨hE, hE2⟩ := spair hN
                      exact k_zretW hx hb hr (by decide) hE (hE2 ▸ hX) hP hS hlk dL_acts_166
                    · rw [if_pos c206] at hN
                      refine lv_iconst (v := 1) hx hb dL_acts_161 (by decide) ?_
                      refine lv_goto (tgt := 166) hx hb dL_acts_162 (by decide) ?_
                      obtain ⟨hE, hE2⟩ := spair hN
                      exact k_zretW hx hb hr (by decide) hE (hE2 ▸ hX) hP hS hlk dL_acts_166
      · rw [if_pos c175] at hN
        refine lv_aload_n hx hb dL_acts_91 rfl (lv_at hl 4 rfl) ?_
        refine lv_iconst (v := 0) hx hb dL_acts_92 (by decide) ?_
        obtain ⟨v207, hv207, hN⟩ := oB_spec hN
        refine k_iR hS (va_runV (As := [.int (0 : Int32)]) (rest := []) ⟨hx, hb, hml, hown, hts⟩ (c_X3_count l g L hL G173 ad (w172.1, w172.2.1, w172.2.2.1, w172.2.2.2.1, w172.2.2.2.2) hX (0 : Int32) v207 hv207) (cwV 1 hts gL_acts_X3_count rfl rfl rfl (by decide +kernel) ⟨Nat.le_of_ble_eq_true rfl, Nat.le_of_ble_eq_true rfl⟩) (k_preV (C := RX3) (T := TX3) (N := 3) hC hS hP (hX.m 0 (by omega)) hX.o0 rfl) rfl rfl hl.1 rfl (lv_room (Nat.le_of_ble_eq_true rfl)) dL_acts_93 ⟨Nat.zero_le _, Nat.zero_le _⟩) (fun H locs hP hS => ?_)
        refine lv_iload hx hb dL_acts_96 (lv_at hl 2 rfl) ?_
        refine lv_iconst (v := 1) hx hb dL_acts_98 (by decide) ?_
        refine lv_iadd hx hb dL_acts_99 ?_
        refine lv_icmp_eq (tgt := 161) hx hb dL_acts_100 (by decide) (fun c209 => ?_) (fun c209 => ?_)
        · rw [if_pos c209] at hN
          refine lv_iconst (v := 1) hx hb dL_acts_161 (by decide) ?_
          refine lv_goto (tgt := 166) hx hb dL_acts_162 (by decide) ?_
          obtain ⟨hE, hE2⟩ := spair hN
          exact k_zretW hx hb hr (by decide) hE (hE2 ▸ hX) hP hS hlk dL_acts_166
        · rw [if_neg c209] at hN
          refine lv_iload hx hb dL_acts_103 (lv_at hl 0 rfl) ?_
          refine lv_iconst (v := (-1)) hx hb dL_acts_105 (by decide) ?_
          refine lv_icmp_ne (tgt := 130) hx hb dL_acts_106 (by decide) (fun c210 => ?_) (fun c210 => ?_)
          · rw [if_neg c210] at hN
            refine lv_iload hx hb dL_acts_130 (lv_at hl 0 rfl) ?_
            refine lv_bipush (v := (-2)) hx hb dL_acts_132 (by decide) ?_
            refine lv_icmp_ne (tgt := 147) hx hb dL_acts_134 (by decide) (fun c211 => ?_) (fun c211 => ?_)
            · rw [if_neg c211] at hN
              refine lv_iload hx hb dL_acts_147 (lv_at hl 0 rfl) ?_
              refine lv_ldc (v := (-1000003)) hx hb hown (hts (.constant RL 67 (-1000003)) (List.mem_of_getElem? (i := 3) rfl)) dL_acts_149 ?_
              refine lv_icmp_ne (tgt := 165) hx hb dL_acts_151 (by decide) (fun c212 => ?_) (fun c212 => ?_)
              · rw [if_neg c212] at hN
                refine lv_iconst (v := 0) hx hb dL_acts_165 (by decide) ?_
                obtain ⟨hE, hE2⟩ := spair hN
                exact k_zretW hx hb hr (by decide) hE (hE2 ▸ hX) hP hS hlk dL_acts_166
              · rw [if_pos c212] at hN
                refine lv_iload hx hb dL_acts_154 (lv_at hl 2 rfl) ?_
                refine lv_bipush (v := 40) hx hb dL_acts_156 (by decide) ?_
                refine lv_icmp_ne (tgt := 165) hx hb dL_acts_158 (by decide) (fun c213 => ?_) (fun c213 => ?_)
                · rw [if_neg c213] at hN
                  refine lv_iconst (v := 0) hx hb dL_acts_165 (by decide) ?_
                  obtain ⟨hE, hE2⟩ := spair hN
                  exact k_zretW hx hb hr (by decide) hE (hE2 ▸ hX) hP hS hlk dL_acts_166
                · rw [if_pos c213] at hN
                  refine lv_iconst (v := 1) hx hb dL_acts_161 (by decide) ?_
                  refine lv_goto (tgt := 166) hx hb dL_acts_162 (by decide) ?_
                  obtain ⟨hE, hE2⟩ := spair hN
                  exact k_zretW hx hb hr (by decide) hE (hE2 ▸ hX) hP hS hlk dL_acts_166
            · rw [if_pos c211] at hN
              refine lv_aload_n hx hb dL_acts_137 rfl (lv_at hl 4 rfl) ?_
              refine lv_iconst (v := 0) hx hb dL_acts_138 (by decide) ?_
              obtain ⟨v214, hv214, hN⟩ := oB_spec hN
              refine k_iR hS (va_runV (As := [.int (0 : Int32)]) (rest := []) ⟨hx, hb, hml, hown, hts⟩ (c_X3_count l g L hL G173 ad (w172.1, w172.2.1, w172.2.2.1, w172.2.2.2.1, w172.2.2.2.2) hX (0 : Int32) v214 hv214) (cwV 1 hts gL_acts_X3_count rfl rfl rfl (by decide +kernel) ⟨Nat.le_of_ble_eq_true rfl, Nat.le_of_ble_eq_true rfl⟩) (k_preV (C := RX3) (T := TX3) (N := 3) hC hS hP (hX.m 0 (by omega)) hX.o0 rfl) rfl rfl hl.1 rfl (lv_room (Nat.le_of_ble_eq_true rfl)) dL_acts_139 ⟨Nat.zero_le _, Nat.zero_le _⟩) (fun H locs hP hS => ?_)
              refine lv_iload hx hb dL_acts_142 (lv_at hl 2 rfl) ?_
              refine lv_icmp_eq (tgt := 161) hx hb dL_acts_144 (by decide) (fun c216 => ?_) (fun c216 => ?_)
              · rw [if_pos c216] at hN
                refine lv_iconst (v := 1) hx hb dL_acts_161 (by decide) ?_
                refine lv_goto (tgt := 166) hx hb dL_acts_162 (by decide) ?_
                obtain ⟨hE, hE2⟩ := spair hN
                exact k_zretW hx hb hr (by decide) hE (hE2 ▸ hX) hP hS hlk dL_acts_166
              · rw [if_neg c216] at hN
                refine lv_iload hx hb dL_acts_147 (lv_at hl 0 rfl) ?_
                refine lv_ldc (v := (-1000003)) hx hb hown (hts (.constant RL 67 (-1000003)) (List.mem_of_getElem? (i := 3) rfl)) dL_acts_149 ?_
                refine lv_icmp_ne (tgt := 165) hx hb dL_acts_151 (by decide) (fun c217 => ?_) (fun c217 => ?_)
                · rw [if_neg c217] at hN
                  refine lv_iconst (v := 0) hx hb dL_acts_165 (by decide) ?_
                  obtain ⟨hE, hE2⟩ := spair hN
                  exact k_zretW hx hb hr (by decide) hE (hE2 ▸ hX) hP hS hlk dL_acts_166
                · rw [if_pos c217] at hN
                  refine lv_iload hx hb dL_acts_154 (lv_at hl 2 rfl) ?_
                  refine lv_bipush (v := 40) hx hb dL_acts_156 (by decide) ?_
                  refine lv_icmp_ne (tgt := 165) hx hb dL_acts_158 (by decide) (fun c218 => ?_) (fun c218 => ?_)
                  · rw [if_neg c218] at hN
                    refine lv_iconst (v := 0) hx hb dL_acts_165 (by decide) ?_
                    obtain ⟨hE, hE2⟩ := spair hN
                    exact k_zretW hx hb hr (by decide) hE (hE2 ▸ hX) hP hS hlk dL_acts_166
                  · rw [if_pos c218] at hN
                    refine lv_iconst (v := 1) hx hb dL_acts_161 (by decide) ?_
                    refine lv_goto (tgt := 166) hx hb dL_acts_162 (by decide) ?_
                    obtain ⟨hE, hE2⟩ := spair hN
                    exact k_zretW hx hb hr (by decide) hE (hE2 ▸ hX) hP hS hlk dL_acts_166
          · rw [if_pos c210] at hN
            refine lv_aload_n hx hb dL_acts_109 rfl (lv_at hl 4 rfl) ?_
            refine lv_iload hx hb dL_acts_110 (lv_at hl 1 rfl) ?_
            obtain ⟨v219, hv219, hN⟩ := oB_spec hN
            refine k_iR hS (va_runV (As := [.int ((((1 : Int32) <<< (v165 &&& 31)) ||| ((1 : Int32) <<< (v167 &&& 31))) ||| ((1 : Int32) <<< (v169 &&& 31)))]) (rest := []) ⟨hx, hb, hml, hown, hts⟩ (c_X3_share l g L hL G173 ad (w172.1, w172.2.1, w172.2.2.1, w172.2.2.2.1, w172.2.2.2.2) hX ((((1 : Int32) <<< (v165 &&& 31)) ||| ((1 : Int32) <<< (v167 &&& 31))) ||| ((1 : Int32) <<< (v169 &&& 31))) v219 hv219) (cwV 1 hts gL_acts_X3_share rfl rfl rfl (by decide +kernel) ⟨Nat.le_of_ble_eq_true rfl, Nat.le_of_ble_eq_true rfl⟩) (k_preV (C := RX3) (T := TX3) (N := 3) hC hS hP (hX.m 0 (by omega)) hX.o0 rfl) rfl rfl hl.1 rfl (lv_room (Nat.le_of_ble_eq_true rfl)) dL_acts_112 ⟨Nat.zero_le _, Nat.zero_le _⟩) (fun H locs hP hS => ?_)
            refine lv_ldc (v := 1065353216) hx hb hown (hts (.constant RL 76 (1065353216)) (List.mem_of_getElem? (i := 2) rfl)) dL_acts_115 ?_
            refine lv_icmp_ne (tgt := 130) hx hb dL_acts_117 (by decide) (fun c221 => ?_) (fun c221 => ?_)
            · rw [if_neg c221] at hN
              refine lv_iload hx hb dL_acts_130 (lv_at hl 0 rfl) ?_
              refine lv_bipush (v := (-2)) hx hb dL_acts_132 (by decide) ?_
              refine lv_icmp_ne (tgt := 147) hx hb dL_acts_134 (by decide) (fun c222 => ?_) (fun c222 => ?_)
              · rw [if_neg c222] at hN
                refine lv_iload hx hb dL_acts_147 (lv_at hl 0 rfl) ?_
                refine lv_ldc (v := (-1000003)) hx hb hown (hts (.constant RL 67 (-1000003)) (List.mem_of_getElem? (i := 3) rfl)) dL_acts_149 ?_
                refine lv_icmp_ne (tgt := 165) hx hb dL_acts_151 (by decide) (fun c223 => ?_) (fun c223 => ?_)
                · rw [if_neg c223] at hN
                  refine lv_iconst (v := 0) hx hb dL_acts_165 (by decide) ?_
                  obtain ⟨hE, hE2⟩ := spair hN
                  exact k_zretW hx hb hr (by decide) hE (hE2 ▸ hX) hP hS hlk dL_acts_166
                · rw [if_pos c223] at hN
                  refine lv_iload hx hb dL_acts_154 (lv_at hl 2 rfl) ?_
                  refine lv_bipush (v := 40) hx hb dL_acts_156 (by decide) ?_
                  refine lv_icmp_ne (tgt := 165) hx hb dL_acts_158 (by decide) (fun c224 => ?_) (fun c224 => ?_)
                  · rw [if_neg c224] at hN
                    refine lv_iconst (v := 0) hx hb dL_acts_165 (by decide) ?_
                    obtain ⟨hE, hE2⟩ := spair hN
                    exact k_zretW hx hb hr (by decide) hE (hE2 ▸ hX) hP hS hlk dL_acts_166
                  · rw [if_pos c224] at hN
                    refine lv_iconst (v := 1) hx hb dL_acts_161 (by decide) ?_
                    refine lv_goto (tgt := 166) hx hb dL_acts_162 (by decide) ?_
                    obtain ⟨hE, hE2⟩ := spair hN
                    exact k_zretW hx hb hr (by decide) hE (hE2 ▸ hX) hP hS hlk dL_acts_166
              · rw [if_pos c222] at hN
                refine lv_aload_n hx hb dL_acts_137 rfl (lv_at hl 4 rfl) ?_
                refine lv_iconst (v := 0) hx hb dL_acts_138 (by decide) ?_
                obtain ⟨v225, hv225, hN⟩ := oB_spec hN
                refine k_iR hS (va_runV (As := [.int (0 : Int32)]) (rest := []) ⟨hx, hb, hml, hown, hts⟩ (c_X3_count l g L hL G173 ad (w172.1, w172.2.1, w172.2.2.1, w172.2.2.2.1, w172.2.2.2.2) hX (0 : Int32) v225 hv225) (cwV 1 hts gL_acts_X3_count rfl rfl rfl (by decide +kernel) ⟨Nat.le_of_ble_eq_true rfl, Nat.le_of_ble_eq_true rfl⟩) (k_preV (C := RX3) (T := TX3) (N := 3) hC hS hP (hX.m 0 (by omega)) hX.o0 rfl) rfl rfl hl.1 rfl (lv_room (Nat.le_of_ble_eq_true rfl)) dL_acts_139 ⟨Nat.zero_le _, Nat.zero_le _⟩) (fun H locs hP hS => ?_)
                refine lv_iload hx hb dL_acts_142 (lv_at hl 2 rfl) ?_
                refine lv_icmp_eq (tgt := 161) hx hb dL_acts_144 (by decide) (fun c227 => ?_) (fun c227 => ?_)
                · rw [if_pos c227] at hN
                  refine lv_iconst (v := 1) hx hb dL_acts_161 (by decide) ?_
                  refine lv_goto (tgt := 166) hx hb dL_acts_162 (by decide) ?_
                  obtain ⟨hE, hE2⟩ := spair hN
                  exact k_zretW hx hb hr (by decide) hE (hE2 ▸ hX) hP hS hlk dL_acts_166
                · rw [if_neg c227] at hN
                  refine lv_iload hx hb dL_acts_147 (lv_at hl 0 rfl) ?_
                  refine lv_ldc (v := (-1000003)) hx hb hown (hts (.constant RL 67 (-1000003)) (List.mem_of_getElem? (i := 3) rfl)) dL_acts_149 ?_
                  refine lv_icmp_ne (tgt := 165) hx hb dL_acts_151 (by decide) (fun c228 => ?_) (fun c228 => ?_)
                  · rw [if_neg c228] at hN
                    refine lv_iconst (v := 0) hx hb dL_acts_165 (by decide) ?_
                    obtain ⟨hE, hE2⟩ := spair hN
                    exact k_zretW hx hb hr (by decide) hE (hE2 ▸ hX) hP hS hlk dL_acts_166
                  · rw [if_pos c228] at hN
                    refine lv_iload hx hb dL_acts_154 (lv_at hl 2 rfl) ?_
                    refine lv_bipush (v := 40) hx hb dL_acts_156 (by decide) ?_
                    refine lv_icmp_ne (tgt := 165) hx hb dL_acts_158 (by decide) (fun c229 => ?_) (fun c229 => ?_)
                    · rw [if_neg c229] at hN
                      refine lv_iconst (v := 0) hx hb dL_acts_165 (by decide) ?_
                      obtain ⟨hE, hE2⟩ := spair hN
                      exact k_zretW hx hb hr (by decide) hE (hE2 ▸ hX) hP hS hlk dL_acts_166
                    · rw [if_pos c229] at hN
                      refine lv_iconst (v := 1) hx hb dL_acts_161 (by decide) ?_
                      refine lv_goto (tgt := 166) hx hb dL_acts_162 (by decide) ?_
                      obtain ⟨hE, hE2⟩ := spair hN
                      exact k_zretW hx hb hr (by decide) hE (hE2 ▸ hX) hP hS hlk dL_acts_166
            · rw [if_pos c221] at hN
              refine lv_aload_n hx hb dL_acts_120 rfl (lv_at hl 4 rfl) ?_
              refine lv_iconst (v := 0) hx hb dL_acts_121 (by decide) ?_
              obtain ⟨v230, hv230, hN⟩ := oB_spec hN
              refine k_iR hS (va_runV (As := [.int (0 : Int32)]) (rest := []) ⟨hx, hb, hml, hown, hts⟩ (c_X3_count l g L hL G173 ad (w172.1, w172.2.1, w172.2.2.1, w172.2.2.2.1, w172.2.2.2.2) hX (0 : Int32) v230 hv230) (cwV 1 hts gL_acts_X3_count rfl rfl rfl (by decide +kernel) ⟨Nat.le_of_ble_eq_true rfl, Nat.le_of_ble_eq_true rfl⟩) (k_preV (C := RX3) (T := TX3) (N := 3) hC hS hP (hX.m 0 (by omega)) hX.o0 rfl) rfl rfl hl.1 rfl (lv_room (Nat.le_of_ble_eq_true rfl)) dL_acts_122 ⟨Nat.zero_le _, Nat.zero_le _⟩) (fun H locs hP hS => ?_)
              refine lv_iload hx hb dL_acts_125 (lv_at hl 2 rfl) ?_
              refine lv_icmp_eq (tgt := 161) hx hb dL_acts_127 (by decide) (fun c232 => ?_) (fun c232 => ?_)
              · rw [if_pos c232] at hN
                refine lv_iconst (v := 1) hx hb dL_acts_161 (by decide) ?_
                refine lv_goto (tgt := 166) hx hb dL_acts_162 (by decide) ?_
                obtain ⟨hE, hE2⟩ := spair hN
                exact k_zretW hx hb hr (by decide) hE (hE2 ▸ hX) hP hS hlk dL_acts_166
              · rw [if_neg c232] at hN
                refine lv_iload hx hb dL_acts_130 (lv_at hl 0 rfl) ?_
                refine lv_bipush (v := (-2)) hx hb dL_acts_132 (by decide) ?_
                refine lv_icmp_ne (tgt := 147) hx hb dL_acts_134 (by decide) (fun c233 => ?_) (fun c233 => ?_)
                · rw [if_neg c233] at hN
                  refine lv_iload hx hb dL_acts_147 (lv_at hl 0 rfl) ?_
                  refine lv_ldc (v := (-1000003)) hx hb hown (hts (.constant RL 67 (-1000003)) (List.mem_of_getElem? (i := 3) rfl)) dL_acts_149 ?_
                  refine lv_icmp_ne (tgt := 165) hx hb dL_acts_151 (by decide) (fun c234 => ?_) (fun c234 => ?_)
                  · rw [if_neg c234] at hN
                    refine lv_iconst (v := 0) hx hb dL_acts_165 (by decide) ?_
                    obtain ⟨hE, hE2⟩ := spair hN
                    exact k_zretW hx hb hr (by decide) hE (hE2 ▸ hX) hP hS hlk dL_acts_166
                  · rw [if_pos c234] at hN
                    refine lv_iload hx hb dL_acts_154 (lv_at hl 2 rfl) ?_
                    refine lv_bipush (v := 40) hx hb dL_acts_156 (by decide) ?_
                    refine lv_icmp_ne (tgt := 165) hx hb dL_acts_158 (by decide) (fun c235 => ?_) (fun c235 => ?_)
                    · rw [if_neg c235] at hN
                      refine lv_iconst (v := 0) hx hb dL_acts_165 (by decide) ?_
                      obtain ⟨hE, hE2⟩ := spair hN
                      exact k_zretW hx hb hr (by decide) hE (hE2 ▸ hX) hP hS hlk dL_acts_166
                    · rw [if_pos c235] at hN
                      refine lv_iconst (v := 1) hx hb dL_acts_161 (by decide) ?_
                      refine lv_goto (tgt := 166) hx hb dL_acts_162 (by decide) ?_
                      obtain ⟨hE, hE2⟩ := spair hN
                      exact k_zretW hx hb hr (by decide) hE (hE2 ▸ hX) hP hS hlk dL_acts_166
                · rw [if_pos c233] at hN
                  refine lv_aload_n hx hb dL_acts_137 rfl (lv_at hl 4 rfl) ?_
                  refine lv_iconst (v := 0) hx hb dL_acts_138 (by decide) ?_
                  obtain ⟨v236, hv236, hN⟩ := oB_spec hN
                  refine k_iR hS (va_runV (As := [.int (0 : Int32)]) (rest := []) ⟨hx, hb, hml, hown, hts⟩ (c_X3_count l g L hL G173 ad (w172.1, w172.2.1, w172.2.2.1, w172.2.2.2.1, w172.2.2.2.2) hX (0 : Int32) v236 hv236) (cwV 1 hts gL_acts_X3_count rfl rfl rfl (by decide +kernel) ⟨Nat.le_of_ble_eq_true rfl, Nat.le_of_ble_eq_true rfl⟩) (k_preV (C := RX3) (T := TX3) (N := 3) hC hS hP (hX.m 0 (by omega)) hX.o0 rfl) rfl rfl hl.1 rfl (lv_room (Nat.le_of_ble_eq_true rfl)) dL_acts_139 ⟨Nat.zero_le _, Nat.zero_le _⟩) (fun H locs hP hS => ?_)
                  refine lv_iload hx hb dL_acts_142 (lv_at hl 2 rfl) ?_
                  refine lv_icmp_eq (tgt := 161) hx hb dL_acts_144 (by decide) (fun c238 => ?_) (fun c238 => ?_)
                  · rw [if_pos c238] at hN
                    refine lv_iconst (v := 1) hx hb dL_acts_161 (by decide) ?_
                    refine lv_goto (tgt := 166) hx hb dL_acts_162 (by decide) ?_
                    obtain ⟨hE, hE2⟩ := spair hN
                    exact k_zretW hx hb hr (by decide) hE (hE2 ▸ hX) hP hS hlk dL_acts_166
                  · rw [if_neg c238] at hN
                    refine lv_iload hx hb dL_acts_147 (lv_at hl 0 rfl) ?_
                    refine lv_ldc (v := (-1000003)) hx hb hown (hts (.constant RL 67 (-1000003)) (List.mem_of_getElem? (i := 3) rfl)) dL_acts_149 ?_
                    refine lv_icmp_ne (tgt := 165) hx hb dL_acts_151 (by decide) (fun c239 => ?_) (fun c239 => ?_)
                    · rw [if_neg c239] at hN
                      refine lv_iconst (v := 0) hx hb dL_acts_165 (by decide) ?_
                      obtain ⟨hE, hE2⟩ := spair hN
                      exact k_zretW hx hb hr (by decide) hE (hE2 ▸ hX) hP hS hlk dL_acts_166
                    · rw [if_pos c239] at hN
                      refine lv_iload hx hb dL_acts_154 (lv_at hl 2 rfl) ?_
                      refine lv_bipush (v := 40) hx hb dL_acts_156 (by decide) ?_
                      refine lv_icmp_ne (tgt := 165) hx hb dL_acts_158 (by decide) (fun c240 => ?_) (fun c240 => ?_)
                      · rw [if_neg c240] at hN
                        refine lv_iconst (v := 0) hx hb dL_acts_165 (by decide) ?_
                        obtain ⟨hE, hE2⟩ := spair hN
                        exact k_zretW hx hb hr (by decide) hE (hE2 ▸ hX) hP hS hlk dL_acts_166
                      · rw [if_pos c240] at hN
                        refine lv_iconst (v := 1) hx hb dL_acts_161 (by decide) ?_
                        refine lv_goto (tgt := 166) hx hb dL_acts_162 (by decide) ?_
                        obtain ⟨hE, hE2⟩ := spair hN
                        exact k_zretW hx hb hr (by decide) hE (hE2 ▸ hX) hP hS hlk dL_acts_166
    · rw [if_neg c174] at hN
      refine lv_iload hx hb dL_acts_69 (lv_at hl 0 rfl) ?_
      refine lv_ldc (v := (-1000001)) hx hb hown (hts (.constant RL 72 (-1000001)) (List.mem_of_getElem? (i := 1) rfl)) dL_acts_71 ?_
      refine lv_icmp_ne (tgt := 80) hx hb dL_acts_73 (by decide) (fun c241 => ?_) (fun c241 => ?_)
      · rw [if_neg c241] at hN
        refine lv_iconst (v := 0) hx hb dL_acts_80 (by decide) ?_
        refine lv_goto (tgt := 166) hx hb dL_acts_81 (by decide) ?_
        obtain ⟨hE, hE2⟩ := spair hN
        exact k_zretW hx hb hr (by decide) hE (hE2 ▸ hX) hP hS hlk dL_acts_166
      · rw [if_pos c241] at hN
        refine lv_iconst (v := 1) hx hb dL_acts_76 (by decide) ?_
        refine lv_goto (tgt := 166) hx hb dL_acts_77 (by decide) ?_
        obtain ⟨hE, hE2⟩ := spair hN
        exact k_zretW hx hb hr (by decide) hE (hE2 ▸ hX) hP hS hlk dL_acts_166
