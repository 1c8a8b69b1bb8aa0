/-! Each method meets its partial function: printed by program (wip/whole/gen.py) -/
set_option maxHeartbeats 4000000 in
set_option maxRecDepth 100000 in
theorem c_X4_begins (l : Launch) (g : Gm) (L : List Nat) {A : Nat → Prop} (hL : kL L A) (G : Nat → va_E) (h0 : Nat) (r : Nat → Nat) (u : St) (hV : vM g L G h0 r u) (w : St) (hF : F_X4_begins u = some w) : Met l yX4_begins wsX4_begins ({ frames := 0, cells := 0, slots := 0, locals := 0 } : Room) (va_Pc [.ref h0] (kB g L A G)) (va_Qv (fun G9 : Nat → va_E => (vM g L G9 h0 r w ∧ frS h0 r 4 G G9)) (kE g L) A) 0 0 A := by
  refine Met.ofW (cc := cX4_begins) (maxL := 2) (ret := none) (by decide) rfl ?_
  intro p e s m args below meth c s₁ B hml hv
  obtain ⟨rfl, hP, hC⟩ := hv
  have hx := B.exec
  have hb := B.bytes
  have hr := B.returns
  have hts := atoms_spec (ws := wsX4_begins) B.pre
  have hown : s.vm.findClass RX4 = some m.cls := findClass_of_methodNamed B.named
  have hlk := B.notSynchronized
  have hS : va_S A s.heap s.heap [] := va_S.rf
  have hV0 := hV
  have hfr : frS h0 r 4 G G := frS.rf
  have lp2 : ∀ (n : Nat) (u : St) (x1 : Int32) (G1 : Nat → va_E) (H : Heap) (locs : List Loc) (ls : Array Slot), vM g L G1 h0 r u → frS h0 r 4 G G1 → va_P g.1 vwCl (va_pl L G1) H → va_S A s.heap H locs → lv_has ls 2 [(0, .ref h0), (1, .int x1)] → FL_X4_begins_2  n u x1 = some w → W p l e (headSpec wsX4_begins ({ frames := 0, cells := 0, slots := 0, locals := 0 } : Room)).room s m ([.ref h0] : List Value).toArray below meth c H locs 0 0 (MQ below (va_Qv (fun G9 : Nat → va_E => (vM g L G9 h0 r w ∧ frS h0 r 4 G G9)) (kE g L) A) ([.ref h0] : List Value).toArray s 0 0 A) (F0 m 2 ls []) := by
    intro n
    induction n with
    | zero =>
      intro u x1 G1 H locs ls hV hfr hP hS hl hN
      exact absurd hN (by simp [FL_X4_begins_2])
    | succ n ih =>
      intro u x1 G1 H locs ls hV hfr hP hS hl hN
      rw [FL_X4_begins_2] at hN
      refine lv_iload_n hx hb dX4_begins_2 rfl (lv_at hl 1 rfl) ?_
      refine lv_sipush (v := 251) hx hb dX4_begins_3 (by decide) ?_
      refine lv_icmp_ge (tgt := 27) hx hb dX4_begins_6 (by decide) (fun c1 => ?_) (fun c1 => ?_)
      · rw [if_pos c1] at hN
        have hE := Option.some.inj hN
        exact k_vretW hx hb hr ⟨hE ▸ hV, hfr⟩ hP hS hlk dX4_begins_27
      · rw [if_neg c1] at hN
        refine lv_aload_n hx hb dX4_begins_9 rfl (lv_at hl 0 rfl) ?_
        refine k_get (C := RX4) (T := TX4) (N := 8) (ci := 4) (v := .ref (r 1)) hx hb hts (fun _ h => List.mem_cons_of_mem _ (List.mem_append_right _ h)) hown hC hP (vO.m hV) (vO.o hV) rfl 1 (by decide) (hts (.fieldLink RX4 13 "OrderedClausesModel" "begun" "[I") (List.mem_of_getElem? (i := 1) rfl)) rfl dX4_begins_10 ?_
        refine lv_iload_n hx hb dX4_begins_13 rfl (lv_at hl 1 rfl) ?_
        refine lv_aload_n hx hb dX4_begins_14 rfl (lv_at hl 0 rfl) ?_
        refine k_get (C := RX4) (T := TX4) (N := 8) (ci := 4) (v := .ref (r 0)) hx hb hts (fun _ h => List.mem_cons_of_mem _ (List.mem_append_right _ h)) hown hC hP (vO.m hV) (vO.o hV) rfl 0 (by decide) (hts (.fieldLink RX4 7 "OrderedClausesModel" "s" "[I") (List.mem_of_getElem? (i := 2) rfl)) rfl dX4_begins_15 ?_
        refine lv_iload_n hx hb dX4_begins_18 rfl (lv_at hl 1 rfl) ?_
        obtain ⟨v2, hv2, hN⟩ := oB_spec hN
        refine k_ildE hx hb hC hP (vO.rm hV 0 (by decide)) (vO.ri hV 0 (by decide)) hv2 dX4_begins_19 ?_
        obtain ⟨y3, hy3, hN⟩ := oB_spec hN
        refine k_istE hx hb hL hC hP hS (vO.rm hV 1 (by decide)) (vO.ri hV 1 (by decide)) hy3 dX4_begins_20 (fun G4 H locs hq hP hS => ?_)
        have hV : vM g L G4 h0 r ((va_up u.1 1 y3), u.2.1, u.2.2) := by rw [hq]; exact vO.setI (f := u.1) (gg := u.2.1) (k := u.2.2) hV (by decide) 1 (by decide) _
        have hfr : frS h0 r 4 G G4 := by rw [hq]; exact vO.frI hfr 1 (by decide) _
        refine lv_iinc (v := (x1 + 1)) (lv' := [(1, .int (x1 + 1)), (0, .ref h0)]) hx hb dX4_begins_21 hl (k := 1) rfl rfl (by decide) rfl (fun ls hl => ?_)
        refine lv_goto (tgt := 2) hx hb dX4_begins_24 (by decide) ?_
        exact ih ((va_up u.1 1 y3), u.2.1, u.2.2) (x1 + 1)  _ _ _ _ hV hfr hP hS (lv_sub hl [1, 0] rfl) hN
  have hl := lv_entry ([.ref h0]) (n := 2) (Nat.le_of_ble_eq_true rfl)
  rw [lg_entry_eq]
  generalize (lg_sl ([.ref h0]) ++ List.replicate (2 - (lg_sl ([.ref h0])).length) Slot.unset).toArray = ls at hl ⊢
  have hl : lv_has ls 2 [(0, .ref h0)] := hl
  have hN := hF
  unfold F_X4_begins at hN
  refine lv_iconst (v := 0) hx hb dX4_begins_0 (by decide) ?_
  refine lv_istore_n (lv' := [(1, .int (0 : Int32)), (0, .ref h0)]) hx hb dX4_begins_1 rfl hl (by decide) rfl (fun ls hl => ?_)
  exact lp2 fuel (u.1, u.2.1, u.2.2) (0 : Int32)  _ _ _ _ hV hfr hP hS (lv_sub hl [1, 0] rfl) hN
set_option maxHeartbeats 4000000 in
set_option maxRecDepth 100000 in
theorem c_X4_returns (l : Launch) (g : Gm) (L : List Nat) {A : Nat → Prop} (hL : kL L A) (G : Nat → va_E) (h0 : Nat) (r : Nat → Nat) (u : St) (hV : vM g L G h0 r u) (w : St) (hF : F_X4_returns u = some w) : Met l yX4_returns wsX4_returns ({ frames := 0, cells := 0, slots := 0, locals := 0 } : Room) (va_Pc [.ref h0] (kB g L A G)) (va_Qv (fun G9 : Nat → va_E => (vM g L G9 h0 r w ∧ frS h0 r 4 G G9)) (kE g L) A) 0 0 A := by
  refine Met.ofW (cc := cX4_returns) (maxL := 2) (ret := none) (by decide) rfl ?_
  intro p e s m args below meth c s₁ B hml hv
  obtain ⟨rfl, hP, hC⟩ := hv
  have hx := B.exec
  have hb := B.bytes
  have hr := B.returns
  have hts := atoms_spec (ws := wsX4_returns) B.pre
  have hown : s.vm.findClass RX4 = some m.cls := findClass_of_methodNamed B.named
  have hlk := B.notSynchronized
  have hS : va_S A s.heap s.heap [] := va_S.rf
  have hV0 := hV
  have hfr : frS h0 r 4 G G := frS.rf
  have lp2 : ∀ (n : Nat) (u : St) (x1 : Int32) (G1 : Nat → va_E) (H : Heap) (locs : List Loc) (ls : Array Slot), vM g L G1 h0 r u → frS h0 r 4 G G1 → va_P g.1 vwCl (va_pl L G1) H → va_S A s.heap H locs → lv_has ls 2 [(0, .ref h0), (1, .int x1)] → FL_X4_returns_2  n u x1 = some w → W p l e (headSpec wsX4_returns ({ frames := 0, cells := 0, slots := 0, locals := 0 } : Room)).room s m ([.ref h0] : List Value).toArray below meth c H locs 0 0 (MQ below (va_Qv (fun G9 : Nat → va_E => (vM g L G9 h0 r w ∧ frS h0 r 4 G G9)) (kE g L) A) ([.ref h0] : List Value).toArray s 0 0 A) (F0 m 2 ls []) := by
    intro n
    induction n with
    | zero =>
      intro u x1 G1 H locs ls hV hfr hP hS hl hN
      exact absurd hN (by simp [FL_X4_returns_2])
    | succ n ih =>
      intro u x1 G1 H locs ls hV hfr hP hS hl hN
      rw [FL_X4_returns_2] at hN
      refine lv_iload_n hx hb dX4_returns_2 rfl (lv_at hl 1 rfl) ?_
      refine lv_sipush (v := 251) hx hb dX4_returns_3 (by decide) ?_
      refine lv_icmp_ge (tgt := 27) hx hb dX4_returns_6 (by decide) (fun c1 => ?_) (fun c1 => ?_)
      · rw [if_pos c1] at hN
        have hE := Option.some.inj hN
        exact k_vretW hx hb hr ⟨hE ▸ hV, hfr⟩ hP hS hlk dX4_returns_27
      · rw [if_neg c1] at hN
        refine lv_aload_n hx hb dX4_returns_9 rfl (lv_at hl 0 rfl) ?_
        refine k_get (C := RX4) (T := TX4) (N := 8) (ci := 4) (v := .ref (r 0)) hx hb hts (fun _ h => List.mem_cons_of_mem _ (List.mem_append_right _ h)) hown hC hP (vO.m hV) (vO.o hV) rfl 0 (by decide) (hts (.fieldLink RX4 7 "OrderedClausesModel" "s" "[I") (List.mem_of_getElem? (i := 1) rfl)) rfl dX4_returns_10 ?_
        refine lv_iload_n hx hb dX4_returns_13 rfl (lv_at hl 1 rfl) ?_
        refine lv_aload_n hx hb dX4_returns_14 rfl (lv_at hl 0 rfl) ?_
        refine k_get (C := RX4) (T := TX4) (N := 8) (ci := 4) (v := .ref (r 1)) hx hb hts (fun _ h => List.mem_cons_of_mem _ (List.mem_append_right _ h)) hown hC hP (vO.m hV) (vO.o hV) rfl 1 (by decide) (hts (.fieldLink RX4 13 "OrderedClausesModel" "begun" "[I") (List.mem_of_getElem? (i := 2) rfl)) rfl dX4_returns_15 ?_
        refine lv_iload_n hx hb dX4_returns_18 rfl (lv_at hl 1 rfl) ?_
        obtain ⟨v2, hv2, hN⟩ := oB_spec hN
        refine k_ildE hx hb hC hP (vO.rm hV 1 (by decide)) (vO.ri hV 1 (by decide)) hv2 dX4_returns_19 ?_
        obtain ⟨y3, hy3, hN⟩ := oB_spec hN
        refine k_istE hx hb hL hC hP hS (vO.rm hV 0 (by decide)) (vO.ri hV 0 (by decide)) hy3 dX4_returns_20 (fun G4 H locs hq hP hS => ?_)
        have hV : vM g L G4 h0 r ((va_up u.1 0 y3), u.2.1, u.2.2) := by rw [hq]; exact vO.setI (f := u.1) (gg := u.2.1) (k := u.2.2) hV (by decide) 0 (by decide) _
        have hfr : frS h0 r 4 G G4 := by rw [hq]; exact vO.frI hfr 0 (by decide) _
        refine lv_iinc (v := (x1 + 1)) (lv' := [(1, .int (x1 + 1)), (0, .ref h0)]) hx hb dX4_returns_21 hl (k := 1) rfl rfl (by decide) rfl (fun ls hl => ?_)
        refine lv_goto (tgt := 2) hx hb dX4_returns_24 (by decide) ?_
        exact ih ((va_up u.1 0 y3), u.2.1, u.2.2) (x1 + 1)  _ _ _ _ hV hfr hP hS (lv_sub hl [1, 0] rfl) hN
  have hl := lv_entry ([.ref h0]) (n := 2) (Nat.le_of_ble_eq_true rfl)
  rw [lg_entry_eq]
  generalize (lg_sl ([.ref h0]) ++ List.replicate (2 - (lg_sl ([.ref h0])).length) Slot.unset).toArray = ls at hl ⊢
  have hl : lv_has ls 2 [(0, .ref h0)] := hl
  have hN := hF
  unfold F_X4_returns at hN
  refine lv_iconst (v := 0) hx hb dX4_returns_0 (by decide) ?_
  refine lv_istore_n (lv' := [(1, .int (0 : Int32)), (0, .ref h0)]) hx hb dX4_returns_1 rfl hl (by decide) rfl (fun ls hl => ?_)
  exact lp2 fuel (u.1, u.2.1, u.2.2) (0 : Int32)  _ _ _ _ hV hfr hP hS (lv_sub hl [1, 0] rfl) hN
set_option maxHeartbeats 4000000 in
set_option maxRecDepth 100000 in
theorem c_X4_acted (l : Launch) (g : Gm) (L : List Nat) {A : Nat → Prop} (hL : kL L A) (G : Nat → va_E) (h0 : Nat) (r : Nat → Nat) (u : St) (hV : vM g L G h0 r u) (p0 : Int32) (v : Int32) (w : St) (hF : F_X4_acted u p0 = some (v, w)) : Met l yX4_acted wsX4_acted ({ frames := 1, cells := 0, slots := 0, locals := 21 } : Room) (va_Pc [.ref h0, .int p0] (kB g L A G)) (va_Qi (fun x (G9 : Nat → va_E) => x = v ∧ (vM g L G9 h0 r w ∧ frS h0 r 4 G G9)) (kE g L) A) 0 0 A := by
  refine Met.ofW (cc := cX4_acted) (maxL := 3) (ret := (some .int)) (by decide) rfl ?_
  intro p e s m args below meth c s₁ B hml hv
  obtain ⟨rfl, hP, hC⟩ := hv
  have hx := B.exec
  have hb := B.bytes
  have hr := B.returns
  have hts := atoms_spec (ws := wsX4_acted) B.pre
  have hown : s.vm.findClass RX4 = some m.cls := findClass_of_methodNamed B.named
  have hlk := B.notSynchronized
  have hS : va_S A s.heap s.heap [] := va_S.rf
  have hV0 := hV
  have hfr : frS h0 r 4 G G := frS.rf
  have lp63 : ∀ (n : Nat) (u : St) (x1 : Int32) (x2 : Int32) (G1 : Nat → va_E) (H : Heap) (locs : List Loc) (ls : Array Slot), vM g L G1 h0 r u → frS h0 r 4 G G1 → va_P g.1 vwCl (va_pl L G1) H → va_S A s.heap H locs → lv_has ls 3 [(0, .ref h0), (1, .int x1), (2, .int x2)] → FL_X4_acted_63  n u x1 x2 = some (v, w) → W p l e (headSpec wsX4_acted ({ frames := 1, cells := 0, slots := 0, locals := 21 } : Room)).room s m ([.ref h0, .int p0] : List Value).toArray below meth c H locs 0 0 (MQ below (va_Qi (fun x (G9 : Nat → va_E) => x = v ∧ (vM g L G9 h0 r w ∧ frS h0 r 4 G G9)) (kE g L) A) ([.ref h0, .int p0] : List Value).toArray s 0 0 A) (F0 m 63 ls []) := by
    intro n
    induction n with
    | zero =>
      intro u x1 x2 G1 H locs ls hV hfr hP hS hl hN
      exact absurd hN (by simp [FL_X4_acted_63])
    | succ n ih =>
      intro u x1 x2 G1 H locs ls hV hfr hP hS hl hN
      rw [FL_X4_acted_63] at hN
      refine lv_iload_n hx hb dX4_acted_63 rfl (lv_at hl 2 rfl) ?_
      refine lv_sipush (v := 251) hx hb dX4_acted_64 (by decide) ?_
      refine lv_icmp_ge (tgt := 97) hx hb dX4_acted_67 (by decide) (fun c3 => ?_) (fun c3 => ?_)
      · rw [if_pos c3] at hN
        refine lv_aload_n hx hb dX4_acted_97 rfl (lv_at hl 0 rfl) ?_
        refine lv_dup hx hb dX4_acted_98 rfl ?_
        refine k_get (C := RX4) (T := TX4) (N := 8) (ci := 4) (v := .int (u.2.2 0)) hx hb hts (fun _ h => List.mem_cons_of_mem _ (List.mem_append_right _ h)) hown hC hP (vO.m hV) (vO.o hV) rfl 3 (by decide) (hts (.fieldLink RX4 26 "OrderedClausesModel" "states" "I") (List.mem_of_getElem? (i := 2) rfl)) rfl dX4_acted_99 ?_
        refine lv_iconst (v := 1) hx hb dX4_acted_102 (by decide) ?_
        refine lv_iadd hx hb dX4_acted_103 ?_
        refine k_putE (C := RX4) (T := TX4) (N := 8) (ci := 4) hx hb hts (fun _ h => List.mem_cons_of_mem _ (List.mem_append_right _ h)) tyX4 tyX4_ok nmX4 hown hL hC hP hS (vO.m hV) (vO.o hV) rfl 3 (by decide) (hts (.fieldLink RX4 26 "OrderedClausesModel" "states" "I") (List.mem_of_getElem? (i := 2) rfl)) (by decide +kernel) (by decide +kernel) (Nat.le_of_ble_eq_true rfl) dX4_acted_104 (fun G4 H locs hq hP hS => ?_)
        have hV : vM g L G4 h0 r (u.1, u.2.1, (va_up u.2.2 0 ((u.2.2 0) + (1 : Int32)))) := by rw [hq]; exact vO.setK (f := u.1) (gg := u.2.1) (k := u.2.2) hV rfl
        have hfr : frS h0 r 4 G G4 := by rw [hq]; exact vO.frK hfr _
        refine lv_iload_n hx hb dX4_acted_107 rfl (lv_at hl 1 rfl) ?_
        obtain ⟨hE, hE2⟩ := spair hN
        exact k_iretW hx hb hr hE ⟨hE2 ▸ hV, hfr⟩ hP hS hlk dX4_acted_108
      · rw [if_neg c3] at hN
        refine lv_aload_n hx hb dX4_acted_70 rfl (lv_at hl 0 rfl) ?_
        refine k_get (C := RX4) (T := TX4) (N := 8) (ci := 4) (v := .ref (r 2)) hx hb hts (fun _ h => List.mem_cons_of_mem _ (List.mem_append_right _ h)) hown hC hP (vO.m hV) (vO.o hV) rfl 2 (by decide) (hts (.fieldLink RX4 16 "OrderedClausesModel" "past" "[I") (List.mem_of_getElem? (i := 3) rfl)) rfl dX4_acted_71 ?_
        refine lv_sipush (v := 251) hx hb dX4_acted_74 (by decide) ?_
        refine lv_aload_n hx hb dX4_acted_77 rfl (lv_at hl 0 rfl) ?_
        refine k_get (C := RX4) (T := TX4) (N := 8) (ci := 4) (v := .int (u.2.2 0)) hx hb hts (fun _ h => List.mem_cons_of_mem _ (List.mem_append_right _ h)) hown hC hP (vO.m hV) (vO.o hV) rfl 3 (by decide) (hts (.fieldLink RX4 26 "OrderedClausesModel" "states" "I") (List.mem_of_getElem? (i := 2) rfl)) rfl dX4_acted_78 ?_
        refine lv_imul hx hb dX4_acted_81 ?_
        refine lv_iload_n hx hb dX4_acted_82 rfl (lv_at hl 2 rfl) ?_
        refine lv_iadd hx hb dX4_acted_83 ?_
        refine lv_aload_n hx hb dX4_acted_84 rfl (lv_at hl 0 rfl) ?_
        refine k_get (C := RX4) (T := TX4) (N := 8) (ci := 4) (v := .ref (r 1)) hx hb hts (fun _ h => List.mem_cons_of_mem _ (List.mem_append_right _ h)) hown hC hP (vO.m hV) (vO.o hV) rfl 1 (by decide) (hts (.fieldLink RX4 13 "OrderedClausesModel" "begun" "[I") (List.mem_of_getElem? (i := 4) rfl)) rfl dX4_acted_85 ?_
        refine lv_iload_n hx hb dX4_acted_88 rfl (lv_at hl 2 rfl) ?_
        obtain ⟨v5, hv5, hN⟩ := oB_spec hN
        refine k_ildE hx hb hC hP (vO.rm hV 1 (by decide)) (vO.ri hV 1 (by decide)) hv5 dX4_acted_89 ?_
        obtain ⟨y6, hy6, hN⟩ := oB_spec hN
        refine k_istE hx hb hL hC hP hS (vO.rm hV 2 (by decide)) (vO.ri hV 2 (by decide)) hy6 dX4_acted_90 (fun G7 H locs hq hP hS => ?_)
        have hV : vM g L G7 h0 r ((va_up u.1 2 y6), u.2.1, u.2.2) := by rw [hq]; exact vO.setI (f := u.1) (gg := u.2.1) (k := u.2.2) hV (by decide) 2 (by decide) _
        have hfr : frS h0 r 4 G G7 := by rw [hq]; exact vO.frI hfr 2 (by decide) _
        refine lv_iinc (v := (x2 + 1)) (lv' := [(2, .int (x2 + 1)), (0, .ref h0), (1, .int x1)]) hx hb dX4_acted_91 hl (k := 2) rfl rfl (by decide) rfl (fun ls hl => ?_)
        refine lv_goto (tgt := 63) hx hb dX4_acted_94 (by decide) ?_
        exact ih ((va_up u.1 2 y6), u.2.1, u.2.2) x1 (x2 + 1)  _ _ _ _ hV hfr hP hS (lv_sub hl [1, 2, 0] rfl) hN
  have lp22 : ∀ (n : Nat) (u : St) (x1 : Int32) (x2 : Int32) (G1 : Nat → va_E) (H : Heap) (locs : List Loc) (ls : Array Slot), vM g L G1 h0 r u → frS h0 r 4 G G1 → va_P g.1 vwCl (va_pl L G1) H → va_S A s.heap H locs → lv_has ls 3 [(0, .ref h0), (1, .int x1), (2, .int x2)] → FL_X4_acted_22  n u x1 x2 = some (v, w) → W p l e (headSpec wsX4_acted ({ frames := 1, cells := 0, slots := 0, locals := 21 } : Room)).room s m ([.ref h0, .int p0] : List Value).toArray below meth c H locs 0 0 (MQ below (va_Qi (fun x (G9 : Nat → va_E) => x = v ∧ (vM g L G9 h0 r w ∧ frS h0 r 4 G G9)) (kE g L) A) ([.ref h0, .int p0] : List Value).toArray s 0 0 A) (F0 m 22 ls []) := by
    intro n
    induction n with
    | zero =>
      intro u x1 x2 G1 H locs ls hV hfr hP hS hl hN
      exact absurd hN (by simp [FL_X4_acted_22])
    | succ n ih =>
      intro u x1 x2 G1 H locs ls hV hfr hP hS hl hN
      rw [FL_X4_acted_22] at hN
      refine lv_iload_n hx hb dX4_acted_22 rfl (lv_at hl 2 rfl) ?_
      refine lv_sipush (v := 753) hx hb dX4_acted_23 (by decide) ?_
      refine lv_icmp_ge (tgt := 51) hx hb dX4_acted_26 (by decide) (fun c8 => ?_) (fun c8 => ?_)
      · rw [if_pos c8] at hN
        refine lv_aload_n hx hb dX4_acted_51 rfl (lv_at hl 0 rfl) ?_
        refine lv_dup hx hb dX4_acted_52 rfl ?_
        refine k_get (C := RX4) (T := TX4) (N := 8) (ci := 4) (v := .int (u.2.2 0)) hx hb hts (fun _ h => List.mem_cons_of_mem _ (List.mem_append_right _ h)) hown hC hP (vO.m hV) (vO.o hV) rfl 3 (by decide) (hts (.fieldLink RX4 26 "OrderedClausesModel" "states" "I") (List.mem_of_getElem? (i := 2) rfl)) rfl dX4_acted_53 ?_
        refine lv_iconst (v := 1) hx hb dX4_acted_56 (by decide) ?_
        refine lv_isub hx hb dX4_acted_57 ?_
        refine k_putE (C := RX4) (T := TX4) (N := 8) (ci := 4) hx hb hts (fun _ h => List.mem_cons_of_mem _ (List.mem_append_right _ h)) tyX4 tyX4_ok nmX4 hown hL hC hP hS (vO.m hV) (vO.o hV) rfl 3 (by decide) (hts (.fieldLink RX4 26 "OrderedClausesModel" "states" "I") (List.mem_of_getElem? (i := 2) rfl)) (by decide +kernel) (by decide +kernel) (Nat.le_of_ble_eq_true rfl) dX4_acted_58 (fun G9 H locs hq hP hS => ?_)
        have hV : vM g L G9 h0 r (u.1, u.2.1, (va_up u.2.2 0 ((u.2.2 0) - (1 : Int32)))) := by rw [hq]; exact vO.setK (f := u.1) (gg := u.2.1) (k := u.2.2) hV rfl
        have hfr : frS h0 r 4 G G9 := by rw [hq]; exact vO.frK hfr _
        refine lv_iconst (v := 0) hx hb dX4_acted_61 (by decide) ?_
        refine lv_istore_n (lv' := [(2, .int (0 : Int32)), (0, .ref h0), (1, .int x1)]) hx hb dX4_acted_62 rfl hl (by decide) rfl (fun ls hl => ?_)
        exact lp63 fuel (u.1, u.2.1, (va_up u.2.2 0 ((u.2.2 0) - (1 : Int32)))) x1 (0 : Int32)  _ _ _ _ hV hfr hP hS (lv_sub hl [1, 2, 0] rfl) hN
      · rw [if_neg c8] at hN
        refine lv_aload_n hx hb dX4_acted_29 rfl (lv_at hl 0 rfl) ?_
        refine k_get (C := RX4) (T := TX4) (N := 8) (ci := 4) (v := .ref (r 2)) hx hb hts (fun _ h => List.mem_cons_of_mem _ (List.mem_append_right _ h)) hown hC hP (vO.m hV) (vO.o hV) rfl 2 (by decide) (hts (.fieldLink RX4 16 "OrderedClausesModel" "past" "[I") (List.mem_of_getElem? (i := 3) rfl)) rfl dX4_acted_30 ?_
        refine lv_iload_n hx hb dX4_acted_33 rfl (lv_at hl 2 rfl) ?_
        refine lv_aload_n hx hb dX4_acted_34 rfl (lv_at hl 0 rfl) ?_
        refine k_get (C := RX4) (T := TX4) (N := 8) (ci := 4) (v := .ref (r 2)) hx hb hts (fun _ h => List.mem_cons_of_mem _ (List.mem_append_right _ h)) hown hC hP (vO.m hV) (vO.o hV) rfl 2 (by decide) (hts (.fieldLink RX4 16 "OrderedClausesModel" "past" "[I") (List.mem_of_getElem? (i := 3) rfl)) rfl dX4_acted_35 ?_
        refine lv_iload_n hx hb dX4_acted_38 rfl (lv_at hl 2 rfl) ?_
        refine lv_sipush (v := 251) hx hb dX4_acted_39 (by decide) ?_
        refine lv_iadd hx hb dX4_acted_42 ?_
        obtain ⟨v10, hv10, hN⟩ := oB_spec hN
        refine k_ildE hx hb hC hP (vO.rm hV 2 (by decide)) (vO.ri hV 2 (by decide)) hv10 dX4_acted_43 ?_
        obtain ⟨y11, hy11, hN⟩ := oB_spec hN
        refine k_istE hx hb hL hC hP hS (vO.rm hV 2 (by decide)) (vO.ri hV 2 (by decide)) hy11 dX4_acted_44 (fun G12 H locs hq hP hS => ?_)
        have hV : vM g L G12 h0 r ((va_up u.1 2 y11), u.2.1, u.2.2) := by rw [hq]; exact vO.setI (f := u.1) (gg := u.2.1) (k := u.2.2) hV (by decide) 2 (by decide) _
        have hfr : frS h0 r 4 G G12 := by rw [hq]; exact vO.frI hfr 2 (by decide) _
        refine lv_iinc (v := (x2 + 1)) (lv' := [(2, .int (x2 + 1)), (0, .ref h0), (1, .int x1)]) hx hb dX4_acted_45 hl (k := 2) rfl rfl (by decide) rfl (fun ls hl => ?_)
        refine lv_goto (tgt := 22) hx hb dX4_acted_48 (by decide) ?_
        exact ih ((va_up u.1 2 y11), u.2.1, u.2.2) x1 (x2 + 1)  _ _ _ _ hV hfr hP hS (lv_sub hl [1, 2, 0] rfl) hN
  have hl := lv_entry ([.ref h0, .int p0]) (n := 3) (Nat.le_of_ble_eq_true rfl)
  rw [lg_entry_eq]
  generalize (lg_sl ([.ref h0, .int p0]) ++ List.replicate (3 - (lg_sl ([.ref h0, .int p0])).length) Slot.unset).toArray = ls at hl ⊢
  have hl : lv_has ls 3 [(0, .ref h0), (1, .int p0)] := hl
  have hN := hF
  unfold F_X4_acted at hN
  refine lv_iload_n hx hb dX4_acted_0 rfl (lv_at hl 1 rfl) ?_
  refine lv_ldc (v := (-1000001)) hx hb hown (hts (.constant RX4 22 (-1000001)) (List.mem_of_getElem? (i := 1) rfl)) dX4_acted_1 ?_
  refine lv_icmp_gt (tgt := 12) hx hb dX4_acted_3 (by decide) (fun c1 => ?_) (fun c1 => ?_)
  · rw [if_pos c1] at hN
    refine lv_aload_n hx hb dX4_acted_12 rfl (lv_at hl 0 rfl) ?_
    refine k_get (C := RX4) (T := TX4) (N := 8) (ci := 4) (v := .int (u.2.2 0)) hx hb hts (fun _ h => List.mem_cons_of_mem _ (List.mem_append_right _ h)) hown hC hP (vO.m hV) (vO.o hV) rfl 3 (by decide) (hts (.fieldLink RX4 26 "OrderedClausesModel" "states" "I") (List.mem_of_getElem? (i := 2) rfl)) rfl dX4_acted_13 ?_
    refine lv_iconst (v := 4) hx hb dX4_acted_16 (by decide) ?_
    refine lv_icmp_ne (tgt := 61) hx hb dX4_acted_17 (by decide) (fun c2 => ?_) (fun c2 => ?_)
    · rw [if_neg c2] at hN
      refine lv_iconst (v := 0) hx hb dX4_acted_61 (by decide) ?_
      refine lv_istore_n (lv' := [(2, .int (0 : Int32)), (0, .ref h0), (1, .int p0)]) hx hb dX4_acted_62 rfl hl (by decide) rfl (fun ls hl => ?_)
      exact lp63 fuel (u.1, u.2.1, u.2.2) p0 (0 : Int32)  _ _ _ _ hV hfr hP hS (lv_sub hl [1, 2, 0] rfl) hN
    · rw [if_pos c2] at hN
      refine lv_iconst (v := 0) hx hb dX4_acted_20 (by decide) ?_
      refine lv_istore_n (lv' := [(2, .int (0 : Int32)), (0, .ref h0), (1, .int p0)]) hx hb dX4_acted_21 rfl hl (by decide) rfl (fun ls hl => ?_)
      exact lp22 fuel (u.1, u.2.1, u.2.2) p0 (0 : Int32)  _ _ _ _ hV hfr hP hS (lv_sub hl [1, 2, 0] rfl) hN
  · rw [if_neg c1] at hN
    refine lv_aload_n hx hb dX4_acted_6 rfl (lv_at hl 0 rfl) ?_
    obtain ⟨w14, hw14, hN⟩ := oB_spec hN
    refine k_v hS (va_runV (As := []) (rest := []) ⟨hx, hb, hml, hown, hts⟩ (c_X4_returns l g L hL G h0 r u hV w14 hw14) (cwV 0 hts gX4_acted_X4_returns rfl rfl rfl (by decide +kernel) ⟨Nat.le_of_ble_eq_true rfl, Nat.le_of_ble_eq_true rfl⟩) (k_preV hC hS hP (vO.m hV) (vO.o hV) rfl) rfl rfl hl.1 rfl (lv_room (Nat.le_of_ble_eq_true rfl)) dX4_acted_7 ⟨Nat.zero_le _, Nat.zero_le _⟩) (fun G15 H locs hq hP hS => ?_)
    obtain ⟨hV, hfq⟩ := hq
    have hfr := frS.tr hfr hfq
    refine lv_iload_n hx hb dX4_acted_10 rfl (lv_at hl 1 rfl) ?_
    obtain ⟨hE, hE2⟩ := spair hN
    exact k_iretW hx hb hr hE ⟨hE2 ▸ hV, hfr⟩ hP hS hlk dX4_acted_11
set_option maxHeartbeats 4000000 in
set_option maxRecDepth 100000 in
theorem c_X4_puts (l : Launch) (g : Gm) (L : List Nat) {A : Nat → Prop} (hL : kL L A) (G : Nat → va_E) (h0 : Nat) (r : Nat → Nat) (u : St) (hV : vM g L G h0 r u) (p0 : Int32) (p1 : Int32) (p2 : Int32) (w : St) (hF : F_X4_puts u p0 p1 p2 = some w) : Met l yX4_puts wsX4_puts ({ frames := 0, cells := 0, slots := 0, locals := 0 } : Room) (va_Pc [.ref h0, .int p0, .int p1, .int p2] (kB g L A G)) (va_Qv (fun G9 : Nat → va_E => (vM g L G9 h0 r w ∧ frS h0 r 4 G G9)) (kE g L) A) 0 0 A := by
  refine Met.ofW (cc := cX4_puts) (maxL := 4) (ret := none) (by decide) rfl ?_
  intro p e s m args below meth c s₁ B hml hv
  obtain ⟨rfl, hP, hC⟩ := hv
  have hx := B.exec
  have hb := B.bytes
  have hr := B.returns
  have hts := atoms_spec (ws := wsX4_puts) B.pre
  have hown : s.vm.findClass RX4 = some m.cls := findClass_of_methodNamed B.named
  have hlk := B.notSynchronized
  have hS : va_S A s.heap s.heap [] := va_S.rf
  have hV0 := hV
  have hfr : frS h0 r 4 G G := frS.rf
  have hl := lv_entry ([.ref h0, .int p0, .int p1, .int p2]) (n := 4) (Nat.le_of_ble_eq_true rfl)
  rw [lg_entry_eq]
  generalize (lg_sl ([.ref h0, .int p0, .int p1, .int p2]) ++ List.replicate (4 - (lg_sl ([.ref h0, .int p0, .int p1, .int p2])).length) Slot.unset).toArray = ls at hl ⊢
  have hl : lv_has ls 4 [(0, .ref h0), (1, .int p0), (2, .int p1), (3, .int p2)] := hl
  have hN := hF
  unfold F_X4_puts at hN
  refine lv_aload_n hx hb dX4_puts_0 rfl (lv_at hl 0 rfl) ?_
  refine k_get (C := RX4) (T := TX4) (N := 8) (ci := 4) (v := .ref (r 0)) hx hb hts (fun _ h => List.mem_cons_of_mem _ (List.mem_append_right _ h)) hown hC hP (vO.m hV) (vO.o hV) rfl 0 (by decide) (hts (.fieldLink RX4 7 "OrderedClausesModel" "s" "[I") (List.mem_of_getElem? (i := 1) rfl)) rfl dX4_puts_1 ?_
  refine lv_bipush (v := 11) hx hb dX4_puts_4 (by decide) ?_
  refine lv_bipush (v := 6) hx hb dX4_puts_6 (by decide) ?_
  refine lv_iload_n hx hb dX4_puts_8 rfl (lv_at hl 1 rfl) ?_
  refine lv_imul hx hb dX4_puts_9 ?_
  refine lv_iadd hx hb dX4_puts_10 ?_
  refine lv_iload_n hx hb dX4_puts_11 rfl (lv_at hl 2 rfl) ?_
  refine lv_iadd hx hb dX4_puts_12 ?_
  refine lv_iload_n hx hb dX4_puts_13 rfl (lv_at hl 3 rfl) ?_
  obtain ⟨y1, hy1, hN⟩ := oB_spec hN
  refine k_istE hx hb hL hC hP hS (vO.rm hV 0 (by decide)) (vO.ri hV 0 (by decide)) hy1 dX4_puts_14 (fun G2 H locs hq hP hS => ?_)
  have hV : vM g L G2 h0 r ((va_up u.1 0 y1), u.2.1, u.2.2) := by rw [hq]; exact vO.setI (f := u.1) (gg := u.2.1) (k := u.2.2) hV (by decide) 0 (by decide) _
  have hfr : frS h0 r 4 G G2 := by rw [hq]; exact vO.frI hfr 0 (by decide) _
  have hE := Option.some.inj hN
  exact k_vretW hx hb hr ⟨hE ▸ hV, hfr⟩ hP hS hlk dX4_puts_15
set_option maxHeartbeats 4000000 in
set_option maxRecDepth 100000 in
theorem c_X4_comes (l : Launch) (g : Gm) (L : List Nat) {A : Nat → Prop} (hL : kL L A) (G : Nat → va_E) (h0 : Nat) (r : Nat → Nat) (u : St) (hV : vM g L G h0 r u) (p0 : Int32) (p1 : Int32) (p2 : Int32) (p3 : Int32) (v : Int32) (w : St) (hF : F_X4_comes u p0 p1 p2 p3 = some (v, w)) : Met l yX4_comes wsX4_comes ({ frames := 3, cells := 0, slots := 0, locals := 66 } : Room) (va_Pc [.ref h0, .int p0, .int p1, .int p2, .int p3] (kB g L A G)) (va_Qi (fun x (G9 : Nat → va_E) => x = v ∧ (vM g L G9 h0 r w ∧ frS h0 r 4 G G9)) (kE g L) A) 0 0 A := by
  refine Met.ofW (cc := cX4_comes) (maxL := 8) (ret := (some .int)) (by decide) rfl ?_
  intro p e s m args below meth c s₁ B hml hv
  obtain ⟨rfl, hP, hC⟩ := hv
  have hx := B.exec
  have hb := B.bytes
  have hr := B.returns
  have hts := atoms_spec (ws := wsX4_comes) B.pre
  have hown : s.vm.findClass RX4 = some m.cls := findClass_of_methodNamed B.named
  have hlk := B.notSynchronized
  have hS : va_S A s.heap s.heap [] := va_S.rf
  have hV0 := hV
  have hfr : frS h0 r 4 G G := frS.rf
  have lp57 : ∀ (n : Nat) (u : St) (x1 : Int32) (x2 : Int32) (x3 : Int32) (x4 : Int32) (x5 : Int32) (G1 : Nat → va_E) (H : Heap) (locs : List Loc) (ls : Array Slot), vM g L G1 h0 r u → frS h0 r 4 G G1 → va_P g.1 vwCl (va_pl L G1) H → va_S A s.heap H locs → lv_has ls 8 [(0, .ref h0), (1, .int x1), (2, .int x2), (3, .int x3), (4, .int x4), (5, .int x5)] → FL_X4_comes_57  n u x1 x2 x3 x4 x5 = some (v, w) → W p l e (headSpec wsX4_comes ({ frames := 3, cells := 0, slots := 0, locals := 66 } : Room)).room s m ([.ref h0, .int p0, .int p1, .int p2, .int p3] : List Value).toArray below meth c H locs 0 0 (MQ below (va_Qi (fun x (G9 : Nat → va_E) => x = v ∧ (vM g L G9 h0 r w ∧ frS h0 r 4 G G9)) (kE g L) A) ([.ref h0, .int p0, .int p1, .int p2, .int p3] : List Value).toArray s 0 0 A) (F0 m 57 ls []) := by
    intro n
    induction n with
    | zero =>
      intro u x1 x2 x3 x4 x5 G1 H locs ls hV hfr hP hS hl hN
      exact absurd hN (by simp [FL_X4_comes_57])
    | succ n ih =>
      intro u x1 x2 x3 x4 x5 G1 H locs ls hV hfr hP hS hl hN
      rw [FL_X4_comes_57] at hN
      refine lv_iload hx hb dX4_comes_57 (lv_at hl 5 rfl) ?_
      refine lv_aload_n hx hb dX4_comes_59 rfl (lv_at hl 0 rfl) ?_
      refine k_get (C := RX4) (T := TX4) (N := 8) (ci := 4) (v := .ref (r 0)) hx hb hts (fun _ h => List.mem_cons_of_mem _ (List.mem_append_right _ h)) hown hC hP (vO.m hV) (vO.o hV) rfl 0 (by decide) (hts (.fieldLink RX4 7 "OrderedClausesModel" "s" "[I") (List.mem_of_getElem? (i := 1) rfl)) rfl dX4_comes_60 ?_
      refine lv_iconst (v := 0) hx hb dX4_comes_63 (by decide) ?_
      obtain ⟨v9, hv9, hN⟩ := oB_spec hN
      refine k_ildE hx hb hC hP (vO.rm hV 0 (by decide)) (vO.ri hV 0 (by decide)) hv9 dX4_comes_64 ?_
      refine lv_icmp_ge (tgt := 96) hx hb dX4_comes_65 (by decide) (fun c10 => ?_) (fun c10 => ?_)
      · rw [if_pos c10] at hN
        refine lv_aload_n hx hb dX4_comes_96 rfl (lv_at hl 0 rfl) ?_
        refine k_get (C := RX4) (T := TX4) (N := 8) (ci := 4) (v := .ref (r 0)) hx hb hts (fun _ h => List.mem_cons_of_mem _ (List.mem_append_right _ h)) hown hC hP (vO.m hV) (vO.o hV) rfl 0 (by decide) (hts (.fieldLink RX4 7 "OrderedClausesModel" "s" "[I") (List.mem_of_getElem? (i := 1) rfl)) rfl dX4_comes_97 ?_
        refine lv_iconst (v := 0) hx hb dX4_comes_100 (by decide) ?_
        obtain ⟨v11, hv11, hN⟩ := oB_spec hN
        refine k_ildE hx hb hC hP (vO.rm hV 0 (by decide)) (vO.ri hV 0 (by decide)) hv11 dX4_comes_101 ?_
        refine lv_istore (lv' := [(5, .int v11), (0, .ref h0), (1, .int x1), (2, .int x2), (3, .int x3), (4, .int x4)]) hx hb dX4_comes_102 hl (by decide) rfl (fun ls hl => ?_)
        refine lv_aload_n hx hb dX4_comes_104 rfl (lv_at hl 1 rfl) ?_
        refine k_get (C := RX4) (T := TX4) (N := 8) (ci := 4) (v := .ref (r 0)) hx hb hts (fun _ h => List.mem_cons_of_mem _ (List.mem_append_right _ h)) hown hC hP (vO.m hV) (vO.o hV) rfl 0 (by decide) (hts (.fieldLink RX4 7 "OrderedClausesModel" "s" "[I") (List.mem_of_getElem? (i := 1) rfl)) rfl dX4_comes_105 ?_
        refine lv_iconst (v := 0) hx hb dX4_comes_108 (by decide) ?_
        refine lv_dup2_11 hx hb dX4_comes_109 rfl rfl ?_
        obtain ⟨v12, hv12, hN⟩ := oB_spec hN
        refine k_ildE hx hb hC hP (vO.rm hV 0 (by decide)) (vO.ri hV 0 (by decide)) hv12 dX4_comes_110 ?_
        refine lv_iconst (v := 1) hx hb dX4_comes_111 (by decide) ?_
        refine lv_iadd hx hb dX4_comes_112 ?_
        obtain ⟨y13, hy13, hN⟩ := oB_spec hN
        refine k_istE hx hb hL hC hP hS (vO.rm hV 0 (by decide)) (vO.ri hV 0 (by decide)) hy13 dX4_comes_113 (fun G14 H locs hq hP hS => ?_)
        have hV : vM g L G14 h0 r ((va_up u.1 0 y13), u.2.1, u.2.2) := by rw [hq]; exact vO.setI (f := u.1) (gg := u.2.1) (k := u.2.2) hV (by decide) 0 (by decide) _
        have hfr : frS h0 r 4 G G14 := by rw [hq]; exact vO.frI hfr 0 (by decide) _
        refine lv_aload_n hx hb dX4_comes_114 rfl (lv_at hl 1 rfl) ?_
        refine lv_iload hx hb dX4_comes_115 (lv_at hl 0 rfl) ?_
        refine lv_iconst (v := 0) hx hb dX4_comes_117 (by decide) ?_
        refine lv_iload_n hx hb dX4_comes_118 rfl (lv_at hl 2 rfl) ?_
        obtain ⟨w16, hw16, hN⟩ := oB_spec hN
        refine k_v hS (va_runV (As := [.int v11, .int (0 : Int32), .int x1]) (rest := []) ⟨hx, hb, hml, hown, hts⟩ (c_X4_puts l g L hL G14 h0 r ((va_up u.1 0 y13), u.2.1, u.2.2) hV v11 (0 : Int32) x1 w16 hw16) (cwV 3 hts gX4_comes_X4_puts rfl rfl rfl (by decide +kernel) ⟨Nat.le_of_ble_eq_true rfl, Nat.le_of_ble_eq_true rfl⟩) (k_preV hC hS hP (vO.m hV) (vO.o hV) rfl) rfl rfl hl.1 rfl (lv_room (Nat.le_of_ble_eq_true rfl)) dX4_comes_119 ⟨Nat.zero_le _, Nat.zero_le _⟩) (fun G17 H locs hq hP hS => ?_)
        obtain ⟨hV, hfq⟩ := hq
        have hfr := frS.tr hfr hfq
        refine lv_aload_n hx hb dX4_comes_122 rfl (lv_at hl 1 rfl) ?_
        refine lv_iload hx hb dX4_comes_123 (lv_at hl 0 rfl) ?_
        refine lv_iconst (v := 1) hx hb dX4_comes_125 (by decide) ?_
        refine lv_iconst (v := 0) hx hb dX4_comes_126 (by decide) ?_
        obtain ⟨w19, hw19, hN⟩ := oB_spec hN
        refine k_v hS (va_runV (As := [.int v11, .int (1 : Int32), .int (0 : Int32)]) (rest := []) ⟨hx, hb, hml, hown, hts⟩ (c_X4_puts l g L hL G17 h0 r (w16.1, w16.2.1, w16.2.2) hV v11 (1 : Int32) (0 : Int32) w19 hw19) (cwV 3 hts gX4_comes_X4_puts rfl rfl rfl (by decide +kernel) ⟨Nat.le_of_ble_eq_true rfl, Nat.le_of_ble_eq_true rfl⟩) (k_preV hC hS hP (vO.m hV) (vO.o hV) rfl) rfl rfl hl.1 rfl (lv_room (Nat.le_of_ble_eq_true rfl)) dX4_comes_127 ⟨Nat.zero_le _, Nat.zero_le _⟩) (fun G20 H locs hq hP hS => ?_)
        obtain ⟨hV, hfq⟩ := hq
        have hfr := frS.tr hfr hfq
        refine lv_aload_n hx hb dX4_comes_130 rfl (lv_at hl 1 rfl) ?_
        refine lv_iload hx hb dX4_comes_131 (lv_at hl 0 rfl) ?_
        refine lv_iconst (v := 2) hx hb dX4_comes_133 (by decide) ?_
        refine lv_iload_n hx hb dX4_comes_134 rfl (lv_at hl 3 rfl) ?_
        refine lv_iconst (v := 1) hx hb dX4_comes_135 (by decide) ?_
        refine lv_iadd hx hb dX4_comes_136 ?_
        obtain ⟨w22, hw22, hN⟩ := oB_spec hN
        refine k_v hS (va_runV (As := [.int v11, .int (2 : Int32), .int (x2 + (1 : Int32))]) (rest := []) ⟨hx, hb, hml, hown, hts⟩ (c_X4_puts l g L hL G20 h0 r (w19.1, w19.2.1, w19.2.2) hV v11 (2 : Int32) (x2 + (1 : Int32)) w22 hw22) (cwV 3 hts gX4_comes_X4_puts rfl rfl rfl (by decide +kernel) ⟨Nat.le_of_ble_eq_true rfl, Nat.le_of_ble_eq_true rfl⟩) (k_preV hC hS hP (vO.m hV) (vO.o hV) rfl) rfl rfl hl.1 rfl (lv_room (Nat.le_of_ble_eq_true rfl)) dX4_comes_137 ⟨Nat.zero_le _, Nat.zero_le _⟩) (fun G23 H locs hq hP hS => ?_)
        obtain ⟨hV, hfq⟩ := hq
        have hfr := frS.tr hfr hfq
        refine lv_aload_n hx hb dX4_comes_140 rfl (lv_at hl 1 rfl) ?_
        refine lv_iload hx hb dX4_comes_141 (lv_at hl 0 rfl) ?_
        refine lv_iconst (v := 3) hx hb dX4_comes_143 (by decide) ?_
        refine lv_iload_n hx hb dX4_comes_144 rfl (lv_at hl 4 rfl) ?_
        refine lv_iconst (v := 1) hx hb dX4_comes_145 (by decide) ?_
        refine lv_iadd hx hb dX4_comes_146 ?_
        obtain ⟨w25, hw25, hN⟩ := oB_spec hN
        refine k_v hS (va_runV (As := [.int v11, .int (3 : Int32), .int (x3 + (1 : Int32))]) (rest := []) ⟨hx, hb, hml, hown, hts⟩ (c_X4_puts l g L hL G23 h0 r (w22.1, w22.2.1, w22.2.2) hV v11 (3 : Int32) (x3 + (1 : Int32)) w25 hw25) (cwV 3 hts gX4_comes_X4_puts rfl rfl rfl (by decide +kernel) ⟨Nat.le_of_ble_eq_true rfl, Nat.le_of_ble_eq_true rfl⟩) (k_preV hC hS hP (vO.m hV) (vO.o hV) rfl) rfl rfl hl.1 rfl (lv_room (Nat.le_of_ble_eq_true rfl)) dX4_comes_147 ⟨Nat.zero_le _, Nat.zero_le _⟩) (fun G26 H locs hq hP hS => ?_)
        obtain ⟨hV, hfq⟩ := hq
        have hfr := frS.tr hfr hfq
        refine lv_aload_n hx hb dX4_comes_150 rfl (lv_at hl 1 rfl) ?_
        refine lv_iload hx hb dX4_comes_151 (lv_at hl 0 rfl) ?_
        refine lv_iconst (v := 4) hx hb dX4_comes_153 (by decide) ?_
        refine lv_iload hx hb dX4_comes_154 (lv_at hl 5 rfl) ?_
        obtain ⟨w28, hw28, hN⟩ := oB_spec hN
        refine k_v hS (va_runV (As := [.int v11, .int (4 : Int32), .int x4]) (rest := []) ⟨hx, hb, hml, hown, hts⟩ (c_X4_puts l g L hL G26 h0 r (w25.1, w25.2.1, w25.2.2) hV v11 (4 : Int32) x4 w28 hw28) (cwV 3 hts gX4_comes_X4_puts rfl rfl rfl (by decide +kernel) ⟨Nat.le_of_ble_eq_true rfl, Nat.le_of_ble_eq_true rfl⟩) (k_preV hC hS hP (vO.m hV) (vO.o hV) rfl) rfl rfl hl.1 rfl (lv_room (Nat.le_of_ble_eq_true rfl)) dX4_comes_156 ⟨Nat.zero_le _, Nat.zero_le _⟩) (fun G29 H locs hq hP hS => ?_)
        obtain ⟨hV, hfq⟩ := hq
        have hfr := frS.tr hfr hfq
        refine lv_aload_n hx hb dX4_comes_159 rfl (lv_at hl 1 rfl) ?_
        refine lv_iload hx hb dX4_comes_160 (lv_at hl 0 rfl) ?_
        refine lv_iconst (v := 5) hx hb dX4_comes_162 (by decide) ?_
        refine lv_iconst (v := 0) hx hb dX4_comes_163 (by decide) ?_
        obtain ⟨w31, hw31, hN⟩ := oB_spec hN
        refine k_v hS (va_runV (As := [.int v11, .int (5 : Int32), .int (0 : Int32)]) (rest := []) ⟨hx, hb, hml, hown, hts⟩ (c_X4_puts l g L hL G29 h0 r (w28.1, w28.2.1, w28.2.2) hV v11 (5 : Int32) (0 : Int32) w31 hw31) (cwV 3 hts gX4_comes_X4_puts rfl rfl rfl (by decide +kernel) ⟨Nat.le_of_ble_eq_true rfl, Nat.le_of_ble_eq_true rfl⟩) (k_preV hC hS hP (vO.m hV) (vO.o hV) rfl) rfl rfl hl.1 rfl (lv_room (Nat.le_of_ble_eq_true rfl)) dX4_comes_164 ⟨Nat.zero_le _, Nat.zero_le _⟩) (fun G32 H locs hq hP hS => ?_)
        obtain ⟨hV, hfq⟩ := hq
        have hfr := frS.tr hfr hfq
        refine lv_iload_n hx hb dX4_comes_167 rfl (lv_at hl 3 rfl) ?_
        refine lv_if_lt (tgt := 210) hx hb dX4_comes_168 (by decide) (fun c33 => ?_) (fun c33 => ?_)
        · rw [if_pos c33] at hN
          refine lv_iload hx hb dX4_comes_210 (lv_at hl 0 rfl) ?_
          obtain ⟨hE, hE2⟩ := spair hN
          exact k_iretW hx hb hr hE ⟨hE2 ▸ hV, hfr⟩ hP hS hlk dX4_comes_212
        · rw [if_neg c33] at hN
          refine lv_aload_n hx hb dX4_comes_171 rfl (lv_at hl 1 rfl) ?_
          refine lv_iload_n hx hb dX4_comes_172 rfl (lv_at hl 3 rfl) ?_
          refine lv_iconst (v := 5) hx hb dX4_comes_173 (by decide) ?_
          obtain ⟨v34, hv34, hN⟩ := oB_spec hN
          refine k_iR hS (va_runV (As := [.int x2, .int (5 : Int32)]) (rest := []) ⟨hx, hb, hml, hown, hts⟩ (c_X4_of l g L hL G32 h0 r (w31.1, w31.2.1, w31.2.2) hV x2 (5 : Int32) v34 hv34) (cwV 2 hts gX4_comes_X4_of rfl rfl rfl (by decide +kernel) ⟨Nat.le_of_ble_eq_true rfl, Nat.le_of_ble_eq_true rfl⟩) (k_preV hC hS hP (vO.m hV) (vO.o hV) rfl) rfl rfl hl.1 rfl (lv_room (Nat.le_of_ble_eq_true rfl)) dX4_comes_174 ⟨Nat.zero_le _, Nat.zero_le _⟩) (fun H locs hP hS => ?_)
          refine lv_istore (lv' := [(6, .int v34), (5, .int v11), (0, .ref h0), (1, .int x1), (2, .int x2), (3, .int x3), (4, .int x4)]) hx hb dX4_comes_177 hl (by decide) rfl (fun ls hl => ?_)
          refine lv_aload_n hx hb dX4_comes_179 rfl (lv_at hl 2 rfl) ?_
          refine lv_iload_n hx hb dX4_comes_180 rfl (lv_at hl 5 rfl) ?_
          refine lv_iconst (v := 5) hx hb dX4_comes_181 (by decide) ?_
          obtain ⟨v36, hv36, hN⟩ := oB_spec hN
          refine k_iR hS (va_runV (As := [.int x3, .int (5 : Int32)]) (rest := []) ⟨hx, hb, hml, hown, hts⟩ (c_X4_of l g L hL G32 h0 r (w31.1, w31.2.1, w31.2.2) hV x3 (5 : Int32) v36 hv36) (cwV 2 hts gX4_comes_X4_of rfl rfl rfl (by decide +kernel) ⟨Nat.le_of_ble_eq_true rfl, Nat.le_of_ble_eq_true rfl⟩) (k_preV hC hS hP (vO.m hV) (vO.o hV) rfl) rfl rfl hl.1 rfl (lv_room (Nat.le_of_ble_eq_true rfl)) dX4_comes_182 ⟨Nat.zero_le _, Nat.zero_le _⟩) (fun H locs hP hS => ?_)
          refine lv_istore (lv' := [(7, .int v36), (6, .int v34), (5, .int v11), (0, .ref h0), (1, .int x1), (2, .int x2), (3, .int x3), (4, .int x4)]) hx hb dX4_comes_185 hl (by decide) rfl (fun ls hl => ?_)
          refine lv_aload_n hx hb dX4_comes_187 rfl (lv_at hl 3 rfl) ?_
          refine lv_iload hx hb dX4_comes_188 (lv_at hl 2 rfl) ?_
          refine lv_iconst (v := 5) hx hb dX4_comes_190 (by decide) ?_
          refine lv_iload hx hb dX4_comes_191 (lv_at hl 1 rfl) ?_
          refine lv_iload hx hb dX4_comes_193 (lv_at hl 0 rfl) ?_
          refine lv_icmp_le (tgt := 203) hx hb dX4_comes_195 (by decide) (fun c38 => ?_) (fun c38 => ?_)
          · rw [if_pos c38] at hN
            refine lv_iload hx hb dX4_comes_203 (lv_at hl 0 rfl) ?_
            refine lv_iconst (v := 1) hx hb dX4_comes_205 (by decide) ?_
            refine lv_iadd hx hb dX4_comes_206 ?_
            obtain ⟨w40, hw40, hN⟩ := oB_spec hN
            refine k_v hS (va_runV (As := [.int v11, .int (5 : Int32), .int (v36 + (1 : Int32))]) (rest := []) ⟨hx, hb, hml, hown, hts⟩ (c_X4_puts l g L hL G32 h0 r (w31.1, w31.2.1, w31.2.2) hV v11 (5 : Int32) (v36 + (1 : Int32)) w40 hw40) (cwV 3 hts gX4_comes_X4_puts rfl rfl rfl (by decide +kernel) ⟨Nat.le_of_ble_eq_true rfl, Nat.le_of_ble_eq_true rfl⟩) (k_preV hC hS hP (vO.m hV) (vO.o hV) rfl) rfl rfl hl.1 rfl (lv_room (Nat.le_of_ble_eq_true rfl)) dX4_comes_207 ⟨Nat.zero_le _, Nat.zero_le _⟩) (fun G41 H locs hq hP hS => ?_)
            obtain ⟨hV, hfq⟩ := hq
            have hfr := frS.tr hfr hfq
            refine lv_iload hx hb dX4_comes_210 (lv_at hl 2 rfl) ?_
            obtain ⟨hE, hE2⟩ := spair hN
            exact k_iretW hx hb hr hE ⟨hE2 ▸ hV, hfr⟩ hP hS hlk dX4_comes_212
          · rw [if_neg c38] at hN
            refine lv_iload hx hb dX4_comes_198 (lv_at hl 1 rfl) ?_
            refine lv_goto (tgt := 205) hx hb dX4_comes_200 (by decide) ?_
            refine lv_iconst (v := 1) hx hb dX4_comes_205 (by decide) ?_
            refine lv_iadd hx hb dX4_comes_206 ?_
            obtain ⟨w43, hw43, hN⟩ := oB_spec hN
            refine k_v hS (va_runV (As := [.int v11, .int (5 : Int32), .int (v34 + (1 : Int32))]) (rest := []) ⟨hx, hb, hml, hown, hts⟩ (c_X4_puts l g L hL G32 h0 r (w31.1, w31.2.1, w31.2.2) hV v11 (5 : Int32) (v34 + (1 : Int32)) w43 hw43) (cwV 3 hts gX4_comes_X4_puts rfl rfl rfl (by decide +kernel) ⟨Nat.le_of_ble_eq_true rfl, Nat.le_of_ble_eq_true rfl⟩) (k_preV hC hS hP (vO.m hV) (vO.o hV) rfl) rfl rfl hl.1 rfl (lv_room (Nat.le_of_ble_eq_true rfl)) dX4_comes_207 ⟨Nat.zero_le _, Nat.zero_le _⟩) (fun G44 H locs hq hP hS => ?_)
            obtain ⟨hV, hfq⟩ := hq
            have hfr := frS.tr hfr hfq
            refine lv_iload hx hb dX4_comes_210 (lv_at hl 2 rfl) ?_
            obtain ⟨hE, hE2⟩ := spair hN
            exact k_iretW hx hb hr hE ⟨hE2 ▸ hV, hfr⟩ hP hS hlk dX4_comes_212
      · rw [if_neg c10] at hN
        refine lv_iload_n hx hb dX4_comes_68 rfl (lv_at hl 1 rfl) ?_
        refine lv_aload_n hx hb dX4_comes_69 rfl (lv_at hl 0 rfl) ?_
        refine lv_iload hx hb dX4_comes_70 (lv_at hl 5 rfl) ?_
        refine lv_iconst (v := 0) hx hb dX4_comes_72 (by decide) ?_
        obtain ⟨v45, hv45, hN⟩ := oB_spec hN
        refine k_iR hS (va_runV (As := [.int x5, .int (0 : Int32)]) (rest := [.int x1]) ⟨hx, hb, hml, hown, hts⟩ (c_X4_of l g L hL G1 h0 r u hV x5 (0 : Int32) v45 hv45) (cwV 2 hts gX4_comes_X4_of rfl rfl rfl (by decide +kernel) ⟨Nat.le_of_ble_eq_true rfl, Nat.le_of_ble_eq_true rfl⟩) (k_preV hC hS hP (vO.m hV) (vO.o hV) rfl) rfl rfl hl.1 rfl (lv_room (Nat.le_of_ble_eq_true rfl)) dX4_comes_73 ⟨Nat.zero_le _, Nat.zero_le _⟩) (fun H locs hP hS => ?_)
        refine lv_iconst (v := (-1)) hx hb dX4_comes_76 (by decide) ?_
        refine lv_ixor hx hb dX4_comes_77 ?_
        refine lv_iand hx hb dX4_comes_78 ?_
        refine lv_if_ne (tgt := 90) hx hb dX4_comes_79 (by decide) (fun c47 => ?_) (fun c47 => ?_)
        · rw [if_neg c47] at hN
          refine lv_iinc (v := (x5 + 1)) (lv' := [(5, .int (x5 + 1)), (0, .ref h0), (1, .int x1), (2, .int x2), (3, .int x3), (4, .int x4)]) hx hb dX4_comes_90 hl (k := 5) rfl rfl (by decide) rfl (fun ls hl => ?_)
          refine lv_goto (tgt := 57) hx hb dX4_comes_93 (by decide) ?_
          exact ih (u.1, u.2.1, u.2.2) x1 x2 x3 x4 (x5 + 1)  _ _ _ _ hV hfr hP hS (lv_sub hl [1, 2, 3, 4, 5, 0] rfl) hN
        · rw [if_pos c47] at hN
          refine lv_aload_n hx hb dX4_comes_82 rfl (lv_at hl 0 rfl) ?_
          refine lv_iload hx hb dX4_comes_83 (lv_at hl 5 rfl) ?_
          refine lv_iconst (v := 1) hx hb dX4_comes_85 (by decide) ?_
          refine lv_iconst (v := 2) hx hb dX4_comes_86 (by decide) ?_
          obtain ⟨w49, hw49, hN⟩ := oB_spec hN
          refine k_v hS (va_runV (As := [.int x5, .int (1 : Int32), .int (2 : Int32)]) (rest := []) ⟨hx, hb, hml, hown, hts⟩ (c_X4_puts l g L hL G1 h0 r u hV x5 (1 : Int32) (2 : Int32) w49 hw49) (cwV 3 hts gX4_comes_X4_puts rfl rfl rfl (by decide +kernel) ⟨Nat.le_of_ble_eq_true rfl, Nat.le_of_ble_eq_true rfl⟩) (k_preV hC hS hP (vO.m hV) (vO.o hV) rfl) rfl rfl hl.1 rfl (lv_room (Nat.le_of_ble_eq_true rfl)) dX4_comes_87 ⟨Nat.zero_le _, Nat.zero_le _⟩) (fun G50 H locs hq hP hS => ?_)
          obtain ⟨hV, hfq⟩ := hq
          have hfr := frS.tr hfr hfq
          refine lv_iinc (v := (x5 + 1)) (lv' := [(5, .int (x5 + 1)), (0, .ref h0), (1, .int x1), (2, .int x2), (3, .int x3), (4, .int x4)]) hx hb dX4_comes_90 hl (k := 5) rfl rfl (by decide) rfl (fun ls hl => ?_)
          refine lv_goto (tgt := 57) hx hb dX4_comes_93 (by decide) ?_
          exact ih (w49.1, w49.2.1, w49.2.2) x1 x2 x3 x4 (x5 + 1)  _ _ _ _ hV hfr hP hS (lv_sub hl [1, 2, 3, 4, 5, 0] rfl) hN
  have hl := lv_entry ([.ref h0, .int p0, .int p1, .int p2, .int p3]) (n := 8) (Nat.le_of_ble_eq_true rfl)
  rw [lg_entry_eq]
  generalize (lg_sl ([.ref h0, .int p0, .int p1, .int p2, .int p3]) ++ List.replicate (8 - (lg_sl ([.ref h0, .int p0, .int p1, .int p2, .int p3])).length) Slot.unset).toArray = ls at hl ⊢
  have hl : lv_has ls 8 [(0, .ref h0), (1, .int p0), (2, .int p1), (3, .int p2), (4, .int p3)] := hl
  have hN := hF
  unfold F_X4_comes at hN
  refine lv_iload_n hx hb dX4_comes_0 rfl (lv_at hl 1 rfl) ?_
  obtain ⟨v1, hv1, hN⟩ := oB_spec hN
  refine k_iR hS (va_runS (As := [.int p0]) (rest := []) ⟨hx, hb, hml, hown, hts⟩ (c_X4_holdsAlways l g L hL G p0 v1 hv1) (va_cwS 1 hts gX4_comes_X4_holdsAlways rfl rfl rfl (by decide +kernel) ⟨Nat.le_of_ble_eq_true rfl, Nat.le_of_ble_eq_true rfl⟩) (k_pre hC hS hP) rfl rfl hl.1 rfl (lv_room (Nat.le_of_ble_eq_true rfl)) dX4_comes_1 ⟨Nat.zero_le _, Nat.zero_le _⟩) (fun H locs hP hS => ?_)
  refine lv_if_eq (tgt := 19) hx hb dX4_comes_4 (by decide) (fun c3 => ?_) (fun c3 => ?_)
  · rw [if_pos c3] at hN
    refine lv_aload_n hx hb dX4_comes_19 rfl (lv_at hl 0 rfl) ?_
    refine lv_iload_n hx hb dX4_comes_20 rfl (lv_at hl 1 rfl) ?_
    obtain ⟨v4, hv4, hN⟩ := oB_spec hN
    refine k_iR hS (va_runV (As := [.int p0]) (rest := []) ⟨hx, hb, hml, hown, hts⟩ (c_X4_hasWithin l g L hL G h0 r u hV p0 v4 hv4) (cwV 1 hts gX4_comes_X4_hasWithin rfl rfl rfl (by decide +kernel) ⟨Nat.le_of_ble_eq_true rfl, Nat.le_of_ble_eq_true rfl⟩) (k_preV hC hS hP (vO.m hV) (vO.o hV) rfl) rfl rfl hl.1 rfl (lv_room (Nat.le_of_ble_eq_true rfl)) dX4_comes_21 ⟨Nat.zero_le _, Nat.zero_le _⟩) (fun H locs hP hS => ?_)
    refine lv_if_eq (tgt := 40) hx hb dX4_comes_24 (by decide) (fun c6 => ?_) (fun c6 => ?_)
    · rw [if_pos c6] at hN
      refine lv_aload_n hx hb dX4_comes_40 rfl (lv_at hl 0 rfl) ?_
      refine k_get (C := RX4) (T := TX4) (N := 8) (ci := 4) (v := .ref (r 0)) hx hb hts (fun _ h => List.mem_cons_of_mem _ (List.mem_append_right _ h)) hown hC hP (vO.m hV) (vO.o hV) rfl 0 (by decide) (hts (.fieldLink RX4 7 "OrderedClausesModel" "s" "[I") (List.mem_of_getElem? (i := 1) rfl)) rfl dX4_comes_41 ?_
      refine lv_iconst (v := 0) hx hb dX4_comes_44 (by decide) ?_
      obtain ⟨v7, hv7, hN⟩ := oB_spec hN
      refine k_ildE hx hb hC hP (vO.rm hV 0 (by decide)) (vO.ri hV 0 (by decide)) hv7 dX4_comes_45 ?_
      refine lv_bipush (v := 40) hx hb dX4_comes_46 (by decide) ?_
      refine lv_icmp_ne (tgt := 54) hx hb dX4_comes_48 (by decide) (fun c8 => ?_) (fun c8 => ?_)
      · rw [if_neg c8] at hN
        refine lv_iconst (v := 0) hx hb dX4_comes_54 (by decide) ?_
        refine lv_istore (lv' := [(5, .int (0 : Int32)), (0, .ref h0), (1, .int p0), (2, .int p1), (3, .int p2), (4, .int p3)]) hx hb dX4_comes_55 hl (by decide) rfl (fun ls hl => ?_)
        exact lp57 fuel (u.1, u.2.1, u.2.2) p0 p1 p2 p3 (0 : Int32)  _ _ _ _ hV hfr hP hS (lv_sub hl [1, 2, 3, 4, 5, 0] rfl) hN
      · rw [if_pos c8] at hN
        refine lv_ldc (v := (-1000003)) hx hb hown (hts (.constant RX4 59 (-1000003)) (List.mem_of_getElem? (i := 2) rfl)) dX4_comes_51 ?_
        obtain ⟨hE, hE2⟩ := spair hN
        exact k_iretW hx hb hr hE ⟨hE2 ▸ hV, hfr⟩ hP hS hlk dX4_comes_53
    · rw [if_neg c6] at hN
      refine lv_aload_n hx hb dX4_comes_27 rfl (lv_at hl 0 rfl) ?_
      refine k_get (C := RX4) (T := TX4) (N := 8) (ci := 4) (v := .ref (r 0)) hx hb hts (fun _ h => List.mem_cons_of_mem _ (List.mem_append_right _ h)) hown hC hP (vO.m hV) (vO.o hV) rfl 0 (by decide) (hts (.fieldLink RX4 7 "OrderedClausesModel" "s" "[I") (List.mem_of_getElem? (i := 1) rfl)) rfl dX4_comes_28 ?_
      refine lv_iconst (v := 4) hx hb dX4_comes_31 (by decide) ?_
      refine lv_dup2_11 hx hb dX4_comes_32 rfl rfl ?_
      obtain ⟨v51, hv51, hN⟩ := oB_spec hN
      refine k_ildE hx hb hC hP (vO.rm hV 0 (by decide)) (vO.ri hV 0 (by decide)) hv51 dX4_comes_33 ?_
      refine lv_iconst (v := 1) hx hb dX4_comes_34 (by decide) ?_
      refine lv_iadd hx hb dX4_comes_35 ?_
      obtain ⟨y52, hy52, hN⟩ := oB_spec hN
      refine k_istE hx hb hL hC hP hS (vO.rm hV 0 (by decide)) (vO.ri hV 0 (by decide)) hy52 dX4_comes_36 (fun G53 H locs hq hP hS => ?_)
      have hV : vM g L G53 h0 r ((va_up u.1 0 y52), u.2.1, u.2.2) := by rw [hq]; exact vO.setI (f := u.1) (gg := u.2.1) (k := u.2.2) hV (by decide) 0 (by decide) _
      have hfr : frS h0 r 4 G G53 := by rw [hq]; exact vO.frI hfr 0 (by decide) _
      refine lv_bipush (v := (-2)) hx hb dX4_comes_37 (by decide) ?_
      obtain ⟨hE, hE2⟩ := spair hN
      exact k_iretW hx hb hr hE ⟨hE2 ▸ hV, hfr⟩ hP hS hlk dX4_comes_39
  · rw [if_neg c3] at hN
    refine lv_aload_n hx hb dX4_comes_7 rfl (lv_at hl 0 rfl) ?_
    refine k_get (C := RX4) (T := TX4) (N := 8) (ci := 4) (v := .ref (r 0)) hx hb hts (fun _ h => List.mem_cons_of_mem _ (List.mem_append_right _ h)) hown hC hP (vO.m hV) (vO.o hV) rfl 0 (by decide) (hts (.fieldLink RX4 7 "OrderedClausesModel" "s" "[I") (List.mem_of_getElem? (i := 1) rfl)) rfl dX4_comes_8 ?_
    refine lv_iconst (v := 3) hx hb dX4_comes_11 (by decide) ?_
    refine lv_dup2_11 hx hb dX4_comes_12 rfl rfl ?_
    obtain ⟨v54, hv54, hN⟩ := oB_spec hN
    refine k_ildE hx hb hC hP (vO.rm hV 0 (by decide)) (vO.ri hV 0 (by decide)) hv54 dX4_comes_13 ?_
    refine lv_iconst (v := 1) hx hb dX4_comes_14 (by decide) ?_
    refine lv_iadd hx hb dX4_comes_15 ?_
    obtain ⟨y55, hy55, hN⟩ := oB_spec hN
    refine k_istE hx hb hL hC hP hS (vO.rm hV 0 (by decide)) (vO.ri hV 0 (by decide)) hy55 dX4_comes_16 (fun G56 H locs hq hP hS => ?_)
    have hV : vM g L G56 h0 r ((va_up u.1 0 y55), u.2.1, u.2.2) := by rw [hq]; exact vO.setI (f := u.1) (gg := u.2.1) (k := u.2.2) hV (by decide) 0 (by decide) _
    have hfr : frS h0 r 4 G G56 := by rw [hq]; exact vO.frI hfr 0 (by decide) _
    refine lv_iconst (v := (-1)) hx hb dX4_comes_17 (by decide) ?_
    obtain ⟨hE, hE2⟩ := spair hN
    exact k_iretW hx hb hr hE ⟨hE2 ▸ hV, hfr⟩ hP hS hlk dX4_comes_18
set_option maxHeartbeats 4000000 in
set_option maxRecDepth 100000 in
theorem c_X4_resolves (l : Launch) (g : Gm) (L : List Nat) {A : Nat → Prop} (hL : kL L A) (G : Nat → va_E) (h0 : Nat) (r : Nat → Nat) (u : St) (hV : vM g L G h0 r u) (p0 : Int32) (p1 : Int32) (v : Int32) (w : St) (hF : F_X4_resolves u p0 p1 = some (v, w)) : Met l yX4_resolves wsX4_resolves ({ frames := 4, cells := 0, slots := 0, locals := 93 } : Room) (va_Pc [.ref h0, .int p0, .int p1] (kB g L A G)) (va_Qi (fun x (G9 : Nat → va_E) => x = v ∧ (vM g L G9 h0 r w ∧ frS h0 r 4 G G9)) (kE g L) A) 0 0 A := by
  refine Met.ofW (cc := cX4_resolves) (maxL := 6) (ret := (some .int)) (by decide) rfl ?_
  intro p e s m args below meth c s₁ B hml hv
  obtain ⟨rfl, hP, hC⟩ := hv
  have hx := B.exec
  have hb := B.bytes
  have hr := B.returns
  have hts := atoms_spec (ws := wsX4_resolves) B.pre
  have hown : s.vm.findClass RX4 = some m.cls := findClass_of_methodNamed B.named
  have hlk := B.notSynchronized
  have hS : va_S A s.heap s.heap [] := va_S.rf
  have hV0 := hV
  have hfr : frS h0 r 4 G G := frS.rf
  have hl := lv_entry ([.ref h0, .int p0, .int p1]) (n := 6) (Nat.le_of_ble_eq_true rfl)
  rw [lg_entry_eq]
  generalize (lg_sl ([.ref h0, .int p0, .int p1]) ++ List.replicate (6 - (lg_sl ([.ref h0, .int p0, .int p1])).length) Slot.unset).toArray = ls at hl ⊢
  have hl : lv_has ls 6 [(0, .ref h0), (1, .int p0), (2, .int p1)] := hl
  have hN := hF
  unfold F_X4_resolves at hN
  refine lv_aload_n hx hb dX4_resolves_0 rfl (lv_at hl 0 rfl) ?_
  refine lv_aload_n hx hb dX4_resolves_1 rfl (lv_at hl 0 rfl) ?_
  refine lv_iload_n hx hb dX4_resolves_2 rfl (lv_at hl 1 rfl) ?_
  refine lv_iconst (v := 0) hx hb dX4_resolves_3 (by decide) ?_
  obtain ⟨v1, hv1, hN⟩ := oB_spec hN
  refine k_iR hS (va_runV (As := [.int p0, .int (0 : Int32)]) (rest := [.ref h0]) ⟨hx, hb, hml, hown, hts⟩ (c_X4_of l g L hL G h0 r u hV p0 (0 : Int32) v1 hv1) (cwV 2 hts gX4_resolves_X4_of rfl rfl rfl (by decide +kernel) ⟨Nat.le_of_ble_eq_true rfl, Nat.le_of_ble_eq_true rfl⟩) (k_preV hC hS hP (vO.m hV) (vO.o hV) rfl) rfl rfl hl.1 rfl (lv_room (Nat.le_of_ble_eq_true rfl)) dX4_resolves_4 ⟨Nat.zero_le _, Nat.zero_le _⟩) (fun H locs hP hS => ?_)
  obtain ⟨v3, hv3, hN⟩ := oB_spec hN
  refine k_iR hS (va_runV (As := [.int v1]) (rest := []) ⟨hx, hb, hml, hown, hts⟩ (c_X4_greatest l g L hL G h0 r u hV v1 v3 hv3) (cwV 1 hts gX4_resolves_X4_greatest rfl rfl rfl (by decide +kernel) ⟨Nat.le_of_ble_eq_true rfl, Nat.le_of_ble_eq_true rfl⟩) (k_preV hC hS hP (vO.m hV) (vO.o hV) rfl) rfl rfl hl.1 rfl (lv_room (Nat.le_of_ble_eq_true rfl)) dX4_resolves_7 ⟨Nat.zero_le _, Nat.zero_le _⟩) (fun H locs hP hS => ?_)
  refine lv_istore_n (lv' := [(3, .int v3), (0, .ref h0), (1, .int p0), (2, .int p1)]) hx hb dX4_resolves_10 rfl hl (by decide) rfl (fun ls hl => ?_)
  refine lv_iload_n hx hb dX4_resolves_11 rfl (lv_at hl 0 rfl) ?_
  refine lv_iconst (v := 2) hx hb dX4_resolves_12 (by decide) ?_
  obtain ⟨v5, hv5, hN⟩ := oB_spec hN
  refine lv_iremE hx hb dX4_resolves_13 hv5 ?_
  refine lv_if_ne (tgt := 21) hx hb dX4_resolves_14 (by decide) (fun c6 => ?_) (fun c6 => ?_)
  · rw [if_neg c6] at hN
    refine lv_iconst (v := 0) hx hb dX4_resolves_21 (by decide) ?_
    refine lv_istore (lv' := [(4, .int (0 : Int32)), (3, .int v3), (0, .ref h0), (1, .int p0), (2, .int p1)]) hx hb dX4_resolves_22 hl (by decide) rfl (fun ls hl => ?_)
    refine lv_aload_n hx hb dX4_resolves_24 rfl (lv_at hl 2 rfl) ?_
    refine lv_iload_n hx hb dX4_resolves_25 rfl (lv_at hl 3 rfl) ?_
    refine lv_iconst (v := 0) hx hb dX4_resolves_26 (by decide) ?_
    obtain ⟨v7, hv7, hN⟩ := oB_spec hN
    refine k_iR hS (va_runV (As := [.int p0, .int (0 : Int32)]) (rest := []) ⟨hx, hb, hml, hown, hts⟩ (c_X4_of l g L hL G h0 r u hV p0 (0 : Int32) v7 hv7) (cwV 2 hts gX4_resolves_X4_of rfl rfl rfl (by decide +kernel) ⟨Nat.le_of_ble_eq_true rfl, Nat.le_of_ble_eq_true rfl⟩) (k_preV hC hS hP (vO.m hV) (vO.o hV) rfl) rfl rfl hl.1 rfl (lv_room (Nat.le_of_ble_eq_true rfl)) dX4_resolves_27 ⟨Nat.zero_le _, Nat.zero_le _⟩) (fun H locs hP hS => ?_)
    refine lv_aload_n hx hb dX4_resolves_30 rfl (lv_at hl 2 rfl) ?_
    refine lv_iload_n hx hb dX4_resolves_31 rfl (lv_at hl 4 rfl) ?_
    refine lv_iconst (v := 0) hx hb dX4_resolves_32 (by decide) ?_
    obtain ⟨v9, hv9, hN⟩ := oB_spec hN
    refine k_iR hS (va_runV (As := [.int p1, .int (0 : Int32)]) (rest := [.int v7]) ⟨hx, hb, hml, hown, hts⟩ (c_X4_of l g L hL G h0 r u hV p1 (0 : Int32) v9 hv9) (cwV 2 hts gX4_resolves_X4_of rfl rfl rfl (by decide +kernel) ⟨Nat.le_of_ble_eq_true rfl, Nat.le_of_ble_eq_true rfl⟩) (k_preV hC hS hP (vO.m hV) (vO.o hV) rfl) rfl rfl hl.1 rfl (lv_room (Nat.le_of_ble_eq_true rfl)) dX4_resolves_33 ⟨Nat.zero_le _, Nat.zero_le _⟩) (fun H locs hP hS => ?_)
    refine lv_ior hx hb dX4_resolves_36 ?_
    refine lv_iconst (v := 3) hx hb dX4_resolves_37 (by decide) ?_
    refine lv_iload_n hx hb dX4_resolves_38 rfl (lv_at hl 1 rfl) ?_
    refine lv_iconst (v := 2) hx hb dX4_resolves_39 (by decide) ?_
    obtain ⟨v11, hv11, hN⟩ := oB_spec hN
    refine lv_idivE hx hb dX4_resolves_40 hv11 ?_
    refine lv_iconst (v := 2) hx hb dX4_resolves_41 (by decide) ?_
    refine lv_imul hx hb dX4_resolves_42 ?_
    refine lv_ishl hx hb dX4_resolves_43 ?_
    refine lv_iconst (v := (-1)) hx hb dX4_resolves_44 (by decide) ?_
    refine lv_ixor hx hb dX4_resolves_45 ?_
    refine lv_iand hx hb dX4_resolves_46 ?_
    refine lv_istore (lv' := [(5, .int ((v7 ||| v9) &&& (((3 : Int32) <<< ((v11 * (2 : Int32)) &&& 31)) ^^^ ((-1) : Int32)))), (4, .int (0 : Int32)), (3, .int v3), (0, .ref h0), (1, .int p0), (2, .int p1)]) hx hb dX4_resolves_47 hl (by decide) rfl (fun ls hl => ?_)
    refine lv_aload_n hx hb dX4_resolves_49 rfl (lv_at hl 3 rfl) ?_
    refine lv_iload hx hb dX4_resolves_50 (lv_at hl 0 rfl) ?_
    refine lv_iload hx hb dX4_resolves_52 (lv_at hl 1 rfl) ?_
    refine lv_if_eq (tgt := 61) hx hb dX4_resolves_54 (by decide) (fun _ => ?_) (fun c9 => absurd c9 (by decide))
    refine lv_iload_n hx hb dX4_resolves_61 rfl (lv_at hl 5 rfl) ?_
    refine lv_iload hx hb dX4_resolves_62 (lv_at hl 1 rfl) ?_
    refine lv_if_eq (tgt := 71) hx hb dX4_resolves_64 (by decide) (fun _ => ?_) (fun c9 => absurd c9 (by decide))
    refine lv_iload_n hx hb dX4_resolves_71 rfl (lv_at hl 4 rfl) ?_
    refine lv_iload_n hx hb dX4_resolves_72 rfl (lv_at hl 2 rfl) ?_
    refine lv_iconst (v := 2) hx hb dX4_resolves_73 (by decide) ?_
    obtain ⟨v12, hv12, hN⟩ := oB_spec hN
    refine lv_idivE hx hb dX4_resolves_74 hv12 ?_
    obtain ⟨v13, w14, hv13, hN⟩ := oB2_spec hN
    refine k_iW hS (va_runV (As := [.int ((v7 ||| v9) &&& (((3 : Int32) <<< ((v11 * (2 : Int32)) &&& 31)) ^^^ ((-1) : Int32))), .int p1, .int p0, .int v12]) (rest := []) ⟨hx, hb, hml, hown, hts⟩ (c_X4_comes l g L hL G h0 r u hV ((v7 ||| v9) &&& (((3 : Int32) <<< ((v11 * (2 : Int32)) &&& 31)) ^^^ ((-1) : Int32))) p1 p0 v12 v13 w14 hv13) (cwV 4 hts gX4_resolves_X4_comes rfl rfl rfl (by decide +kernel) ⟨Nat.le_of_ble_eq_true rfl, Nat.le_of_ble_eq_true rfl⟩) (k_preV hC hS hP (vO.m hV) (vO.o hV) rfl) rfl rfl hl.1 rfl (lv_room (Nat.le_of_ble_eq_true rfl)) dX4_resolves_75 ⟨Nat.zero_le _, Nat.zero_le _⟩) (fun G15 H locs hq hP hS => ?_)
    obtain ⟨hV, hfq⟩ := hq
    have hfr := frS.tr hfr hfq
    obtain ⟨hE, hE2⟩ := spair hN
    exact k_iretW hx hb hr hE ⟨hE2 ▸ hV, hfr⟩ hP hS hlk dX4_resolves_78
  · rw [if_pos c6] at hN
    refine lv_iconst (v := 1) hx hb dX4_resolves_17 (by decide) ?_
    refine lv_goto (tgt := 22) hx hb dX4_resolves_18 (by decide) ?_
    refine lv_istore (lv' := [(4, .int (1 : Int32)), (3, .int v3), (0, .ref h0), (1, .int p0), (2, .int p1)]) hx hb dX4_resolves_22 hl (by decide) rfl (fun ls hl => ?_)
    refine lv_aload_n hx hb dX4_resolves_24 rfl (lv_at hl 2 rfl) ?_
    refine lv_iload_n hx hb dX4_resolves_25 rfl (lv_at hl 3 rfl) ?_
    refine lv_iconst (v := 0) hx hb dX4_resolves_26 (by decide) ?_
    obtain ⟨v16, hv16, hN⟩ := oB_spec hN
    refine k_iR hS (va_runV (As := [.int p0, .int (0 : Int32)]) (rest := []) ⟨hx, hb, hml, hown, hts⟩ (c_X4_of l g L hL G h0 r u hV p0 (0 : Int32) v16 hv16) (cwV 2 hts gX4_resolves_X4_of rfl rfl rfl (by decide +kernel) ⟨Nat.le_of_ble_eq_true rfl, Nat.le_of_ble_eq_true rfl⟩) (k_preV hC hS hP (vO.m hV) (vO.o hV) rfl) rfl rfl hl.1 rfl (lv_room (Nat.le_of_ble_eq_true rfl)) dX4_resolves_27 ⟨Nat.zero_le _, Nat.zero_le _⟩) (fun H locs hP hS => ?_)
    refine lv_aload_n hx hb dX4_resolves_30 rfl (lv_at hl 2 rfl) ?_
    refine lv_iload_n hx hb dX4_resolves_31 rfl (lv_at hl 4 rfl) ?_
    refine lv_iconst (v := 0) hx hb dX4_resolves_32 (by decide) ?_
    obtain ⟨v18, hv18, hN⟩ := oB_spec hN
    refine k_iR hS (va_runV (As := [.int p1, .int (0 : Int32)]) (rest := [.int v16]) ⟨hx, hb, hml, hown, hts⟩ (c_X4_of l g L hL G h0 r u hV p1 (0 : Int32) v18 hv18) (cwV 2 hts gX4_resolves_X4_of rfl rfl rfl (by decide +kernel) ⟨Nat.le_of_ble_eq_true rfl, Nat.le_of_ble_eq_true rfl⟩) (k_preV hC hS hP (vO.m hV) (vO.o hV) rfl) rfl rfl hl.1 rfl (lv_room (Nat.le_of_ble_eq_true rfl)) dX4_resolves_33 ⟨Nat.zero_le _, Nat.zero_le _⟩) (fun H locs hP hS => ?_)
    refine lv_ior hx hb dX4_resolves_36 ?_
    refine lv_iconst (v := 3) hx hb dX4_resolves_37 (by decide) ?_
    refine lv_iload_n hx hb dX4_resolves_38 rfl (lv_at hl 1 rfl) ?_
    refine lv_iconst (v := 2) hx hb dX4_resolves_39 (by decide) ?_
    obtain ⟨v20, hv20, hN⟩ := oB_spec hN
    refine lv_idivE hx hb dX4_resolves_40 hv20 ?_
    refine lv_iconst (v := 2) hx hb dX4_resolves_41 (by decide) ?_
    refine lv_imul hx hb dX4_resolves_42 ?_
    refine lv_ishl hx hb dX4_resolves_43 ?_
    refine lv_iconst (v := (-1)) hx hb dX4_resolves_44 (by decide) ?_
    refine lv_ixor hx hb dX4_resolves_45 ?_
    refine lv_iand hx hb dX4_resolves_46 ?_
    refine lv_istore (lv' := [(5, .int ((v16 ||| v18) &&& (((3 : Int32) <<< ((v20 * (2 : Int32)) &&& 31)) ^^^ ((-1) : Int32)))), (4, .int (1 : Int32)), (3, .int v3), (0, .ref h0), (1, .int p0), (2, .int p1)]) hx hb dX4_resolves_47 hl (by decide) rfl (fun ls hl => ?_)
    refine lv_aload_n hx hb dX4_resolves_49 rfl (lv_at hl 3 rfl) ?_
    refine lv_iload hx hb dX4_resolves_50 (lv_at hl 0 rfl) ?_
    refine lv_iload hx hb dX4_resolves_52 (lv_at hl 1 rfl) ?_
    refine lv_if_eq (tgt := 61) hx hb dX4_resolves_54 (by decide) (fun c9 => absurd c9 (by decide)) (fun _ => ?_)
    refine lv_iload_n hx hb dX4_resolves_57 rfl (lv_at hl 4 rfl) ?_
    refine lv_goto (tgt := 62) hx hb dX4_resolves_58 (by decide) ?_
    refine lv_iload hx hb dX4_resolves_62 (lv_at hl 1 rfl) ?_
    refine lv_if_eq (tgt := 71) hx hb dX4_resolves_64 (by decide) (fun c9 => absurd c9 (by decide)) (fun _ => ?_)
    refine lv_iload_n hx hb dX4_resolves_67 rfl (lv_at hl 5 rfl) ?_
    refine lv_goto (tgt := 72) hx hb dX4_resolves_68 (by decide) ?_
    refine lv_iload_n hx hb dX4_resolves_72 rfl (lv_at hl 2 rfl) ?_
    refine lv_iconst (v := 2) hx hb dX4_resolves_73 (by decide) ?_
    obtain ⟨v21, hv21, hN⟩ := oB_spec hN
    refine lv_idivE hx hb dX4_resolves_74 hv21 ?_
    obtain ⟨v22, w23, hv22, hN⟩ := oB2_spec hN
    refine k_iW hS (va_runV (As := [.int ((v16 ||| v18) &&& (((3 : Int32) <<< ((v20 * (2 : Int32)) &&& 31)) ^^^ ((-1) : Int32))), .int p0, .int p1, .int v21]) (rest := []) ⟨hx, hb, hml, hown, hts⟩ (c_X4_comes l g L hL G h0 r u hV ((v16 ||| v18) &&& (((3 : Int32) <<< ((v20 * (2 : Int32)) &&& 31)) ^^^ ((-1) : Int32))) p0 p1 v21 v22 w23 hv22) (cwV 4 hts gX4_resolves_X4_comes rfl rfl rfl (by decide +kernel) ⟨Nat.le_of_ble_eq_true rfl, Nat.le_of_ble_eq_true rfl⟩) (k_preV hC hS hP (vO.m hV) (vO.o hV) rfl) rfl rfl hl.1 rfl (lv_room (Nat.le_of_ble_eq_true rfl)) dX4_resolves_75 ⟨Nat.zero_le _, Nat.zero_le _⟩) (fun G24 H locs hq hP hS => ?_)
    obtain ⟨hV, hfq⟩ := hq
    have hfr := frS.tr hfr hfq
    obtain ⟨hE, hE2⟩ := spair hN
    exact k_iretW hx hb hr hE ⟨hE2 ▸ hV, hfr⟩ hP hS hlk dX4_resolves_78
set_option maxHeartbeats 4000000 in
set_option maxRecDepth 100000 in
theorem c_X4_steps (l : Launch) (g : Gm) (L : List Nat) {A : Nat → Prop} (hL : kL L A) (G : Nat → va_E) (h0 : Nat) (r : Nat → Nat) (u : St) (hV : vM g L G h0 r u) (v : Int32) (w : St) (hF : F_X4_steps u = some (v, w)) : Met l yX4_steps wsX4_steps ({ frames := 5, cells := 0, slots := 0, locals := 118 } : Room) (va_Pc [.ref h0] (kB g L A G)) (va_Qi (fun x (G9 : Nat → va_E) => x = v ∧ (vM g L G9 h0 r w ∧ frS h0 r 4 G G9)) (kE g L) A) 0 0 A := by
  refine Met.ofW (cc := cX4_steps) (maxL := 5) (ret := (some .int)) (by decide) rfl ?_
  intro p e s m args below meth c s₁ B hml hv
  obtain ⟨rfl, hP, hC⟩ := hv
  have hx := B.exec
  have hb := B.bytes
  have hr := B.returns
  have hts := atoms_spec (ws := wsX4_steps) B.pre
  have hown : s.vm.findClass RX4 = some m.cls := findClass_of_methodNamed B.named
  have hlk := B.notSynchronized
  have hS : va_S A s.heap s.heap [] := va_S.rf
  have hV0 := hV
  have hfr : frS h0 r 4 G G := frS.rf
  have lp38 : ∀ (n : Nat) (u : St) (x1 : Int32) (x2 : Int32) (x3 : Int32) (G1 : Nat → va_E) (H : Heap) (locs : List Loc) (ls : Array Slot), vM g L G1 h0 r u → frS h0 r 4 G G1 → va_P g.1 vwCl (va_pl L G1) H → va_S A s.heap H locs → lv_has ls 5 [(0, .ref h0), (1, .int x1), (2, .int x2), (3, .int x3)] → FL_X4_steps_38  n u x1 x2 x3 = some (v, w) → W p l e (headSpec wsX4_steps ({ frames := 5, cells := 0, slots := 0, locals := 118 } : Room)).room s m ([.ref h0] : List Value).toArray below meth c H locs 0 0 (MQ below (va_Qi (fun x (G9 : Nat → va_E) => x = v ∧ (vM g L G9 h0 r w ∧ frS h0 r 4 G G9)) (kE g L) A) ([.ref h0] : List Value).toArray s 0 0 A) (F0 m 38 ls []) := by
    intro n
    induction n with
    | zero =>
      intro u x1 x2 x3 G1 H locs ls hV hfr hP hS hl hN
      exact absurd hN (by simp [FL_X4_steps_38])
    | succ n ih =>
      intro u x1 x2 x3 G1 H locs ls hV hfr hP hS hl hN
      rw [FL_X4_steps_38] at hN
      refine lv_iload_n hx hb dX4_steps_38 rfl (lv_at hl 3 rfl) ?_
      refine lv_iload_n hx hb dX4_steps_39 rfl (lv_at hl 2 rfl) ?_
      refine lv_icmp_ge (tgt := 105) hx hb dX4_steps_40 (by decide) (fun c11 => ?_) (fun c11 => ?_)
      · rw [if_pos c11] at hN
        refine lv_iload_n hx hb dX4_steps_105 rfl (lv_at hl 1 rfl) ?_
        obtain ⟨hE, hE2⟩ := spair hN
        exact k_iretW hx hb hr hE ⟨hE2 ▸ hV, hfr⟩ hP hS hlk dX4_steps_106
      · rw [if_neg c11] at hN
        refine lv_aload_n hx hb dX4_steps_43 rfl (lv_at hl 0 rfl) ?_
        refine lv_iload_n hx hb dX4_steps_44 rfl (lv_at hl 1 rfl) ?_
        obtain ⟨v12, hv12, hN⟩ := oB_spec hN
        refine k_iR hS (va_runV (As := [.int x1]) (rest := []) ⟨hx, hb, hml, hown, hts⟩ (c_X4_isKept l g L hL G1 h0 r u hV x1 v12 hv12) (cwV 1 hts gX4_steps_X4_isKept rfl rfl rfl (by decide +kernel) ⟨Nat.le_of_ble_eq_true rfl, Nat.le_of_ble_eq_true rfl⟩) (k_preV hC hS hP (vO.m hV) (vO.o hV) rfl) rfl rfl hl.1 rfl (lv_room (Nat.le_of_ble_eq_true rfl)) dX4_steps_45 ⟨Nat.zero_le _, Nat.zero_le _⟩) (fun H locs hP hS => ?_)
        refine lv_if_eq (tgt := 105) hx hb dX4_steps_48 (by decide) (fun c14 => ?_) (fun c14 => ?_)
        · rw [if_pos c14] at hN
          refine lv_iload_n hx hb dX4_steps_105 rfl (lv_at hl 1 rfl) ?_
          obtain ⟨hE, hE2⟩ := spair hN
          exact k_iretW hx hb hr hE ⟨hE2 ▸ hV, hfr⟩ hP hS hlk dX4_steps_106
        · rw [if_neg c14] at hN
          refine lv_aload_n hx hb dX4_steps_51 rfl (lv_at hl 0 rfl) ?_
          refine lv_iload_n hx hb dX4_steps_52 rfl (lv_at hl 1 rfl) ?_
          refine lv_iload_n hx hb dX4_steps_53 rfl (lv_at hl 3 rfl) ?_
          obtain ⟨v15, hv15, hN⟩ := oB_spec hN
          refine k_iR hS (va_runV (As := [.int x1, .int x3]) (rest := []) ⟨hx, hb, hml, hown, hts⟩ (c_X4_arePartners l g L hL G1 h0 r u hV x1 x3 v15 hv15) (cwV 2 hts gX4_steps_X4_arePartners rfl rfl rfl (by decide +kernel) ⟨Nat.le_of_ble_eq_true rfl, Nat.le_of_ble_eq_true rfl⟩) (k_preV hC hS hP (vO.m hV) (vO.o hV) rfl) rfl rfl hl.1 rfl (lv_room (Nat.le_of_ble_eq_true rfl)) dX4_steps_54 ⟨Nat.zero_le _, Nat.zero_le _⟩) (fun H locs hP hS => ?_)
          refine lv_if_eq (tgt := 69) hx hb dX4_steps_57 (by decide) (fun c17 => ?_) (fun c17 => ?_)
          · rw [if_pos c17] at hN
            refine lv_iconst (v := (-1)) hx hb dX4_steps_69 (by decide) ?_
            refine lv_istore (lv' := [(4, .int ((-1) : Int32)), (0, .ref h0), (1, .int x1), (2, .int x2), (3, .int x3)]) hx hb dX4_steps_70 hl (by decide) rfl (fun ls hl => ?_)
            refine lv_iload hx hb dX4_steps_72 (lv_at hl 0 rfl) ?_
            refine lv_ldc (v := (-1000003)) hx hb hown (hts (.constant RX4 59 (-1000003)) (List.mem_of_getElem? (i := 3) rfl)) dX4_steps_74 ?_
            refine lv_icmp_ne (tgt := 82) hx hb dX4_steps_76 (by decide) (fun _ => ?_) (fun c9 => absurd c9 (by decide))
            refine lv_iload hx hb dX4_steps_82 (lv_at hl 0 rfl) ?_
            refine lv_if_lt (tgt := 99) hx hb dX4_steps_84 (by decide) (fun _ => ?_) (fun c9 => absurd c9 (by decide))
            refine lv_iinc (v := (x3 + 1)) (lv' := [(3, .int (x3 + 1)), (4, .int ((-1) : Int32)), (0, .ref h0), (1, .int x1), (2, .int x2)]) hx hb dX4_steps_99 hl (k := 4) rfl rfl (by decide) rfl (fun ls hl => ?_)
            refine lv_goto (tgt := 38) hx hb dX4_steps_102 (by decide) ?_
            exact ih (u.1, u.2.1, u.2.2) x1 x2 (x3 + 1)  _ _ _ _ hV hfr hP hS (lv_sub hl [2, 3, 4, 0] rfl) hN
          · rw [if_neg c17] at hN
            refine lv_aload_n hx hb dX4_steps_60 rfl (lv_at hl 0 rfl) ?_
            refine lv_iload_n hx hb dX4_steps_61 rfl (lv_at hl 1 rfl) ?_
            refine lv_iload_n hx hb dX4_steps_62 rfl (lv_at hl 3 rfl) ?_
            obtain ⟨v18, w19, hv18, hN⟩ := oB2_spec hN
            refine k_iW hS (va_runV (As := [.int x1, .int x3]) (rest := []) ⟨hx, hb, hml, hown, hts⟩ (c_X4_resolves l g L hL G1 h0 r u hV x1 x3 v18 w19 hv18) (cwV 2 hts gX4_steps_X4_resolves rfl rfl rfl (by decide +kernel) ⟨Nat.le_of_ble_eq_true rfl, Nat.le_of_ble_eq_true rfl⟩) (k_preV hC hS hP (vO.m hV) (vO.o hV) rfl) rfl rfl hl.1 rfl (lv_room (Nat.le_of_ble_eq_true rfl)) dX4_steps_63 ⟨Nat.zero_le _, Nat.zero_le _⟩) (fun G20 H locs hq hP hS => ?_)
            obtain ⟨hV, hfq⟩ := hq
            have hfr := frS.tr hfr hfq
            refine lv_goto (tgt := 70) hx hb dX4_steps_66 (by decide) ?_
            refine lv_istore (lv' := [(4, .int v18), (0, .ref h0), (1, .int x1), (2, .int x2), (3, .int x3)]) hx hb dX4_steps_70 hl (by decide) rfl (fun ls hl => ?_)
            refine lv_iload hx hb dX4_steps_72 (lv_at hl 0 rfl) ?_
            refine lv_ldc (v := (-1000003)) hx hb hown (hts (.constant RX4 59 (-1000003)) (List.mem_of_getElem? (i := 3) rfl)) dX4_steps_74 ?_
            refine lv_icmp_ne (tgt := 82) hx hb dX4_steps_76 (by decide) (fun c21 => ?_) (fun c21 => ?_)
            · rw [if_neg c21] at hN
              refine lv_iload hx hb dX4_steps_82 (lv_at hl 0 rfl) ?_
              refine lv_if_lt (tgt := 99) hx hb dX4_steps_84 (by decide) (fun c22 => ?_) (fun c22 => ?_)
              · rw [if_pos c22] at hN
                refine lv_iinc (v := (x3 + 1)) (lv' := [(3, .int (x3 + 1)), (4, .int v18), (0, .ref h0), (1, .int x1), (2, .int x2)]) hx hb dX4_steps_99 hl (k := 4) rfl rfl (by decide) rfl (fun ls hl => ?_)
                refine lv_goto (tgt := 38) hx hb dX4_steps_102 (by decide) ?_
                exact ih (w19.1, w19.2.1, w19.2.2) x1 x2 (x3 + 1)  _ _ _ _ hV hfr hP hS (lv_sub hl [2, 3, 4, 0] rfl) hN
              · rw [if_neg c22] at hN
                refine lv_aload_n hx hb dX4_steps_87 rfl (lv_at hl 1 rfl) ?_
                refine lv_iload hx hb dX4_steps_88 (lv_at hl 0 rfl) ?_
                refine lv_iconst (v := 0) hx hb dX4_steps_90 (by decide) ?_
                obtain ⟨v23, hv23, hN⟩ := oB_spec hN
                refine k_iR hS (va_runV (As := [.int v18, .int (0 : Int32)]) (rest := []) ⟨hx, hb, hml, hown, hts⟩ (c_X4_of l g L hL G20 h0 r (w19.1, w19.2.1, w19.2.2) hV v18 (0 : Int32) v23 hv23) (cwV 2 hts gX4_steps_X4_of rfl rfl rfl (by decide +kernel) ⟨Nat.le_of_ble_eq_true rfl, Nat.le_of_ble_eq_true rfl⟩) (k_preV hC hS hP (vO.m hV) (vO.o hV) rfl) rfl rfl hl.1 rfl (lv_room (Nat.le_of_ble_eq_true rfl)) dX4_steps_91 ⟨Nat.zero_le _, Nat.zero_le _⟩) (fun H locs hP hS => ?_)
                refine lv_if_ne (tgt := 99) hx hb dX4_steps_94 (by decide) (fun c25 => ?_) (fun c25 => ?_)
                · rw [if_neg c25] at hN
                  refine lv_iinc (v := (x3 + 1)) (lv' := [(3, .int (x3 + 1)), (4, .int v18), (0, .ref h0), (1, .int x1), (2, .int x2)]) hx hb dX4_steps_99 hl (k := 4) rfl rfl (by decide) rfl (fun ls hl => ?_)
                  refine lv_goto (tgt := 38) hx hb dX4_steps_102 (by decide) ?_
                  exact ih (w19.1, w19.2.1, w19.2.2) x1 x2 (x3 + 1)  _ _ _ _ hV hfr hP hS (lv_sub hl [2, 3, 4, 0] rfl) hN
                · rw [if_pos c25] at hN
                  refine lv_iload_n hx hb dX4_steps_97 rfl (lv_at hl 2 rfl) ?_
                  obtain ⟨hE, hE2⟩ := spair hN
                  exact k_iretW hx hb hr hE ⟨hE2 ▸ hV, hfr⟩ hP hS hlk dX4_steps_98
            · rw [if_pos c21] at hN
              refine lv_iload hx hb dX4_steps_79 (lv_at hl 0 rfl) ?_
              obtain ⟨hE, hE2⟩ := spair hN
              exact k_iretW hx hb hr hE ⟨hE2 ▸ hV, hfr⟩ hP hS hlk dX4_steps_81
  have hl := lv_entry ([.ref h0]) (n := 5) (Nat.le_of_ble_eq_true rfl)
  rw [lg_entry_eq]
  generalize (lg_sl ([.ref h0]) ++ List.replicate (5 - (lg_sl ([.ref h0])).length) Slot.unset).toArray = ls at hl ⊢
  have hl : lv_has ls 5 [(0, .ref h0)] := hl
  have hN := hF
  unfold F_X4_steps at hN
  refine lv_aload_n hx hb dX4_steps_0 rfl (lv_at hl 0 rfl) ?_
  obtain ⟨v1, hv1, hN⟩ := oB_spec hN
  refine k_iR hS (va_runV (As := []) (rest := []) ⟨hx, hb, hml, hown, hts⟩ (c_X4_chosen l g L hL G h0 r u hV v1 hv1) (cwV 0 hts gX4_steps_X4_chosen rfl rfl rfl (by decide +kernel) ⟨Nat.le_of_ble_eq_true rfl, Nat.le_of_ble_eq_true rfl⟩) (k_preV hC hS hP (vO.m hV) (vO.o hV) rfl) rfl rfl hl.1 rfl (lv_room (Nat.le_of_ble_eq_true rfl)) dX4_steps_1 ⟨Nat.zero_le _, Nat.zero_le _⟩) (fun H locs hP hS => ?_)
  refine lv_istore_n (lv' := [(1, .int v1), (0, .ref h0)]) hx hb dX4_steps_4 rfl hl (by decide) rfl (fun ls hl => ?_)
  refine lv_iload_n hx hb dX4_steps_5 rfl (lv_at hl 0 rfl) ?_
  refine lv_if_ge (tgt := 12) hx hb dX4_steps_6 (by decide) (fun c3 => ?_) (fun c3 => ?_)
  · rw [if_pos c3] at hN
    refine lv_aload_n hx hb dX4_steps_12 rfl (lv_at hl 1 rfl) ?_
    refine lv_iload_n hx hb dX4_steps_13 rfl (lv_at hl 0 rfl) ?_
    refine lv_iconst (v := 1) hx hb dX4_steps_14 (by decide) ?_
    refine lv_iconst (v := 1) hx hb dX4_steps_15 (by decide) ?_
    obtain ⟨w5, hw5, hN⟩ := oB_spec hN
    refine k_v hS (va_runV (As := [.int v1, .int (1 : Int32), .int (1 : Int32)]) (rest := []) ⟨hx, hb, hml, hown, hts⟩ (c_X4_puts l g L hL G h0 r u hV v1 (1 : Int32) (1 : Int32) w5 hw5) (cwV 3 hts gX4_steps_X4_puts rfl rfl rfl (by decide +kernel) ⟨Nat.le_of_ble_eq_true rfl, Nat.le_of_ble_eq_true rfl⟩) (k_preV hC hS hP (vO.m hV) (vO.o hV) rfl) rfl rfl hl.1 rfl (lv_room (Nat.le_of_ble_eq_true rfl)) dX4_steps_16 ⟨Nat.zero_le _, Nat.zero_le _⟩) (fun G6 H locs hq hP hS => ?_)
    obtain ⟨hV, hfq⟩ := hq
    have hfr := frS.tr hfr hfq
    refine lv_aload_n hx hb dX4_steps_19 rfl (lv_at hl 1 rfl) ?_
    refine k_get (C := RX4) (T := TX4) (N := 8) (ci := 4) (v := .ref (r 0)) hx hb hts (fun _ h => List.mem_cons_of_mem _ (List.mem_append_right _ h)) hown hC hP (vO.m hV) (vO.o hV) rfl 0 (by decide) (hts (.fieldLink RX4 7 "OrderedClausesModel" "s" "[I") (List.mem_of_getElem? (i := 2) rfl)) rfl dX4_steps_20 ?_
    refine lv_iconst (v := 1) hx hb dX4_steps_23 (by decide) ?_
    refine lv_dup2_11 hx hb dX4_steps_24 rfl rfl ?_
    obtain ⟨v7, hv7, hN⟩ := oB_spec hN
    refine k_ildE hx hb hC hP (vO.rm hV 0 (by decide)) (vO.ri hV 0 (by decide)) hv7 dX4_steps_25 ?_
    refine lv_iconst (v := 1) hx hb dX4_steps_26 (by decide) ?_
    refine lv_iadd hx hb dX4_steps_27 ?_
    obtain ⟨y8, hy8, hN⟩ := oB_spec hN
    refine k_istE hx hb hL hC hP hS (vO.rm hV 0 (by decide)) (vO.ri hV 0 (by decide)) hy8 dX4_steps_28 (fun G9 H locs hq hP hS => ?_)
    have hV : vM g L G9 h0 r ((va_up w5.1 0 y8), w5.2.1, w5.2.2) := by rw [hq]; exact vO.setI (f := w5.1) (gg := w5.2.1) (k := w5.2.2) hV (by decide) 0 (by decide) _
    have hfr : frS h0 r 4 G G9 := by rw [hq]; exact vO.frI hfr 0 (by decide) _
    refine lv_aload_n hx hb dX4_steps_29 rfl (lv_at hl 1 rfl) ?_
    refine k_get (C := RX4) (T := TX4) (N := 8) (ci := 4) (v := .ref (r 0)) hx hb hts (fun _ h => List.mem_cons_of_mem _ (List.mem_append_right _ h)) hown hC hP (vO.m hV) (vO.o hV) rfl 0 (by decide) (hts (.fieldLink RX4 7 "OrderedClausesModel" "s" "[I") (List.mem_of_getElem? (i := 2) rfl)) rfl dX4_steps_30 ?_
    refine lv_iconst (v := 0) hx hb dX4_steps_33 (by decide) ?_
    obtain ⟨v10, hv10, hN⟩ := oB_spec hN
    refine k_ildE hx hb hC hP (vO.rm hV 0 (by decide)) (vO.ri hV 0 (by decide)) hv10 dX4_steps_34 ?_
    refine lv_istore_n (lv' := [(2, .int v10), (1, .int v1), (0, .ref h0)]) hx hb dX4_steps_35 rfl hl (by decide) rfl (fun ls hl => ?_)
    refine lv_iconst (v := 0) hx hb dX4_steps_36 (by decide) ?_
    refine lv_istore_n (lv' := [(3, .int (0 : Int32)), (2, .int v10), (1, .int v1), (0, .ref h0)]) hx hb dX4_steps_37 rfl hl (by decide) rfl (fun ls hl => ?_)
    exact lp38 fuel ((va_up w5.1 0 y8), w5.2.1, w5.2.2) v1 v10 (0 : Int32)  _ _ _ _ hV hfr hP hS (lv_sub hl [3, 2, 1, 0] rfl) hN
  · rw [if_neg c3] at hN
    refine lv_ldc (v := (-1000002)) hx hb hown (hts (.constant RX4 78 (-1000002)) (List.mem_of_getElem? (i := 1) rfl)) dX4_steps_9 ?_
    obtain ⟨hE, hE2⟩ := spair hN
    exact k_iretW hx hb hr hE ⟨hE2 ▸ hV, hfr⟩ hP hS hlk dX4_steps_11
set_option maxHeartbeats 4000000 in
set_option maxRecDepth 100000 in
theorem c_X4_runs (l : Launch) (g : Gm) (L : List Nat) {A : Nat → Prop} (hL : kL L A) (G : Nat → va_E) (h0 : Nat) (r : Nat → Nat) (u : St) (hV : vM g L G h0 r u) (p0 : Int32) (v : Int32) (w : St) (hF : F_X4_runs u p0 = some (v, w)) : Met l yX4_runs wsX4_runs ({ frames := 6, cells := 0, slots := 0, locals := 142 } : Room) (va_Pc [.ref h0, .int p0] (kB g L A G)) (va_Qi (fun x (G9 : Nat → va_E) => x = v ∧ (vM g L G9 h0 r w ∧ frS h0 r 4 G G9)) (kE g L) A) 0 0 A := by
  refine Met.ofW (cc := cX4_runs) (maxL := 4) (ret := (some .int)) (by decide) rfl ?_
  intro p e s m args below meth c s₁ B hml hv
  obtain ⟨rfl, hP, hC⟩ := hv
  have hx := B.exec
  have hb := B.bytes
  have hr := B.returns
  have hts := atoms_spec (ws := wsX4_runs) B.pre
  have hown : s.vm.findClass RX4 = some m.cls := findClass_of_methodNamed B.named
  have hlk := B.notSynchronized
  have hS : va_S A s.heap s.heap [] := va_S.rf
  have hV0 := hV
  have hfr : frS h0 r 4 G G := frS.rf
  have lp2 : ∀ (n : Nat) (u : St) (x1 : Int32) (x2 : Int32) (G1 : Nat → va_E) (H : Heap) (locs : List Loc) (ls : Array Slot), vM g L G1 h0 r u → frS h0 r 4 G G1 → va_P g.1 vwCl (va_pl L G1) H → va_S A s.heap H locs → lv_has ls 4 [(0, .ref h0), (1, .int x1), (2, .int x2)] → FL_X4_runs_2  n u x1 x2 = some (v, w) → W p l e (headSpec wsX4_runs ({ frames := 6, cells := 0, slots := 0, locals := 142 } : Room)).room s m ([.ref h0, .int p0] : List Value).toArray below meth c H locs 0 0 (MQ below (va_Qi (fun x (G9 : Nat → va_E) => x = v ∧ (vM g L G9 h0 r w ∧ frS h0 r 4 G G9)) (kE g L) A) ([.ref h0, .int p0] : List Value).toArray s 0 0 A) (F0 m 2 ls []) := by
    intro n
    induction n with
    | zero =>
      intro u x1 x2 G1 H locs ls hV hfr hP hS hl hN
      exact absurd hN (by simp [FL_X4_runs_2])
    | succ n ih =>
      intro u x1 x2 G1 H locs ls hV hfr hP hS hl hN
      rw [FL_X4_runs_2] at hN
      refine lv_iload_n hx hb dX4_runs_2 rfl (lv_at hl 2 rfl) ?_
      refine lv_iload_n hx hb dX4_runs_3 rfl (lv_at hl 1 rfl) ?_
      refine lv_icmp_ge (tgt := 34) hx hb dX4_runs_4 (by decide) (fun c1 => ?_) (fun c1 => ?_)
      · rw [if_pos c1] at hN
        refine lv_iload_n hx hb dX4_runs_34 rfl (lv_at hl 1 rfl) ?_
        obtain ⟨hE, hE2⟩ := spair hN
        exact k_iretW hx hb hr hE ⟨hE2 ▸ hV, hfr⟩ hP hS hlk dX4_runs_35
      · rw [if_neg c1] at hN
        refine lv_aload_n hx hb dX4_runs_7 rfl (lv_at hl 0 rfl) ?_
        obtain ⟨v2, w3, hv2, hN⟩ := oB2_spec hN
        refine k_iW hS (va_runV (As := []) (rest := []) ⟨hx, hb, hml, hown, hts⟩ (c_X4_steps l g L hL G1 h0 r u hV v2 w3 hv2) (cwV 0 hts gX4_runs_X4_steps rfl rfl rfl (by decide +kernel) ⟨Nat.le_of_ble_eq_true rfl, Nat.le_of_ble_eq_true rfl⟩) (k_preV hC hS hP (vO.m hV) (vO.o hV) rfl) rfl rfl hl.1 rfl (lv_room (Nat.le_of_ble_eq_true rfl)) dX4_runs_8 ⟨Nat.zero_le _, Nat.zero_le _⟩) (fun G4 H locs hq hP hS => ?_)
        obtain ⟨hV, hfq⟩ := hq
        have hfr := frS.tr hfr hfq
        refine lv_istore_n (lv' := [(3, .int v2), (0, .ref h0), (1, .int x1), (2, .int x2)]) hx hb dX4_runs_11 rfl hl (by decide) rfl (fun ls hl => ?_)
        refine lv_iload_n hx hb dX4_runs_12 rfl (lv_at hl 0 rfl) ?_
        refine lv_ldc (v := (-1000003)) hx hb hown (hts (.constant RX4 59 (-1000003)) (List.mem_of_getElem? (i := 1) rfl)) dX4_runs_13 ?_
        refine lv_icmp_ne (tgt := 20) hx hb dX4_runs_15 (by decide) (fun c5 => ?_) (fun c5 => ?_)
        · rw [if_neg c5] at hN
          refine lv_iload_n hx hb dX4_runs_20 rfl (lv_at hl 0 rfl) ?_
          refine lv_ldc (v := (-1000002)) hx hb hown (hts (.constant RX4 78 (-1000002)) (List.mem_of_getElem? (i := 2) rfl)) dX4_runs_21 ?_
          refine lv_icmp_ne (tgt := 28) hx hb dX4_runs_23 (by decide) (fun c6 => ?_) (fun c6 => ?_)
          · rw [if_neg c6] at hN
            refine lv_iinc (v := (x2 + 1)) (lv' := [(2, .int (x2 + 1)), (3, .int v2), (0, .ref h0), (1, .int x1)]) hx hb dX4_runs_28 hl (k := 3) rfl rfl (by decide) rfl (fun ls hl => ?_)
            refine lv_goto (tgt := 2) hx hb dX4_runs_31 (by decide) ?_
            exact ih (w3.1, w3.2.1, w3.2.2) x1 (x2 + 1)  _ _ _ _ hV hfr hP hS (lv_sub hl [2, 3, 0] rfl) hN
          · rw [if_pos c6] at hN
            refine lv_iload_n hx hb dX4_runs_26 rfl (lv_at hl 3 rfl) ?_
            obtain ⟨hE, hE2⟩ := spair hN
            exact k_iretW hx hb hr hE ⟨hE2 ▸ hV, hfr⟩ hP hS hlk dX4_runs_27
        · rw [if_pos c5] at hN
          refine lv_iload_n hx hb dX4_runs_18 rfl (lv_at hl 0 rfl) ?_
          obtain ⟨hE, hE2⟩ := spair hN
          exact k_iretW hx hb hr hE ⟨hE2 ▸ hV, hfr⟩ hP hS hlk dX4_runs_19
  have hl := lv_entry ([.ref h0, .int p0]) (n := 4) (Nat.le_of_ble_eq_true rfl)
  rw [lg_entry_eq]
  generalize (lg_sl ([.ref h0, .int p0]) ++ List.replicate (4 - (lg_sl ([.ref h0, .int p0])).length) Slot.unset).toArray = ls at hl ⊢
  have hl : lv_has ls 4 [(0, .ref h0), (1, .int p0)] := hl
  have hN := hF
  unfold F_X4_runs at hN
  refine lv_iconst (v := 0) hx hb dX4_runs_0 (by decide) ?_
  refine lv_istore_n (lv' := [(2, .int (0 : Int32)), (0, .ref h0), (1, .int p0)]) hx hb dX4_runs_1 rfl hl (by decide) rfl (fun ls hl => ?_)
  exact lp2 fuel (u.1, u.2.1, u.2.2) p0 (0 : Int32)  _ _ _ _ hV hfr hP hS (lv_sub hl [1, 2, 0] rfl) hN
set_option maxHeartbeats 4000000 in
set_option maxRecDepth 100000 in
theorem c_X4_ranks (l : Launch) (g : Gm) (L : List Nat) {A : Nat → Prop} (hL : kL L A) (G : Nat → va_E) (h0 : Nat) (r : Nat → Nat) (u : St) (hV : vM g L G h0 r u) (p0 : Int32) (p1 : Int32) (v : Int32) (w : St) (hF : F_X4_ranks u p0 p1 = some (v, w)) : Met l yX4_ranks wsX4_ranks ({ frames := 1, cells := 0, slots := 0, locals := 23 } : Room) (va_Pc [.ref h0, .int p0, .int p1] (kB g L A G)) (va_Qi (fun x (G9 : Nat → va_E) => x = v ∧ (vM g L G9 h0 r w ∧ frS h0 r 4 G G9)) (kE g L) A) 0 0 A := by
  refine Met.ofW (cc := cX4_ranks) (maxL := 5) (ret := (some .int)) (by decide) rfl ?_
  intro p e s m args below meth c s₁ B hml hv
  obtain ⟨rfl, hP, hC⟩ := hv
  have hx := B.exec
  have hb := B.bytes
  have hr := B.returns
  have hts := atoms_spec (ws := wsX4_ranks) B.pre
  have hown : s.vm.findClass RX4 = some m.cls := findClass_of_methodNamed B.named
  have hlk := B.notSynchronized
  have hS : va_S A s.heap s.heap [] := va_S.rf
  have hV0 := hV
  have hfr : frS h0 r 4 G G := frS.rf
  have lp72 : ∀ (n : Nat) (u : St) (x3 : Int32) (x4 : Int32) (G1 : Nat → va_E) (H : Heap) (locs : List Loc) (ls : Array Slot), vM g L G1 h0 r u → frS h0 r 4 G G1 → va_P g.1 vwCl (va_pl L G1) H → va_S A s.heap H locs → lv_has ls 5 [(0, .ref h0), (3, .int x3), (4, .int x4)] → FL_X4_ranks_72  n u x3 x4 = some (v, w) → W p l e (headSpec wsX4_ranks ({ frames := 1, cells := 0, slots := 0, locals := 23 } : Room)).room s m ([.ref h0, .int p0, .int p1] : List Value).toArray below meth c H locs 0 0 (MQ below (va_Qi (fun x (G9 : Nat → va_E) => x = v ∧ (vM g L G9 h0 r w ∧ frS h0 r 4 G G9)) (kE g L) A) ([.ref h0, .int p0, .int p1] : List Value).toArray s 0 0 A) (F0 m 72 ls []) := by
    intro n
    induction n with
    | zero =>
      intro u x3 x4 G1 H locs ls hV hfr hP hS hl hN
      exact absurd hN (by simp [FL_X4_ranks_72])
    | succ n ih =>
      intro u x3 x4 G1 H locs ls hV hfr hP hS hl hN
      rw [FL_X4_ranks_72] at hN
      refine lv_iload hx hb dX4_ranks_72 (lv_at hl 2 rfl) ?_
      refine lv_aload_n hx hb dX4_ranks_74 rfl (lv_at hl 0 rfl) ?_
      refine k_get (C := RX4) (T := TX4) (N := 8) (ci := 4) (v := .ref (r 0)) hx hb hts (fun _ h => List.mem_cons_of_mem _ (List.mem_append_right _ h)) hown hC hP (vO.m hV) (vO.o hV) rfl 0 (by decide) (hts (.fieldLink RX4 7 "OrderedClausesModel" "s" "[I") (List.mem_of_getElem? (i := 1) rfl)) rfl dX4_ranks_75 ?_
      refine lv_iconst (v := 0) hx hb dX4_ranks_78 (by decide) ?_
      obtain ⟨v5, hv5, hN⟩ := oB_spec hN
      refine k_ildE hx hb hC hP (vO.rm hV 0 (by decide)) (vO.ri hV 0 (by decide)) hv5 dX4_ranks_79 ?_
      refine lv_icmp_ge (tgt := 118) hx hb dX4_ranks_80 (by decide) (fun c6 => ?_) (fun c6 => ?_)
      · rw [if_pos c6] at hN
        refine lv_iload_n hx hb dX4_ranks_118 rfl (lv_at hl 1 rfl) ?_
        obtain ⟨hE, hE2⟩ := spair hN
        exact k_iretW hx hb hr hE ⟨hE2 ▸ hV, hfr⟩ hP hS hlk dX4_ranks_119
      · rw [if_neg c6] at hN
        refine lv_aload_n hx hb dX4_ranks_83 rfl (lv_at hl 0 rfl) ?_
        refine lv_iload hx hb dX4_ranks_84 (lv_at hl 2 rfl) ?_
        refine lv_iconst (v := 1) hx hb dX4_ranks_86 (by decide) ?_
        refine lv_aload_n hx hb dX4_ranks_87 rfl (lv_at hl 0 rfl) ?_
        refine lv_iload hx hb dX4_ranks_88 (lv_at hl 2 rfl) ?_
        refine lv_iconst (v := 1) hx hb dX4_ranks_90 (by decide) ?_
        obtain ⟨v7, hv7, hN⟩ := oB_spec hN
        refine k_iR hS (va_runV (As := [.int x4, .int (1 : Int32)]) (rest := [.int (1 : Int32), .int x4, .ref h0]) ⟨hx, hb, hml, hown, hts⟩ (c_X4_of l g L hL G1 h0 r u hV x4 (1 : Int32) v7 hv7) (cwV 2 hts gX4_ranks_X4_of rfl rfl rfl (by decide +kernel) ⟨Nat.le_of_ble_eq_true rfl, Nat.le_of_ble_eq_true rfl⟩) (k_preV hC hS hP (vO.m hV) (vO.o hV) rfl) rfl rfl hl.1 rfl (lv_room (Nat.le_of_ble_eq_true rfl)) dX4_ranks_91 ⟨Nat.zero_le _, Nat.zero_le _⟩) (fun H locs hP hS => ?_)
        refine lv_iconst (v := 1) hx hb dX4_ranks_94 (by decide) ?_
        refine lv_icmp_ne (tgt := 102) hx hb dX4_ranks_95 (by decide) (fun c9 => ?_) (fun c9 => ?_)
        · rw [if_neg c9] at hN
          refine lv_aload_n hx hb dX4_ranks_102 rfl (lv_at hl 0 rfl) ?_
          refine lv_iload hx hb dX4_ranks_103 (lv_at hl 2 rfl) ?_
          refine lv_iconst (v := 1) hx hb dX4_ranks_105 (by decide) ?_
          obtain ⟨v10, hv10, hN⟩ := oB_spec hN
          refine k_iR hS (va_runV (As := [.int x4, .int (1 : Int32)]) (rest := [.int (1 : Int32), .int x4, .ref h0]) ⟨hx, hb, hml, hown, hts⟩ (c_X4_of l g L hL G1 h0 r u hV x4 (1 : Int32) v10 hv10) (cwV 2 hts gX4_ranks_X4_of rfl rfl rfl (by decide +kernel) ⟨Nat.le_of_ble_eq_true rfl, Nat.le_of_ble_eq_true rfl⟩) (k_preV hC hS hP (vO.m hV) (vO.o hV) rfl) rfl rfl hl.1 rfl (lv_room (Nat.le_of_ble_eq_true rfl)) dX4_ranks_106 ⟨Nat.zero_le _, Nat.zero_le _⟩) (fun H locs hP hS => ?_)
          obtain ⟨w13, hw13, hN⟩ := oB_spec hN
          refine k_v hS (va_runV (As := [.int x4, .int (1 : Int32), .int v10]) (rest := []) ⟨hx, hb, hml, hown, hts⟩ (c_X4_puts l g L hL G1 h0 r u hV x4 (1 : Int32) v10 w13 hw13) (cwV 3 hts gX4_ranks_X4_puts rfl rfl rfl (by decide +kernel) ⟨Nat.le_of_ble_eq_true rfl, Nat.le_of_ble_eq_true rfl⟩) (k_preV hC hS hP (vO.m hV) (vO.o hV) rfl) rfl rfl hl.1 rfl (lv_room (Nat.le_of_ble_eq_true rfl)) dX4_ranks_109 ⟨Nat.zero_le _, Nat.zero_le _⟩) (fun G14 H locs hq hP hS => ?_)
          obtain ⟨hV, hfq⟩ := hq
          have hfr := frS.tr hfr hfq
          refine lv_iinc (v := (x4 + 1)) (lv' := [(4, .int (x4 + 1)), (0, .ref h0), (3, .int x3)]) hx hb dX4_ranks_112 hl (k := 2) rfl rfl (by decide) rfl (fun ls hl => ?_)
          refine lv_goto (tgt := 72) hx hb dX4_ranks_115 (by decide) ?_
          exact ih (w13.1, w13.2.1, w13.2.2) x3 (x4 + 1)  _ _ _ _ hV hfr hP hS (lv_sub hl [1, 2, 0] rfl) hN
        · rw [if_pos c9] at hN
          refine lv_iconst (v := 0) hx hb dX4_ranks_98 (by decide) ?_
          refine lv_goto (tgt := 109) hx hb dX4_ranks_99 (by decide) ?_
          obtain ⟨w16, hw16, hN⟩ := oB_spec hN
          refine k_v hS (va_runV (As := [.int x4, .int (1 : Int32), .int (0 : Int32)]) (rest := []) ⟨hx, hb, hml, hown, hts⟩ (c_X4_puts l g L hL G1 h0 r u hV x4 (1 : Int32) (0 : Int32) w16 hw16) (cwV 3 hts gX4_ranks_X4_puts rfl rfl rfl (by decide +kernel) ⟨Nat.le_of_ble_eq_true rfl, Nat.le_of_ble_eq_true rfl⟩) (k_preV hC hS hP (vO.m hV) (vO.o hV) rfl) rfl rfl hl.1 rfl (lv_room (Nat.le_of_ble_eq_true rfl)) dX4_ranks_109 ⟨Nat.zero_le _, Nat.zero_le _⟩) (fun G17 H locs hq hP hS => ?_)
          obtain ⟨hV, hfq⟩ := hq
          have hfr := frS.tr hfr hfq
          refine lv_iinc (v := (x4 + 1)) (lv' := [(4, .int (x4 + 1)), (0, .ref h0), (3, .int x3)]) hx hb dX4_ranks_112 hl (k := 2) rfl rfl (by decide) rfl (fun ls hl => ?_)
          refine lv_goto (tgt := 72) hx hb dX4_ranks_115 (by decide) ?_
          exact ih (w16.1, w16.2.1, w16.2.2) x3 (x4 + 1)  _ _ _ _ hV hfr hP hS (lv_sub hl [1, 2, 0] rfl) hN
  have lp12 : ∀ (n : Nat) (u : St) (x1 : Int32) (x2 : Int32) (x3 : Int32) (x4 : Int32) (G1 : Nat → va_E) (H : Heap) (locs : List Loc) (ls : Array Slot), vM g L G1 h0 r u → frS h0 r 4 G G1 → va_P g.1 vwCl (va_pl L G1) H → va_S A s.heap H locs → lv_has ls 5 [(0, .ref h0), (1, .int x1), (2, .int x2), (3, .int x3), (4, .int x4)] → FL_X4_ranks_12  n u x1 x2 x3 x4 = some (v, w) → W p l e (headSpec wsX4_ranks ({ frames := 1, cells := 0, slots := 0, locals := 23 } : Room)).room s m ([.ref h0, .int p0, .int p1] : List Value).toArray below meth c H locs 0 0 (MQ below (va_Qi (fun x (G9 : Nat → va_E) => x = v ∧ (vM g L G9 h0 r w ∧ frS h0 r 4 G G9)) (kE g L) A) ([.ref h0, .int p0, .int p1] : List Value).toArray s 0 0 A) (F0 m 12 ls []) := by
    intro n
    induction n with
    | zero =>
      intro u x1 x2 x3 x4 G1 H locs ls hV hfr hP hS hl hN
      exact absurd hN (by simp [FL_X4_ranks_12])
    | succ n ih =>
      intro u x1 x2 x3 x4 G1 H locs ls hV hfr hP hS hl hN
      rw [FL_X4_ranks_12] at hN
      refine lv_iload hx hb dX4_ranks_12 (lv_at hl 4 rfl) ?_
      refine lv_bipush (v := 6) hx hb dX4_ranks_14 (by decide) ?_
      refine lv_icmp_ge (tgt := 60) hx hb dX4_ranks_16 (by decide) (fun c2 => ?_) (fun c2 => ?_)
      · rw [if_pos c2] at hN
        refine lv_aload_n hx hb dX4_ranks_60 rfl (lv_at hl 0 rfl) ?_
        refine k_get (C := RX4) (T := TX4) (N := 8) (ci := 4) (v := .ref (r 0)) hx hb hts (fun _ h => List.mem_cons_of_mem _ (List.mem_append_right _ h)) hown hC hP (vO.m hV) (vO.o hV) rfl 0 (by decide) (hts (.fieldLink RX4 7 "OrderedClausesModel" "s" "[I") (List.mem_of_getElem? (i := 1) rfl)) rfl dX4_ranks_61 ?_
        refine lv_iconst (v := 5) hx hb dX4_ranks_64 (by decide) ?_
        refine lv_iload_n hx hb dX4_ranks_65 rfl (lv_at hl 1 rfl) ?_
        refine lv_iadd hx hb dX4_ranks_66 ?_
        refine lv_iload_n hx hb dX4_ranks_67 rfl (lv_at hl 2 rfl) ?_
        obtain ⟨y3, hy3, hN⟩ := oB_spec hN
        refine k_istE hx hb hL hC hP hS (vO.rm hV 0 (by decide)) (vO.ri hV 0 (by decide)) hy3 dX4_ranks_68 (fun G4 H locs hq hP hS => ?_)
        have hV : vM g L G4 h0 r ((va_up u.1 0 y3), u.2.1, u.2.2) := by rw [hq]; exact vO.setI (f := u.1) (gg := u.2.1) (k := u.2.2) hV (by decide) 0 (by decide) _
        have hfr : frS h0 r 4 G G4 := by rw [hq]; exact vO.frI hfr 0 (by decide) _
        refine lv_iconst (v := 0) hx hb dX4_ranks_69 (by decide) ?_
        refine lv_istore (lv' := [(4, .int (0 : Int32)), (0, .ref h0), (1, .int x1), (2, .int x2), (3, .int x3)]) hx hb dX4_ranks_70 hl (by decide) rfl (fun ls hl => ?_)
        exact lp72 fuel ((va_up u.1 0 y3), u.2.1, u.2.2) x3 (0 : Int32)  _ _ _ _ hV hfr hP hS (lv_sub hl [1, 4, 0] rfl) hN
      · rw [if_neg c2] at hN
        refine lv_aload_n hx hb dX4_ranks_19 rfl (lv_at hl 0 rfl) ?_
        refine k_get (C := RX4) (T := TX4) (N := 8) (ci := 4) (v := .ref (r 0)) hx hb hts (fun _ h => List.mem_cons_of_mem _ (List.mem_append_right _ h)) hown hC hP (vO.m hV) (vO.o hV) rfl 0 (by decide) (hts (.fieldLink RX4 7 "OrderedClausesModel" "s" "[I") (List.mem_of_getElem? (i := 1) rfl)) rfl dX4_ranks_20 ?_
        refine lv_iconst (v := 5) hx hb dX4_ranks_23 (by decide) ?_
        refine lv_iload hx hb dX4_ranks_24 (lv_at hl 4 rfl) ?_
        refine lv_iadd hx hb dX4_ranks_26 ?_
        refine lv_aload_n hx hb dX4_ranks_27 rfl (lv_at hl 0 rfl) ?_
        refine k_get (C := RX4) (T := TX4) (N := 8) (ci := 4) (v := .ref (r 0)) hx hb hts (fun _ h => List.mem_cons_of_mem _ (List.mem_append_right _ h)) hown hC hP (vO.m hV) (vO.o hV) rfl 0 (by decide) (hts (.fieldLink RX4 7 "OrderedClausesModel" "s" "[I") (List.mem_of_getElem? (i := 1) rfl)) rfl dX4_ranks_28 ?_
        refine lv_iconst (v := 5) hx hb dX4_ranks_31 (by decide) ?_
        refine lv_iload hx hb dX4_ranks_32 (lv_at hl 4 rfl) ?_
        refine lv_iadd hx hb dX4_ranks_34 ?_
        obtain ⟨v18, hv18, hN⟩ := oB_spec hN
        refine k_ildE hx hb hC hP (vO.rm hV 0 (by decide)) (vO.ri hV 0 (by decide)) hv18 dX4_ranks_35 ?_
        refine lv_iload_n hx hb dX4_ranks_36 rfl (lv_at hl 2 rfl) ?_
        refine lv_icmp_ne (tgt := 44) hx hb dX4_ranks_37 (by decide) (fun c19 => ?_) (fun c19 => ?_)
        · rw [if_neg c19] at hN
          refine lv_aload_n hx hb dX4_ranks_44 rfl (lv_at hl 0 rfl) ?_
          refine k_get (C := RX4) (T := TX4) (N := 8) (ci := 4) (v := .ref (r 0)) hx hb hts (fun _ h => List.mem_cons_of_mem _ (List.mem_append_right _ h)) hown hC hP (vO.m hV) (vO.o hV) rfl 0 (by decide) (hts (.fieldLink RX4 7 "OrderedClausesModel" "s" "[I") (List.mem_of_getElem? (i := 1) rfl)) rfl dX4_ranks_45 ?_
          refine lv_iconst (v := 5) hx hb dX4_ranks_48 (by decide) ?_
          refine lv_iload hx hb dX4_ranks_49 (lv_at hl 4 rfl) ?_
          refine lv_iadd hx hb dX4_ranks_51 ?_
          obtain ⟨v20, hv20, hN⟩ := oB_spec hN
          refine k_ildE hx hb hC hP (vO.rm hV 0 (by decide)) (vO.ri hV 0 (by decide)) hv20 dX4_ranks_52 ?_
          obtain ⟨y21, hy21, hN⟩ := oB_spec hN
          refine k_istE hx hb hL hC hP hS (vO.rm hV 0 (by decide)) (vO.ri hV 0 (by decide)) hy21 dX4_ranks_53 (fun G22 H locs hq hP hS => ?_)
          have hV : vM g L G22 h0 r ((va_up u.1 0 y21), u.2.1, u.2.2) := by rw [hq]; exact vO.setI (f := u.1) (gg := u.2.1) (k := u.2.2) hV (by decide) 0 (by decide) _
          have hfr : frS h0 r 4 G G22 := by rw [hq]; exact vO.frI hfr 0 (by decide) _
          refine lv_iinc (v := (x4 + 1)) (lv' := [(4, .int (x4 + 1)), (0, .ref h0), (1, .int x1), (2, .int x2), (3, .int x3)]) hx hb dX4_ranks_54 hl (k := 4) rfl rfl (by decide) rfl (fun ls hl => ?_)
          refine lv_goto (tgt := 12) hx hb dX4_ranks_57 (by decide) ?_
          exact ih ((va_up u.1 0 y21), u.2.1, u.2.2) x1 x2 x3 (x4 + 1)  _ _ _ _ hV hfr hP hS (lv_sub hl [1, 2, 3, 4, 0] rfl) hN
        · rw [if_pos c19] at hN
          refine lv_iload_n hx hb dX4_ranks_40 rfl (lv_at hl 3 rfl) ?_
          refine lv_goto (tgt := 53) hx hb dX4_ranks_41 (by decide) ?_
          obtain ⟨y23, hy23, hN⟩ := oB_spec hN
          refine k_istE hx hb hL hC hP hS (vO.rm hV 0 (by decide)) (vO.ri hV 0 (by decide)) hy23 dX4_ranks_53 (fun G24 H locs hq hP hS => ?_)
          have hV : vM g L G24 h0 r ((va_up u.1 0 y23), u.2.1, u.2.2) := by rw [hq]; exact vO.setI (f := u.1) (gg := u.2.1) (k := u.2.2) hV (by decide) 0 (by decide) _
          have hfr : frS h0 r 4 G G24 := by rw [hq]; exact vO.frI hfr 0 (by decide) _
          refine lv_iinc (v := (x4 + 1)) (lv' := [(4, .int (x4 + 1)), (0, .ref h0), (1, .int x1), (2, .int x2), (3, .int x3)]) hx hb dX4_ranks_54 hl (k := 4) rfl rfl (by decide) rfl (fun ls hl => ?_)
          refine lv_goto (tgt := 12) hx hb dX4_ranks_57 (by decide) ?_
          exact ih ((va_up u.1 0 y23), u.2.1, u.2.2) x1 x2 x3 (x4 + 1)  _ _ _ _ hV hfr hP hS (lv_sub hl [1, 2, 3, 4, 0] rfl) hN
  have hl := lv_entry ([.ref h0, .int p0, .int p1]) (n := 5) (Nat.le_of_ble_eq_true rfl)
  rw [lg_entry_eq]
  generalize (lg_sl ([.ref h0, .int p0, .int p1]) ++ List.replicate (5 - (lg_sl ([.ref h0, .int p0, .int p1])).length) Slot.unset).toArray = ls at hl ⊢
  have hl : lv_has ls 5 [(0, .ref h0), (1, .int p0), (2, .int p1)] := hl
  have hN := hF
  unfold F_X4_ranks at hN
  refine lv_aload_n hx hb dX4_ranks_0 rfl (lv_at hl 0 rfl) ?_
  refine k_get (C := RX4) (T := TX4) (N := 8) (ci := 4) (v := .ref (r 0)) hx hb hts (fun _ h => List.mem_cons_of_mem _ (List.mem_append_right _ h)) hown hC hP (vO.m hV) (vO.o hV) rfl 0 (by decide) (hts (.fieldLink RX4 7 "OrderedClausesModel" "s" "[I") (List.mem_of_getElem? (i := 1) rfl)) rfl dX4_ranks_1 ?_
  refine lv_iconst (v := 5) hx hb dX4_ranks_4 (by decide) ?_
  refine lv_iload_n hx hb dX4_ranks_5 rfl (lv_at hl 1 rfl) ?_
  refine lv_iadd hx hb dX4_ranks_6 ?_
  obtain ⟨v1, hv1, hN⟩ := oB_spec hN
  refine k_ildE hx hb hC hP (vO.rm hV 0 (by decide)) (vO.ri hV 0 (by decide)) hv1 dX4_ranks_7 ?_
  refine lv_istore_n (lv' := [(3, .int v1), (0, .ref h0), (1, .int p0), (2, .int p1)]) hx hb dX4_ranks_8 rfl hl (by decide) rfl (fun ls hl => ?_)
  refine lv_iconst (v := 0) hx hb dX4_ranks_9 (by decide) ?_
  refine lv_istore (lv' := [(4, .int (0 : Int32)), (3, .int v1), (0, .ref h0), (1, .int p0), (2, .int p1)]) hx hb dX4_ranks_10 hl (by decide) rfl (fun ls hl => ?_)
  exact lp12 fuel (u.1, u.2.1, u.2.2) p0 p1 v1 (0 : Int32)  _ _ _ _ hV hfr hP hS (lv_sub hl [2, 3, 4, 1, 0] rfl) hN
set_option maxHeartbeats 4000000 in
set_option maxRecDepth 100000 in
theorem c_X4_clears (l : Launch) (g : Gm) (L : List Nat) {A : Nat → Prop} (hL : kL L A) (G : Nat → va_E) (h0 : Nat) (r : Nat → Nat) (u : St) (hV : vM g L G h0 r u) (v : Int32) (w : St) (hF : F_X4_clears u = some (v, w)) : Met l yX4_clears wsX4_clears ({ frames := 0, cells := 0, slots := 0, locals := 0 } : Room) (va_Pc [.ref h0] (kB g L A G)) (va_Qi (fun x (G9 : Nat → va_E) => x = v ∧ (vM g L G9 h0 r w ∧ frS h0 r 4 G G9)) (kE g L) A) 0 0 A := by
  refine Met.ofW (cc := cX4_clears) (maxL := 3) (ret := (some .int)) (by decide) rfl ?_
  intro p e s m args below meth c s₁ B hml hv
  obtain ⟨rfl, hP, hC⟩ := hv
  have hx := B.exec
  have hb := B.bytes
  have hr := B.returns
  have hts := atoms_spec (ws := wsX4_clears) B.pre
  have hown : s.vm.findClass RX4 = some m.cls := findClass_of_methodNamed B.named
  have hlk := B.notSynchronized
  have hS : va_S A s.heap s.heap [] := va_S.rf
  have hV0 := hV
  have hfr : frS h0 r 4 G G := frS.rf
  have lp10 : ∀ (n : Nat) (u : St) (x1 : Int32) (x2 : Int32) (G1 : Nat → va_E) (H : Heap) (locs : List Loc) (ls : Array Slot), vM g L G1 h0 r u → frS h0 r 4 G G1 → va_P g.1 vwCl (va_pl L G1) H → va_S A s.heap H locs → lv_has ls 3 [(0, .ref h0), (1, .int x1), (2, .int x2)] → FL_X4_clears_10  n u x1 x2 = some (v, w) → W p l e (headSpec wsX4_clears ({ frames := 0, cells := 0, slots := 0, locals := 0 } : Room)).room s m ([.ref h0] : List Value).toArray below meth c H locs 0 0 (MQ below (va_Qi (fun x (G9 : Nat → va_E) => x = v ∧ (vM g L G9 h0 r w ∧ frS h0 r 4 G G9)) (kE g L) A) ([.ref h0] : List Value).toArray s 0 0 A) (F0 m 10 ls []) := by
    intro n
    induction n with
    | zero =>
      intro u x1 x2 G1 H locs ls hV hfr hP hS hl hN
      exact absurd hN (by simp [FL_X4_clears_10])
    | succ n ih =>
      intro u x1 x2 G1 H locs ls hV hfr hP hS hl hN
      rw [FL_X4_clears_10] at hN
      refine lv_iload_n hx hb dX4_clears_10 rfl (lv_at hl 2 rfl) ?_
      refine lv_sipush (v := 251) hx hb dX4_clears_11 (by decide) ?_
      refine lv_icmp_ge (tgt := 30) hx hb dX4_clears_14 (by decide) (fun c2 => ?_) (fun c2 => ?_)
      · rw [if_pos c2] at hN
        refine lv_aload_n hx hb dX4_clears_30 rfl (lv_at hl 0 rfl) ?_
        refine k_get (C := RX4) (T := TX4) (N := 8) (ci := 4) (v := .ref (r 0)) hx hb hts (fun _ h => List.mem_cons_of_mem _ (List.mem_append_right _ h)) hown hC hP (vO.m hV) (vO.o hV) rfl 0 (by decide) (hts (.fieldLink RX4 7 "OrderedClausesModel" "s" "[I") (List.mem_of_getElem? (i := 1) rfl)) rfl dX4_clears_31 ?_
        refine lv_iconst (v := 0) hx hb dX4_clears_34 (by decide) ?_
        refine lv_iconst (v := 0) hx hb dX4_clears_35 (by decide) ?_
        obtain ⟨y3, hy3, hN⟩ := oB_spec hN
        refine k_istE hx hb hL hC hP hS (vO.rm hV 0 (by decide)) (vO.ri hV 0 (by decide)) hy3 dX4_clears_36 (fun G4 H locs hq hP hS => ?_)
        have hV : vM g L G4 h0 r ((va_up u.1 0 y3), u.2.1, u.2.2) := by rw [hq]; exact vO.setI (f := u.1) (gg := u.2.1) (k := u.2.2) hV (by decide) 0 (by decide) _
        have hfr : frS h0 r 4 G G4 := by rw [hq]; exact vO.frI hfr 0 (by decide) _
        refine lv_aload_n hx hb dX4_clears_37 rfl (lv_at hl 0 rfl) ?_
        refine k_get (C := RX4) (T := TX4) (N := 8) (ci := 4) (v := .ref (r 0)) hx hb hts (fun _ h => List.mem_cons_of_mem _ (List.mem_append_right _ h)) hown hC hP (vO.m hV) (vO.o hV) rfl 0 (by decide) (hts (.fieldLink RX4 7 "OrderedClausesModel" "s" "[I") (List.mem_of_getElem? (i := 1) rfl)) rfl dX4_clears_38 ?_
        refine lv_iconst (v := 1) hx hb dX4_clears_41 (by decide) ?_
        refine lv_iconst (v := 0) hx hb dX4_clears_42 (by decide) ?_
        obtain ⟨y5, hy5, hN⟩ := oB_spec hN
        refine k_istE hx hb hL hC hP hS (vO.rm hV 0 (by decide)) (vO.ri hV 0 (by decide)) hy5 dX4_clears_43 (fun G6 H locs hq hP hS => ?_)
        have hV : vM g L G6 h0 r ((va_up (va_up u.1 0 y3) 0 y5), u.2.1, u.2.2) := by rw [hq]; exact vO.setI (f := (va_up u.1 0 y3)) (gg := u.2.1) (k := u.2.2) hV (by decide) 0 (by decide) _
        have hfr : frS h0 r 4 G G6 := by rw [hq]; exact vO.frI hfr 0 (by decide) _
        refine lv_iload_n hx hb dX4_clears_44 rfl (lv_at hl 1 rfl) ?_
        obtain ⟨hE, hE2⟩ := spair hN
        exact k_iretW hx hb hr hE ⟨hE2 ▸ hV, hfr⟩ hP hS hlk dX4_clears_45
      · rw [if_neg c2] at hN
        refine lv_aload_n hx hb dX4_clears_17 rfl (lv_at hl 0 rfl) ?_
        refine k_get (C := RX4) (T := TX4) (N := 8) (ci := 4) (v := .ref (r 0)) hx hb hts (fun _ h => List.mem_cons_of_mem _ (List.mem_append_right _ h)) hown hC hP (vO.m hV) (vO.o hV) rfl 0 (by decide) (hts (.fieldLink RX4 7 "OrderedClausesModel" "s" "[I") (List.mem_of_getElem? (i := 1) rfl)) rfl dX4_clears_18 ?_
        refine lv_iload_n hx hb dX4_clears_21 rfl (lv_at hl 2 rfl) ?_
        refine lv_iconst (v := 0) hx hb dX4_clears_22 (by decide) ?_
        obtain ⟨y7, hy7, hN⟩ := oB_spec hN
        refine k_istE hx hb hL hC hP hS (vO.rm hV 0 (by decide)) (vO.ri hV 0 (by decide)) hy7 dX4_clears_23 (fun G8 H locs hq hP hS => ?_)
        have hV : vM g L G8 h0 r ((va_up u.1 0 y7), u.2.1, u.2.2) := by rw [hq]; exact vO.setI (f := u.1) (gg := u.2.1) (k := u.2.2) hV (by decide) 0 (by decide) _
        have hfr : frS h0 r 4 G G8 := by rw [hq]; exact vO.frI hfr 0 (by decide) _
        refine lv_iinc (v := (x2 + 1)) (lv' := [(2, .int (x2 + 1)), (0, .ref h0), (1, .int x1)]) hx hb dX4_clears_24 hl (k := 2) rfl rfl (by decide) rfl (fun ls hl => ?_)
        refine lv_goto (tgt := 10) hx hb dX4_clears_27 (by decide) ?_
        exact ih ((va_up u.1 0 y7), u.2.1, u.2.2) x1 (x2 + 1)  _ _ _ _ hV hfr hP hS (lv_sub hl [1, 2, 0] rfl) hN
  have hl := lv_entry ([.ref h0]) (n := 3) (Nat.le_of_ble_eq_true rfl)
  rw [lg_entry_eq]
  generalize (lg_sl ([.ref h0]) ++ List.replicate (3 - (lg_sl ([.ref h0])).length) Slot.unset).toArray = ls at hl ⊢
  have hl : lv_has ls 3 [(0, .ref h0)] := hl
  have hN := hF
  unfold F_X4_clears at hN
  refine lv_aload_n hx hb dX4_clears_0 rfl (lv_at hl 0 rfl) ?_
  refine k_get (C := RX4) (T := TX4) (N := 8) (ci := 4) (v := .ref (r 0)) hx hb hts (fun _ h => List.mem_cons_of_mem _ (List.mem_append_right _ h)) hown hC hP (vO.m hV) (vO.o hV) rfl 0 (by decide) (hts (.fieldLink RX4 7 "OrderedClausesModel" "s" "[I") (List.mem_of_getElem? (i := 1) rfl)) rfl dX4_clears_1 ?_
  refine lv_iconst (v := 0) hx hb dX4_clears_4 (by decide) ?_
  obtain ⟨v1, hv1, hN⟩ := oB_spec hN
  refine k_ildE hx hb hC hP (vO.rm hV 0 (by decide)) (vO.ri hV 0 (by decide)) hv1 dX4_clears_5 ?_
  refine lv_istore_n (lv' := [(1, .int v1), (0, .ref h0)]) hx hb dX4_clears_6 rfl hl (by decide) rfl (fun ls hl => ?_)
  refine lv_bipush (v := 11) hx hb dX4_clears_7 (by decide) ?_
  refine lv_istore_n (lv' := [(2, .int (11 : Int32)), (1, .int v1), (0, .ref h0)]) hx hb dX4_clears_9 rfl hl (by decide) rfl (fun ls hl => ?_)
  exact lp10 fuel (u.1, u.2.1, u.2.2) v1 (11 : Int32)  _ _ _ _ hV hfr hP hS (lv_sub hl [2, 1, 0] rfl) hN
set_option maxHeartbeats 4000000 in
set_option maxRecDepth 100000 in
theorem c_X4_tell (l : Launch) (g : Gm) (L : List Nat) {A : Nat → Prop} (hL : kL L A) (G : Nat → va_E) (h0 : Nat) (r : Nat → Nat) (u : St) (hV : vM g L G h0 r u) (p0 : Int32) (v : Int32) (w : St) (hF : F_X4_tell u p0 = some (v, w)) : Met l yX4_tell wsX4_tell ({ frames := 4, cells := 0, slots := 0, locals := 93 } : Room) (va_Pc [.ref h0, .int p0] (kB g L A G)) (va_Qi (fun x (G9 : Nat → va_E) => x = v ∧ (vM g L G9 h0 r w ∧ frS h0 r 4 G G9)) (kE g L) A) 0 0 A := by
  refine Met.ofW (cc := cX4_tell) (maxL := 2) (ret := (some .int)) (by decide) rfl ?_
  intro p e s m args below meth c s₁ B hml hv
  obtain ⟨rfl, hP, hC⟩ := hv
  have hx := B.exec
  have hb := B.bytes
  have hr := B.returns
  have hts := atoms_spec (ws := wsX4_tell) B.pre
  have hown : s.vm.findClass RX4 = some m.cls := findClass_of_methodNamed B.named
  have hlk := B.notSynchronized
  have hS : va_S A s.heap s.heap [] := va_S.rf
  have hV0 := hV
  have hfr : frS h0 r 4 G G := frS.rf
  have hl := lv_entry ([.ref h0, .int p0]) (n := 2) (Nat.le_of_ble_eq_true rfl)
  rw [lg_entry_eq]
  generalize (lg_sl ([.ref h0, .int p0]) ++ List.replicate (2 - (lg_sl ([.ref h0, .int p0])).length) Slot.unset).toArray = ls at hl ⊢
  have hl : lv_has ls 2 [(0, .ref h0), (1, .int p0)] := hl
  have hN := hF
  unfold F_X4_tell at hN
  refine lv_aload_n hx hb dX4_tell_0 rfl (lv_at hl 0 rfl) ?_
  obtain ⟨w2, hw2, hN⟩ := oB_spec hN
  refine k_v hS (va_runV (As := []) (rest := []) ⟨hx, hb, hml, hown, hts⟩ (c_X4_begins l g L hL G h0 r u hV w2 hw2) (cwV 0 hts gX4_tell_X4_begins rfl rfl rfl (by decide +kernel) ⟨Nat.le_of_ble_eq_true rfl, Nat.le_of_ble_eq_true rfl⟩) (k_preV hC hS hP (vO.m hV) (vO.o hV) rfl) rfl rfl hl.1 rfl (lv_room (Nat.le_of_ble_eq_true rfl)) dX4_tell_1 ⟨Nat.zero_le _, Nat.zero_le _⟩) (fun G3 H locs hq hP hS => ?_)
  obtain ⟨hV, hfq⟩ := hq
  have hfr := frS.tr hfr hfq
  refine lv_aload_n hx hb dX4_tell_4 rfl (lv_at hl 0 rfl) ?_
  refine lv_iload_n hx hb dX4_tell_5 rfl (lv_at hl 1 rfl) ?_
  refine lv_iconst (v := 0) hx hb dX4_tell_6 (by decide) ?_
  refine lv_sipush (v := 4095) hx hb dX4_tell_7 (by decide) ?_
  obtain ⟨v4, hv4, hN⟩ := oB_spec hN
  refine k_iR hS (va_runS (As := [.int p0, .int (0 : Int32), .int (4095 : Int32)]) (rest := [.ref h0]) ⟨hx, hb, hml, hown, hts⟩ (c_X4_in l g L hL G3 p0 (0 : Int32) (4095 : Int32) v4 hv4) (va_cwS 3 hts gX4_tell_X4_in rfl rfl rfl (by decide +kernel) ⟨Nat.le_of_ble_eq_true rfl, Nat.le_of_ble_eq_true rfl⟩) (k_pre hC hS hP) rfl rfl hl.1 rfl (lv_room (Nat.le_of_ble_eq_true rfl)) dX4_tell_10 ⟨Nat.zero_le _, Nat.zero_le _⟩) (fun H locs hP hS => ?_)
  refine lv_if_eq (tgt := 27) hx hb dX4_tell_13 (by decide) (fun c6 => ?_) (fun c6 => ?_)
  · rw [if_pos c6] at hN
    refine lv_ldc (v := (-1000001)) hx hb hown (hts (.constant RX4 22 (-1000001)) (List.mem_of_getElem? (i := 1) rfl)) dX4_tell_27 ?_
    obtain ⟨v7, w8, hv7, hN⟩ := oB2_spec hN
    refine k_iW hS (va_runV (As := [.int ((-1000001) : Int32)]) (rest := []) ⟨hx, hb, hml, hown, hts⟩ (c_X4_acted l g L hL G3 h0 r (w2.1, w2.2.1, w2.2.2) hV ((-1000001) : Int32) v7 w8 hv7) (cwV 1 hts gX4_tell_X4_acted rfl rfl rfl (by decide +kernel) ⟨Nat.le_of_ble_eq_true rfl, Nat.le_of_ble_eq_true rfl⟩) (k_preV hC hS hP (vO.m hV) (vO.o hV) rfl) rfl rfl hl.1 rfl (lv_room (Nat.le_of_ble_eq_true rfl)) dX4_tell_29 ⟨Nat.zero_le _, Nat.zero_le _⟩) (fun G9 H locs hq hP hS => ?_)
    obtain ⟨hV, hfq⟩ := hq
    have hfr := frS.tr hfr hfq
    obtain ⟨hE, hE2⟩ := spair hN
    exact k_iretW hx hb hr hE ⟨hE2 ▸ hV, hfr⟩ hP hS hlk dX4_tell_32
  · rw [if_neg c6] at hN
    refine lv_aload_n hx hb dX4_tell_16 rfl (lv_at hl 0 rfl) ?_
    refine lv_iload_n hx hb dX4_tell_17 rfl (lv_at hl 1 rfl) ?_
    refine lv_iconst (v := (-1)) hx hb dX4_tell_18 (by decide) ?_
    refine lv_iconst (v := (-1)) hx hb dX4_tell_19 (by decide) ?_
    refine lv_iconst (v := (-1)) hx hb dX4_tell_20 (by decide) ?_
    obtain ⟨v10, w11, hv10, hN⟩ := oB2_spec hN
    refine k_iW hS (va_runV (As := [.int p0, .int ((-1) : Int32), .int ((-1) : Int32), .int ((-1) : Int32)]) (rest := [.ref h0]) ⟨hx, hb, hml, hown, hts⟩ (c_X4_comes l g L hL G3 h0 r (w2.1, w2.2.1, w2.2.2) hV p0 ((-1) : Int32) ((-1) : Int32) ((-1) : Int32) v10 w11 hv10) (cwV 4 hts gX4_tell_X4_comes rfl rfl rfl (by decide +kernel) ⟨Nat.le_of_ble_eq_true rfl, Nat.le_of_ble_eq_true rfl⟩) (k_preV hC hS hP (vO.m hV) (vO.o hV) rfl) rfl rfl hl.1 rfl (lv_room (Nat.le_of_ble_eq_true rfl)) dX4_tell_21 ⟨Nat.zero_le _, Nat.zero_le _⟩) (fun G12 H locs hq hP hS => ?_)
    obtain ⟨hV, hfq⟩ := hq
    have hfr := frS.tr hfr hfq
    refine lv_goto (tgt := 29) hx hb dX4_tell_24 (by decide) ?_
    obtain ⟨v13, w14, hv13, hN⟩ := oB2_spec hN
    refine k_iW hS (va_runV (As := [.int v10]) (rest := []) ⟨hx, hb, hml, hown, hts⟩ (c_X4_acted l g L hL G12 h0 r (w11.1, w11.2.1, w11.2.2) hV v10 v13 w14 hv13) (cwV 1 hts gX4_tell_X4_acted rfl rfl rfl (by decide +kernel) ⟨Nat.le_of_ble_eq_true rfl, Nat.le_of_ble_eq_true rfl⟩) (k_preV hC hS hP (vO.m hV) (vO.o hV) rfl) rfl rfl hl.1 rfl (lv_room (Nat.le_of_ble_eq_true rfl)) dX4_tell_29 ⟨Nat.zero_le _, Nat.zero_le _⟩) (fun G15 H locs hq hP hS => ?_)
    obtain ⟨hV, hfq⟩ := hq
    have hfr := frS.tr hfr hfq
    obtain ⟨hE, hE2⟩ := spair hN
    exact k_iretW hx hb hr hE ⟨hE2 ▸ hV, hfr⟩ hP hS hlk dX4_tell_32
set_option maxHeartbeats 4000000 in
set_option maxRecDepth 100000 in
theorem c_X4_rank (l : Launch) (g : Gm) (L : List Nat) {A : Nat → Prop} (hL : kL L A) (G : Nat → va_E) (h0 : Nat) (r : Nat → Nat) (u : St) (hV : vM g L G h0 r u) (p0 : Int32) (p1 : Int32) (v : Int32) (w : St) (hF : F_X4_rank u p0 p1 = some (v, w)) : Met l yX4_rank wsX4_rank ({ frames := 2, cells := 0, slots := 0, locals := 47 } : Room) (va_Pc [.ref h0, .int p0, .int p1] (kB g L A G)) (va_Qi (fun x (G9 : Nat → va_E) => x = v ∧ (vM g L G9 h0 r w ∧ frS h0 r 4 G G9)) (kE g L) A) 0 0 A := by
  refine Met.ofW (cc := cX4_rank) (maxL := 3) (ret := (some .int)) (by decide) rfl ?_
  intro p e s m args below meth c s₁ B hml hv
  obtain ⟨rfl, hP, hC⟩ := hv
  have hx := B.exec
  have hb := B.bytes
  have hr := B.returns
  have hts := atoms_spec (ws := wsX4_rank) B.pre
  have hown : s.vm.findClass RX4 = some m.cls := findClass_of_methodNamed B.named
  have hlk := B.notSynchronized
  have hS : va_S A s.heap s.heap [] := va_S.rf
  have hV0 := hV
  have hfr : frS h0 r 4 G G := frS.rf
  have hl := lv_entry ([.ref h0, .int p0, .int p1]) (n := 3) (Nat.le_of_ble_eq_true rfl)
  rw [lg_entry_eq]
  generalize (lg_sl ([.ref h0, .int p0, .int p1]) ++ List.replicate (3 - (lg_sl ([.ref h0, .int p0, .int p1])).length) Slot.unset).toArray = ls at hl ⊢
  have hl : lv_has ls 3 [(0, .ref h0), (1, .int p0), (2, .int p1)] := hl
  have hN := hF
  unfold F_X4_rank at hN
  refine lv_aload_n hx hb dX4_rank_0 rfl (lv_at hl 0 rfl) ?_
  obtain ⟨w2, hw2, hN⟩ := oB_spec hN
  refine k_v hS (va_runV (As := []) (rest := []) ⟨hx, hb, hml, hown, hts⟩ (c_X4_begins l g L hL G h0 r u hV w2 hw2) (cwV 0 hts gX4_rank_X4_begins rfl rfl rfl (by decide +kernel) ⟨Nat.le_of_ble_eq_true rfl, Nat.le_of_ble_eq_true rfl⟩) (k_preV hC hS hP (vO.m hV) (vO.o hV) rfl) rfl rfl hl.1 rfl (lv_room (Nat.le_of_ble_eq_true rfl)) dX4_rank_1 ⟨Nat.zero_le _, Nat.zero_le _⟩) (fun G3 H locs hq hP hS => ?_)
  obtain ⟨hV, hfq⟩ := hq
  have hfr := frS.tr hfr hfq
  refine lv_aload_n hx hb dX4_rank_4 rfl (lv_at hl 0 rfl) ?_
  refine lv_iload_n hx hb dX4_rank_5 rfl (lv_at hl 1 rfl) ?_
  refine lv_iconst (v := 0) hx hb dX4_rank_6 (by decide) ?_
  refine lv_iconst (v := 5) hx hb dX4_rank_7 (by decide) ?_
  obtain ⟨v4, hv4, hN⟩ := oB_spec hN
  refine k_iR hS (va_runS (As := [.int p0, .int (0 : Int32), .int (5 : Int32)]) (rest := [.ref h0]) ⟨hx, hb, hml, hown, hts⟩ (c_X4_in l g L hL G3 p0 (0 : Int32) (5 : Int32) v4 hv4) (va_cwS 3 hts gX4_rank_X4_in rfl rfl rfl (by decide +kernel) ⟨Nat.le_of_ble_eq_true rfl, Nat.le_of_ble_eq_true rfl⟩) (k_pre hC hS hP) rfl rfl hl.1 rfl (lv_room (Nat.le_of_ble_eq_true rfl)) dX4_rank_8 ⟨Nat.zero_le _, Nat.zero_le _⟩) (fun H locs hP hS => ?_)
  refine lv_if_eq (tgt := 32) hx hb dX4_rank_11 (by decide) (fun c6 => ?_) (fun c6 => ?_)
  · rw [if_pos c6] at hN
    refine lv_ldc (v := (-1000001)) hx hb hown (hts (.constant RX4 22 (-1000001)) (List.mem_of_getElem? (i := 1) rfl)) dX4_rank_32 ?_
    obtain ⟨v7, w8, hv7, hN⟩ := oB2_spec hN
    refine k_iW hS (va_runV (As := [.int ((-1000001) : Int32)]) (rest := []) ⟨hx, hb, hml, hown, hts⟩ (c_X4_acted l g L hL G3 h0 r (w2.1, w2.2.1, w2.2.2) hV ((-1000001) : Int32) v7 w8 hv7) (cwV 1 hts gX4_rank_X4_acted rfl rfl rfl (by decide +kernel) ⟨Nat.le_of_ble_eq_true rfl, Nat.le_of_ble_eq_true rfl⟩) (k_preV hC hS hP (vO.m hV) (vO.o hV) rfl) rfl rfl hl.1 rfl (lv_room (Nat.le_of_ble_eq_true rfl)) dX4_rank_34 ⟨Nat.zero_le _, Nat.zero_le _⟩) (fun G9 H locs hq hP hS => ?_)
    obtain ⟨hV, hfq⟩ := hq
    have hfr := frS.tr hfr hfq
    obtain ⟨hE, hE2⟩ := spair hN
    exact k_iretW hx hb hr hE ⟨hE2 ▸ hV, hfr⟩ hP hS hlk dX4_rank_37
  · rw [if_neg c6] at hN
    refine lv_iload_n hx hb dX4_rank_14 rfl (lv_at hl 2 rfl) ?_
    refine lv_iconst (v := 0) hx hb dX4_rank_15 (by decide) ?_
    refine lv_iconst (v := 5) hx hb dX4_rank_16 (by decide) ?_
    obtain ⟨v10, hv10, hN⟩ := oB_spec hN
    refine k_iR hS (va_runS (As := [.int p1, .int (0 : Int32), .int (5 : Int32)]) (rest := [.ref h0]) ⟨hx, hb, hml, hown, hts⟩ (c_X4_in l g L hL G3 p1 (0 : Int32) (5 : Int32) v10 hv10) (va_cwS 3 hts gX4_rank_X4_in rfl rfl rfl (by decide +kernel) ⟨Nat.le_of_ble_eq_true rfl, Nat.le_of_ble_eq_true rfl⟩) (k_pre hC hS hP) rfl rfl hl.1 rfl (lv_room (Nat.le_of_ble_eq_true rfl)) dX4_rank_17 ⟨Nat.zero_le _, Nat.zero_le _⟩) (fun H locs hP hS => ?_)
    refine lv_if_eq (tgt := 32) hx hb dX4_rank_20 (by decide) (fun c12 => ?_) (fun c12 => ?_)
    · rw [if_pos c12] at hN
      refine lv_ldc (v := (-1000001)) hx hb hown (hts (.constant RX4 22 (-1000001)) (List.mem_of_getElem? (i := 1) rfl)) dX4_rank_32 ?_
      obtain ⟨v13, w14, hv13, hN⟩ := oB2_spec hN
      refine k_iW hS (va_runV (As := [.int ((-1000001) : Int32)]) (rest := []) ⟨hx, hb, hml, hown, hts⟩ (c_X4_acted l g L hL G3 h0 r (w2.1, w2.2.1, w2.2.2) hV ((-1000001) : Int32) v13 w14 hv13) (cwV 1 hts gX4_rank_X4_acted rfl rfl rfl (by decide +kernel) ⟨Nat.le_of_ble_eq_true rfl, Nat.le_of_ble_eq_true rfl⟩) (k_preV hC hS hP (vO.m hV) (vO.o hV) rfl) rfl rfl hl.1 rfl (lv_room (Nat.le_of_ble_eq_true rfl)) dX4_rank_34 ⟨Nat.zero_le _, Nat.zero_le _⟩) (fun G15 H locs hq hP hS => ?_)
      obtain ⟨hV, hfq⟩ := hq
      have hfr := frS.tr hfr hfq
      obtain ⟨hE, hE2⟩ := spair hN
      exact k_iretW hx hb hr hE ⟨hE2 ▸ hV, hfr⟩ hP hS hlk dX4_rank_37
    · rw [if_neg c12] at hN
      refine lv_aload_n hx hb dX4_rank_23 rfl (lv_at hl 0 rfl) ?_
      refine lv_iload_n hx hb dX4_rank_24 rfl (lv_at hl 1 rfl) ?_
      refine lv_iload_n hx hb dX4_rank_25 rfl (lv_at hl 2 rfl) ?_
      obtain ⟨v16, w17, hv16, hN⟩ := oB2_spec hN
      refine k_iW hS (va_runV (As := [.int p0, .int p1]) (rest := [.ref h0]) ⟨hx, hb, hml, hown, hts⟩ (c_X4_ranks l g L hL G3 h0 r (w2.1, w2.2.1, w2.2.2) hV p0 p1 v16 w17 hv16) (cwV 2 hts gX4_rank_X4_ranks rfl rfl rfl (by decide +kernel) ⟨Nat.le_of_ble_eq_true rfl, Nat.le_of_ble_eq_true rfl⟩) (k_preV hC hS hP (vO.m hV) (vO.o hV) rfl) rfl rfl hl.1 rfl (lv_room (Nat.le_of_ble_eq_true rfl)) dX4_rank_26 ⟨Nat.zero_le _, Nat.zero_le _⟩) (fun G18 H locs hq hP hS => ?_)
      obtain ⟨hV, hfq⟩ := hq
      have hfr := frS.tr hfr hfq
      refine lv_goto (tgt := 34) hx hb dX4_rank_29 (by decide) ?_
      obtain ⟨v19, w20, hv19, hN⟩ := oB2_spec hN
      refine k_iW hS (va_runV (As := [.int v16]) (rest := []) ⟨hx, hb, hml, hown, hts⟩ (c_X4_acted l g L hL G18 h0 r (w17.1, w17.2.1, w17.2.2) hV v16 v19 w20 hv19) (cwV 1 hts gX4_rank_X4_acted rfl rfl rfl (by decide +kernel) ⟨Nat.le_of_ble_eq_true rfl, Nat.le_of_ble_eq_true rfl⟩) (k_preV hC hS hP (vO.m hV) (vO.o hV) rfl) rfl rfl hl.1 rfl (lv_room (Nat.le_of_ble_eq_true rfl)) dX4_rank_34 ⟨Nat.zero_le _, Nat.zero_le _⟩) (fun G21 H locs hq hP hS => ?_)
      obtain ⟨hV, hfq⟩ := hq
      have hfr := frS.tr hfr hfq
      obtain ⟨hE, hE2⟩ := spair hN
      exact k_iretW hx hb hr hE ⟨hE2 ▸ hV, hfr⟩ hP hS hlk dX4_rank_37
set_option maxHeartbeats 4000000 in
set_option maxRecDepth 100000 in
theorem c_X4_set (l : Launch) (g : Gm) (L : List Nat) {A : Nat → Prop} (hL : kL L A) (G : Nat → va_E) (h0 : Nat) (r : Nat → Nat) (u : St) (hV : vM g L G h0 r u) (p0 : Int32) (v : Int32) (w : St) (hF : F_X4_set u p0 = some (v, w)) : Met l yX4_set wsX4_set ({ frames := 2, cells := 0, slots := 0, locals := 43 } : Room) (va_Pc [.ref h0, .int p0] (kB g L A G)) (va_Qi (fun x (G9 : Nat → va_E) => x = v ∧ (vM g L G9 h0 r w ∧ frS h0 r 4 G G9)) (kE g L) A) 0 0 A := by
  refine Met.ofW (cc := cX4_set) (maxL := 3) (ret := (some .int)) (by decide) rfl ?_
  intro p e s m args below meth c s₁ B hml hv
  obtain ⟨rfl, hP, hC⟩ := hv
  have hx := B.exec
  have hb := B.bytes
  have hr := B.returns
  have hts := atoms_spec (ws := wsX4_set) B.pre
  have hown : s.vm.findClass RX4 = some m.cls := findClass_of_methodNamed B.named
  have hlk := B.notSynchronized
  have hS : va_S A s.heap s.heap [] := va_S.rf
  have hV0 := hV
  have hfr : frS h0 r 4 G G := frS.rf
  have hl := lv_entry ([.ref h0, .int p0]) (n := 3) (Nat.le_of_ble_eq_true rfl)
  rw [lg_entry_eq]
  generalize (lg_sl ([.ref h0, .int p0]) ++ List.replicate (3 - (lg_sl ([.ref h0, .int p0])).length) Slot.unset).toArray = ls at hl ⊢
  have hl : lv_has ls 3 [(0, .ref h0), (1, .int p0)] := hl
  have hN := hF
  unfold F_X4_set at hN
  refine lv_aload_n hx hb dX4_set_0 rfl (lv_at hl 0 rfl) ?_
  obtain ⟨w2, hw2, hN⟩ := oB_spec hN
  refine k_v hS (va_runV (As := []) (rest := []) ⟨hx, hb, hml, hown, hts⟩ (c_X4_begins l g L hL G h0 r u hV w2 hw2) (cwV 0 hts gX4_set_X4_begins rfl rfl rfl (by decide +kernel) ⟨Nat.le_of_ble_eq_true rfl, Nat.le_of_ble_eq_true rfl⟩) (k_preV hC hS hP (vO.m hV) (vO.o hV) rfl) rfl rfl hl.1 rfl (lv_room (Nat.le_of_ble_eq_true rfl)) dX4_set_1 ⟨Nat.zero_le _, Nat.zero_le _⟩) (fun G3 H locs hq hP hS => ?_)
  obtain ⟨hV, hfq⟩ := hq
  have hfr := frS.tr hfr hfq
  refine lv_aload_n hx hb dX4_set_4 rfl (lv_at hl 0 rfl) ?_
  refine k_get (C := RX4) (T := TX4) (N := 8) (ci := 4) (v := .ref (r 0)) hx hb hts (fun _ h => List.mem_cons_of_mem _ (List.mem_append_right _ h)) hown hC hP (vO.m hV) (vO.o hV) rfl 0 (by decide) (hts (.fieldLink RX4 7 "OrderedClausesModel" "s" "[I") (List.mem_of_getElem? (i := 1) rfl)) rfl dX4_set_5 ?_
  refine lv_iconst (v := 2) hx hb dX4_set_8 (by decide) ?_
  obtain ⟨v4, hv4, hN⟩ := oB_spec hN
  refine k_ildE hx hb hC hP (vO.rm hV 0 (by decide)) (vO.ri hV 0 (by decide)) hv4 dX4_set_9 ?_
  refine lv_istore_n (lv' := [(2, .int v4), (0, .ref h0), (1, .int p0)]) hx hb dX4_set_10 rfl hl (by decide) rfl (fun ls hl => ?_)
  refine lv_aload_n hx hb dX4_set_11 rfl (lv_at hl 1 rfl) ?_
  refine k_get (C := RX4) (T := TX4) (N := 8) (ci := 4) (v := .ref (r 0)) hx hb hts (fun _ h => List.mem_cons_of_mem _ (List.mem_append_right _ h)) hown hC hP (vO.m hV) (vO.o hV) rfl 0 (by decide) (hts (.fieldLink RX4 7 "OrderedClausesModel" "s" "[I") (List.mem_of_getElem? (i := 1) rfl)) rfl dX4_set_12 ?_
  refine lv_iconst (v := 2) hx hb dX4_set_15 (by decide) ?_
  refine lv_iload_n hx hb dX4_set_16 rfl (lv_at hl 2 rfl) ?_
  refine lv_iconst (v := 1) hx hb dX4_set_17 (by decide) ?_
  refine lv_bipush (v := 9) hx hb dX4_set_18 (by decide) ?_
  obtain ⟨v5, hv5, hN⟩ := oB_spec hN
  refine k_iR hS (va_runS (As := [.int p0, .int (1 : Int32), .int (9 : Int32)]) (rest := [.int (2 : Int32), .ref (r 0)]) ⟨hx, hb, hml, hown, hts⟩ (c_X4_in l g L hL G3 p0 (1 : Int32) (9 : Int32) v5 hv5) (va_cwS 3 hts gX4_set_X4_in rfl rfl rfl (by decide +kernel) ⟨Nat.le_of_ble_eq_true rfl, Nat.le_of_ble_eq_true rfl⟩) (k_pre hC hS hP) rfl rfl hl.1 rfl (lv_room (Nat.le_of_ble_eq_true rfl)) dX4_set_20 ⟨Nat.zero_le _, Nat.zero_le _⟩) (fun H locs hP hS => ?_)
  refine lv_if_eq (tgt := 30) hx hb dX4_set_23 (by decide) (fun c7 => ?_) (fun c7 => ?_)
  · rw [if_pos c7] at hN
    refine lv_iload_n hx hb dX4_set_30 rfl (lv_at hl 0 rfl) ?_
    obtain ⟨y8, hy8, hN⟩ := oB_spec hN
    refine k_istE hx hb hL hC hP hS (vO.rm hV 0 (by decide)) (vO.ri hV 0 (by decide)) hy8 dX4_set_31 (fun G9 H locs hq hP hS => ?_)
    have hV : vM g L G9 h0 r ((va_up w2.1 0 y8), w2.2.1, w2.2.2) := by rw [hq]; exact vO.setI (f := w2.1) (gg := w2.2.1) (k := w2.2.2) hV (by decide) 0 (by decide) _
    have hfr : frS h0 r 4 G G9 := by rw [hq]; exact vO.frI hfr 0 (by decide) _
    refine lv_aload_n hx hb dX4_set_32 rfl (lv_at hl 1 rfl) ?_
    refine lv_iload_n hx hb dX4_set_33 rfl (lv_at hl 2 rfl) ?_
    refine lv_iconst (v := 1) hx hb dX4_set_34 (by decide) ?_
    refine lv_bipush (v := 9) hx hb dX4_set_35 (by decide) ?_
    obtain ⟨v10, hv10, hN⟩ := oB_spec hN
    refine k_iR hS (va_runS (As := [.int p0, .int (1 : Int32), .int (9 : Int32)]) (rest := [.ref h0]) ⟨hx, hb, hml, hown, hts⟩ (c_X4_in l g L hL G9 p0 (1 : Int32) (9 : Int32) v10 hv10) (va_cwS 3 hts gX4_set_X4_in rfl rfl rfl (by decide +kernel) ⟨Nat.le_of_ble_eq_true rfl, Nat.le_of_ble_eq_true rfl⟩) (k_pre hC hS hP) rfl rfl hl.1 rfl (lv_room (Nat.le_of_ble_eq_true rfl)) dX4_set_37 ⟨Nat.zero_le _, Nat.zero_le _⟩) (fun H locs hP hS => ?_)
    refine lv_if_eq (tgt := 47) hx hb dX4_set_40 (by decide) (fun c12 => ?_) (fun c12 => ?_)
    · rw [if_pos c12] at hN
      refine lv_ldc (v := (-1000001)) hx hb hown (hts (.constant RX4 22 (-1000001)) (List.mem_of_getElem? (i := 2) rfl)) dX4_set_47 ?_
      obtain ⟨v13, w14, hv13, hN⟩ := oB2_spec hN
      refine k_iW hS (va_runV (As := [.int ((-1000001) : Int32)]) (rest := []) ⟨hx, hb, hml, hown, hts⟩ (c_X4_acted l g L hL G9 h0 r ((va_up w2.1 0 y8), w2.2.1, w2.2.2) hV ((-1000001) : Int32) v13 w14 hv13) (cwV 1 hts gX4_set_X4_acted rfl rfl rfl (by decide +kernel) ⟨Nat.le_of_ble_eq_true rfl, Nat.le_of_ble_eq_true rfl⟩) (k_preV hC hS hP (vO.m hV) (vO.o hV) rfl) rfl rfl hl.1 rfl (lv_room (Nat.le_of_ble_eq_true rfl)) dX4_set_49 ⟨Nat.zero_le _, Nat.zero_le _⟩) (fun G15 H locs hq hP hS => ?_)
      obtain ⟨hV, hfq⟩ := hq
      have hfr := frS.tr hfr hfq
      obtain ⟨hE, hE2⟩ := spair hN
      exact k_iretW hx hb hr hE ⟨hE2 ▸ hV, hfr⟩ hP hS hlk dX4_set_52
    · rw [if_neg c12] at hN
      refine lv_iload_n hx hb dX4_set_43 rfl (lv_at hl 0 rfl) ?_
      refine lv_goto (tgt := 49) hx hb dX4_set_44 (by decide) ?_
      obtain ⟨v16, w17, hv16, hN⟩ := oB2_spec hN
      refine k_iW hS (va_runV (As := [.int v4]) (rest := []) ⟨hx, hb, hml, hown, hts⟩ (c_X4_acted l g L hL G9 h0 r ((va_up w2.1 0 y8), w2.2.1, w2.2.2) hV v4 v16 w17 hv16) (cwV 1 hts gX4_set_X4_acted rfl rfl rfl (by decide +kernel) ⟨Nat.le_of_ble_eq_true rfl, Nat.le_of_ble_eq_true rfl⟩) (k_preV hC hS hP (vO.m hV) (vO.o hV) rfl) rfl rfl hl.1 rfl (lv_room (Nat.le_of_ble_eq_true rfl)) dX4_set_49 ⟨Nat.zero_le _, Nat.zero_le _⟩) (fun G18 H locs hq hP hS => ?_)
      obtain ⟨hV, hfq⟩ := hq
      have hfr := frS.tr hfr hfq
      obtain ⟨hE, hE2⟩ := spair hN
      exact k_iretW hx hb hr hE ⟨hE2 ▸ hV, hfr⟩ hP hS hlk dX4_set_52
  · rw [if_neg c7] at hN
    refine lv_iload_n hx hb dX4_set_26 rfl (lv_at hl 2 rfl) ?_
    refine lv_goto (tgt := 31) hx hb dX4_set_27 (by decide) ?_
    obtain ⟨y19, hy19, hN⟩ := oB_spec hN
    refine k_istE hx hb hL hC hP hS (vO.rm hV 0 (by decide)) (vO.ri hV 0 (by decide)) hy19 dX4_set_31 (fun G20 H locs hq hP hS => ?_)
    have hV : vM g L G20 h0 r ((va_up w2.1 0 y19), w2.2.1, w2.2.2) := by rw [hq]; exact vO.setI (f := w2.1) (gg := w2.2.1) (k := w2.2.2) hV (by decide) 0 (by decide) _
    have hfr : frS h0 r 4 G G20 := by rw [hq]; exact vO.frI hfr 0 (by decide) _
    refine lv_aload_n hx hb dX4_set_32 rfl (lv_at hl 1 rfl) ?_
    refine lv_iload_n hx hb dX4_set_33 rfl (lv_at hl 2 rfl) ?_
    refine lv_iconst (v := 1) hx hb dX4_set_34 (by decide) ?_
    refine lv_bipush (v := 9) hx hb dX4_set_35 (by decide) ?_
    obtain ⟨v21, hv21, hN⟩ := oB_spec hN
    refine k_iR hS (va_runS (As := [.int p0, .int (1 : Int32), .int (9 : Int32)]) (rest := [.ref h0]) ⟨hx, hb, hml, hown, hts⟩ (c_X4_in l g L hL G20 p0 (1 : Int32) (9 : Int32) v21 hv21) (va_cwS 3 hts gX4_set_X4_in rfl rfl rfl (by decide +kernel) ⟨Nat.le_of_ble_eq_true rfl, Nat.le_of_ble_eq_true rfl⟩) (k_pre hC hS hP) rfl rfl hl.1 rfl (lv_room (Nat.le_of_ble_eq_true rfl)) dX4_set_37 ⟨Nat.zero_le _, Nat.zero_le _⟩) (fun H locs hP hS => ?_)
    refine lv_if_eq (tgt := 47) hx hb dX4_set_40 (by decide) (fun c23 => ?_) (fun c23 => ?_)
    · rw [if_pos c23] at hN
      refine lv_ldc (v := (-1000001)) hx hb hown (hts (.constant RX4 22 (-1000001)) (List.mem_of_getElem? (i := 2) rfl)) dX4_set_47 ?_
      obtain ⟨v24, w25, hv24, hN⟩ := oB2_spec hN
      refine k_iW hS (va_runV (As := [.int ((-1000001) : Int32)]) (rest := []) ⟨hx, hb, hml, hown, hts⟩ (c_X4_acted l g L hL G20 h0 r ((va_up w2.1 0 y19), w2.2.1, w2.2.2) hV ((-1000001) : Int32) v24 w25 hv24) (cwV 1 hts gX4_set_X4_acted rfl rfl rfl (by decide +kernel) ⟨Nat.le_of_ble_eq_true rfl, Nat.le_of_ble_eq_true rfl⟩) (k_preV hC hS hP (vO.m hV) (vO.o hV) rfl) rfl rfl hl.1 rfl (lv_room (Nat.le_of_ble_eq_true rfl)) dX4_set_49 ⟨Nat.zero_le _, Nat.zero_le _⟩) (fun G26 H locs hq hP hS => ?_)
      obtain ⟨hV, hfq⟩ := hq
      have hfr := frS.tr hfr hfq
      obtain ⟨hE, hE2⟩ := spair hN
      exact k_iretW hx hb hr hE ⟨hE2 ▸ hV, hfr⟩ hP hS hlk dX4_set_52
    · rw [if_neg c23] at hN
      refine lv_iload_n hx hb dX4_set_43 rfl (lv_at hl 0 rfl) ?_
      refine lv_goto (tgt := 49) hx hb dX4_set_44 (by decide) ?_
      obtain ⟨v27, w28, hv27, hN⟩ := oB2_spec hN
      refine k_iW hS (va_runV (As := [.int v4]) (rest := []) ⟨hx, hb, hml, hown, hts⟩ (c_X4_acted l g L hL G20 h0 r ((va_up w2.1 0 y19), w2.2.1, w2.2.2) hV v4 v27 w28 hv27) (cwV 1 hts gX4_set_X4_acted rfl rfl rfl (by decide +kernel) ⟨Nat.le_of_ble_eq_true rfl, Nat.le_of_ble_eq_true rfl⟩) (k_preV hC hS hP (vO.m hV) (vO.o hV) rfl) rfl rfl hl.1 rfl (lv_room (Nat.le_of_ble_eq_true rfl)) dX4_set_49 ⟨Nat.zero_le _, Nat.zero_le _⟩) (fun G29 H locs hq hP hS => ?_)
      obtain ⟨hV, hfq⟩ := hq
      have hfr := frS.tr hfr hfq
      obtain ⟨hE, hE2⟩ := spair hN
      exact k_iretW hx hb hr hE ⟨hE2 ▸ hV, hfr⟩ hP hS hlk dX4_set_52
set_option maxHeartbeats 4000000 in
set_option maxRecDepth 100000 in
theorem c_X4_step (l : Launch) (g : Gm) (L : List Nat) {A : Nat → Prop} (hL : kL L A) (G : Nat → va_E) (h0 : Nat) (r : Nat → Nat) (u : St) (hV : vM g L G h0 r u) (v : Int32) (w : St) (hF : F_X4_step u = some (v, w)) : Met l yX4_step wsX4_step ({ frames := 6, cells := 0, slots := 0, locals := 142 } : Room) (va_Pc [.ref h0] (kB g L A G)) (va_Qi (fun x (G9 : Nat → va_E) => x = v ∧ (vM g L G9 h0 r w ∧ frS h0 r 4 G G9)) (kE g L) A) 0 0 A := by
  refine Met.ofW (cc := cX4_step) (maxL := 1) (ret := (some .int)) (by decide) rfl ?_
  intro p e s m args below meth c s₁ B hml hv
  obtain ⟨rfl, hP, hC⟩ := hv
  have hx := B.exec
  have hb := B.bytes
  have hr := B.returns
  have hts := atoms_spec (ws := wsX4_step) B.pre
  have hown : s.vm.findClass RX4 = some m.cls := findClass_of_methodNamed B.named
  have hlk := B.notSynchronized
  have hS : va_S A s.heap s.heap [] := va_S.rf
  have hV0 := hV
  have hfr : frS h0 r 4 G G := frS.rf
  have hl := lv_entry ([.ref h0]) (n := 1) (Nat.le_of_ble_eq_true rfl)
  rw [lg_entry_eq]
  generalize (lg_sl ([.ref h0]) ++ List.replicate (1 - (lg_sl ([.ref h0])).length) Slot.unset).toArray = ls at hl ⊢
  have hl : lv_has ls 1 [(0, .ref h0)] := hl
  have hN := hF
  unfold F_X4_step at hN
  refine lv_aload_n hx hb dX4_step_0 rfl (lv_at hl 0 rfl) ?_
  obtain ⟨w2, hw2, hN⟩ := oB_spec hN
  refine k_v hS (va_runV (As := []) (rest := []) ⟨hx, hb, hml, hown, hts⟩ (c_X4_begins l g L hL G h0 r u hV w2 hw2) (cwV 0 hts gX4_step_X4_begins rfl rfl rfl (by decide +kernel) ⟨Nat.le_of_ble_eq_true rfl, Nat.le_of_ble_eq_true rfl⟩) (k_preV hC hS hP (vO.m hV) (vO.o hV) rfl) rfl rfl hl.1 rfl (lv_room (Nat.le_of_ble_eq_true rfl)) dX4_step_1 ⟨Nat.zero_le _, Nat.zero_le _⟩) (fun G3 H locs hq hP hS => ?_)
  obtain ⟨hV, hfq⟩ := hq
  have hfr := frS.tr hfr hfq
  refine lv_aload_n hx hb dX4_step_4 rfl (lv_at hl 0 rfl) ?_
  refine lv_aload_n hx hb dX4_step_5 rfl (lv_at hl 0 rfl) ?_
  obtain ⟨v4, w5, hv4, hN⟩ := oB2_spec hN
  refine k_iW hS (va_runV (As := []) (rest := [.ref h0]) ⟨hx, hb, hml, hown, hts⟩ (c_X4_steps l g L hL G3 h0 r (w2.1, w2.2.1, w2.2.2) hV v4 w5 hv4) (cwV 0 hts gX4_step_X4_steps rfl rfl rfl (by decide +kernel) ⟨Nat.le_of_ble_eq_true rfl, Nat.le_of_ble_eq_true rfl⟩) (k_preV hC hS hP (vO.m hV) (vO.o hV) rfl) rfl rfl hl.1 rfl (lv_room (Nat.le_of_ble_eq_true rfl)) dX4_step_6 ⟨Nat.zero_le _, Nat.zero_le _⟩) (fun G6 H locs hq hP hS => ?_)
  obtain ⟨hV, hfq⟩ := hq
  have hfr := frS.tr hfr hfq
  obtain ⟨v7, w8, hv7, hN⟩ := oB2_spec hN
  refine k_iW hS (va_runV (As := [.int v4]) (rest := []) ⟨hx, hb, hml, hown, hts⟩ (c_X4_acted l g L hL G6 h0 r (w5.1, w5.2.1, w5.2.2) hV v4 v7 w8 hv7) (cwV 1 hts gX4_step_X4_acted rfl rfl rfl (by decide +kernel) ⟨Nat.le_of_ble_eq_true rfl, Nat.le_of_ble_eq_true rfl⟩) (k_preV hC hS hP (vO.m hV) (vO.o hV) rfl) rfl rfl hl.1 rfl (lv_room (Nat.le_of_ble_eq_true rfl)) dX4_step_9 ⟨Nat.zero_le _, Nat.zero_le _⟩) (fun G9 H locs hq hP hS => ?_)
  obtain ⟨hV, hfq⟩ := hq
  have hfr := frS.tr hfr hfq
  obtain ⟨hE, hE2⟩ := spair hN
  exact k_iretW hx hb hr hE ⟨hE2 ▸ hV, hfr⟩ hP hS hlk dX4_step_12
set_option maxHeartbeats 4000000 in
set_option maxRecDepth 100000 in
theorem c_X4_run (l : Launch) (g : Gm) (L : List Nat) {A : Nat → Prop} (hL : kL L A) (G : Nat → va_E) (h0 : Nat) (r : Nat → Nat) (u : St) (hV : vM g L G h0 r u) (p0 : Int32) (v : Int32) (w : St) (hF : F_X4_run u p0 = some (v, w)) : Met l yX4_run wsX4_run ({ frames := 7, cells := 0, slots := 0, locals := 165 } : Room) (va_Pc [.ref h0, .int p0] (kB g L A G)) (va_Qi (fun x (G9 : Nat → va_E) => x = v ∧ (vM g L G9 h0 r w ∧ frS h0 r 4 G G9)) (kE g L) A) 0 0 A := by
  refine Met.ofW (cc := cX4_run) (maxL := 2) (ret := (some .int)) (by decide) rfl ?_
  intro p e s m args below meth c s₁ B hml hv
  obtain ⟨rfl, hP, hC⟩ := hv
  have hx := B.exec
  have hb := B.bytes
  have hr := B.returns
  have hts := atoms_spec (ws := wsX4_run) B.pre
  have hown : s.vm.findClass RX4 = some m.cls := findClass_of_methodNamed B.named
  have hlk := B.notSynchronized
  have hS : va_S A s.heap s.heap [] := va_S.rf
  have hV0 := hV
  have hfr : frS h0 r 4 G G := frS.rf
  have hl := lv_entry ([.ref h0, .int p0]) (n := 2) (Nat.le_of_ble_eq_true rfl)
  rw [lg_entry_eq]
  generalize (lg_sl ([.ref h0, .int p0]) ++ List.replicate (2 - (lg_sl ([.ref h0, .int p0])).length) Slot.unset).toArray = ls at hl ⊢
  have hl : lv_has ls 2 [(0, .ref h0), (1, .int p0)] := hl
  have hN := hF
  unfold F_X4_run at hN
  refine lv_aload_n hx hb dX4_run_0 rfl (lv_at hl 0 rfl) ?_
  obtain ⟨w2, hw2, hN⟩ := oB_spec hN
  refine k_v hS (va_runV (As := []) (rest := []) ⟨hx, hb, hml, hown, hts⟩ (c_X4_begins l g L hL G h0 r u hV w2 hw2) (cwV 0 hts gX4_run_X4_begins rfl rfl rfl (by decide +kernel) ⟨Nat.le_of_ble_eq_true rfl, Nat.le_of_ble_eq_true rfl⟩) (k_preV hC hS hP (vO.m hV) (vO.o hV) rfl) rfl rfl hl.1 rfl (lv_room (Nat.le_of_ble_eq_true rfl)) dX4_run_1 ⟨Nat.zero_le _, Nat.zero_le _⟩) (fun G3 H locs hq hP hS => ?_)
  obtain ⟨hV, hfq⟩ := hq
  have hfr := frS.tr hfr hfq
  refine lv_aload_n hx hb dX4_run_4 rfl (lv_at hl 0 rfl) ?_
  refine lv_iload_n hx hb dX4_run_5 rfl (lv_at hl 1 rfl) ?_
  refine lv_iconst (v := 1) hx hb dX4_run_6 (by decide) ?_
  refine lv_bipush (v := 40) hx hb dX4_run_7 (by decide) ?_
  obtain ⟨v4, hv4, hN⟩ := oB_spec hN
  refine k_iR hS (va_runS (As := [.int p0, .int (1 : Int32), .int (40 : Int32)]) (rest := [.ref h0]) ⟨hx, hb, hml, hown, hts⟩ (c_X4_in l g L hL G3 p0 (1 : Int32) (40 : Int32) v4 hv4) (va_cwS 3 hts gX4_run_X4_in rfl rfl rfl (by decide +kernel) ⟨Nat.le_of_ble_eq_true rfl, Nat.le_of_ble_eq_true rfl⟩) (k_pre hC hS hP) rfl rfl hl.1 rfl (lv_room (Nat.le_of_ble_eq_true rfl)) dX4_run_9 ⟨Nat.zero_le _, Nat.zero_le _⟩) (fun H locs hP hS => ?_)
  refine lv_if_eq (tgt := 23) hx hb dX4_run_12 (by decide) (fun c6 => ?_) (fun c6 => ?_)
  · rw [if_pos c6] at hN
    refine lv_ldc (v := (-1000001)) hx hb hown (hts (.constant RX4 22 (-1000001)) (List.mem_of_getElem? (i := 1) rfl)) dX4_run_23 ?_
    obtain ⟨v7, w8, hv7, hN⟩ := oB2_spec hN
    refine k_iW hS (va_runV (As := [.int ((-1000001) : Int32)]) (rest := []) ⟨hx, hb, hml, hown, hts⟩ (c_X4_acted l g L hL G3 h0 r (w2.1, w2.2.1, w2.2.2) hV ((-1000001) : Int32) v7 w8 hv7) (cwV 1 hts gX4_run_X4_acted rfl rfl rfl (by decide +kernel) ⟨Nat.le_of_ble_eq_true rfl, Nat.le_of_ble_eq_true rfl⟩) (k_preV hC hS hP (vO.m hV) (vO.o hV) rfl) rfl rfl hl.1 rfl (lv_room (Nat.le_of_ble_eq_true rfl)) dX4_run_25 ⟨Nat.zero_le _, Nat.zero_le _⟩) (fun G9 H locs hq hP hS => ?_)
    obtain ⟨hV, hfq⟩ := hq
    have hfr := frS.tr hfr hfq
    obtain ⟨hE, hE2⟩ := spair hN
    exact k_iretW hx hb hr hE ⟨hE2 ▸ hV, hfr⟩ hP hS hlk dX4_run_28
  · rw [if_neg c6] at hN
    refine lv_aload_n hx hb dX4_run_15 rfl (lv_at hl 0 rfl) ?_
    refine lv_iload_n hx hb dX4_run_16 rfl (lv_at hl 1 rfl) ?_
    obtain ⟨v10, w11, hv10, hN⟩ := oB2_spec hN
    refine k_iW hS (va_runV (As := [.int p0]) (rest := [.ref h0]) ⟨hx, hb, hml, hown, hts⟩ (c_X4_runs l g L hL G3 h0 r (w2.1, w2.2.1, w2.2.2) hV p0 v10 w11 hv10) (cwV 1 hts gX4_run_X4_runs rfl rfl rfl (by decide +kernel) ⟨Nat.le_of_ble_eq_true rfl, Nat.le_of_ble_eq_true rfl⟩) (k_preV hC hS hP (vO.m hV) (vO.o hV) rfl) rfl rfl hl.1 rfl (lv_room (Nat.le_of_ble_eq_true rfl)) dX4_run_17 ⟨Nat.zero_le _, Nat.zero_le _⟩) (fun G12 H locs hq hP hS => ?_)
    obtain ⟨hV, hfq⟩ := hq
    have hfr := frS.tr hfr hfq
    refine lv_goto (tgt := 25) hx hb dX4_run_20 (by decide) ?_
    obtain ⟨v13, w14, hv13, hN⟩ := oB2_spec hN
    refine k_iW hS (va_runV (As := [.int v10]) (rest := []) ⟨hx, hb, hml, hown, hts⟩ (c_X4_acted l g L hL G12 h0 r (w11.1, w11.2.1, w11.2.2) hV v10 v13 w14 hv13) (cwV 1 hts gX4_run_X4_acted rfl rfl rfl (by decide +kernel) ⟨Nat.le_of_ble_eq_true rfl, Nat.le_of_ble_eq_true rfl⟩) (k_preV hC hS hP (vO.m hV) (vO.o hV) rfl) rfl rfl hl.1 rfl (lv_room (Nat.le_of_ble_eq_true rfl)) dX4_run_25 ⟨Nat.zero_le _, Nat.zero_le _⟩) (fun G15 H locs hq hP hS => ?_)
    obtain ⟨hV, hfq⟩ := hq
    have hfr := frS.tr hfr hfq
    obtain ⟨hE, hE2⟩ := spair hN
    exact k_iretW hx hb hr hE ⟨hE2 ▸ hV, hfr⟩ hP hS hlk dX4_run_28
set_option maxHeartbeats 4000000 in
set_option maxRecDepth 100000 in
theorem c_X4_empty (l : Launch) (g : Gm) (L : List Nat) {A : Nat → Prop} (hL : kL L A) (G : Nat → va_E) (h0 : Nat) (r : Nat → Nat) (u : St) (hV : vM g L G h0 r u) (v : Int32) (w : St) (hF : F_X4_empty u = some (v, w)) : Met l yX4_empty wsX4_empty ({ frames := 2, cells := 0, slots := 0, locals := 43 } : Room) (va_Pc [.ref h0] (kB g L A G)) (va_Qi (fun x (G9 : Nat → va_E) => x = v ∧ (vM g L G9 h0 r w ∧ frS h0 r 4 G G9)) (kE g L) A) 0 0 A := by
  refine Met.ofW (cc := cX4_empty) (maxL := 1) (ret := (some .int)) (by decide) rfl ?_
  intro p e s m args below meth c s₁ B hml hv
  obtain ⟨rfl, hP, hC⟩ := hv
  have hx := B.exec
  have hb := B.bytes
  have hr := B.returns
  have hts := atoms_spec (ws := wsX4_empty) B.pre
  have hown : s.vm.findClass RX4 = some m.cls := findClass_of_methodNamed B.named
  have hlk := B.notSynchronized
  have hS : va_S A s.heap s.heap [] := va_S.rf
  have hV0 := hV
  have hfr : frS h0 r 4 G G := frS.rf
  have hl := lv_entry ([.ref h0]) (n := 1) (Nat.le_of_ble_eq_true rfl)
  rw [lg_entry_eq]
  generalize (lg_sl ([.ref h0]) ++ List.replicate (1 - (lg_sl ([.ref h0])).length) Slot.unset).toArray = ls at hl ⊢
  have hl : lv_has ls 1 [(0, .ref h0)] := hl
  have hN := hF
  unfold F_X4_empty at hN
  refine lv_aload_n hx hb dX4_empty_0 rfl (lv_at hl 0 rfl) ?_
  obtain ⟨w2, hw2, hN⟩ := oB_spec hN
  refine k_v hS (va_runV (As := []) (rest := []) ⟨hx, hb, hml, hown, hts⟩ (c_X4_begins l g L hL G h0 r u hV w2 hw2) (cwV 0 hts gX4_empty_X4_begins rfl rfl rfl (by decide +kernel) ⟨Nat.le_of_ble_eq_true rfl, Nat.le_of_ble_eq_true rfl⟩) (k_preV hC hS hP (vO.m hV) (vO.o hV) rfl) rfl rfl hl.1 rfl (lv_room (Nat.le_of_ble_eq_true rfl)) dX4_empty_1 ⟨Nat.zero_le _, Nat.zero_le _⟩) (fun G3 H locs hq hP hS => ?_)
  obtain ⟨hV, hfq⟩ := hq
  have hfr := frS.tr hfr hfq
  refine lv_aload_n hx hb dX4_empty_4 rfl (lv_at hl 0 rfl) ?_
  refine lv_aload_n hx hb dX4_empty_5 rfl (lv_at hl 0 rfl) ?_
  obtain ⟨v4, w5, hv4, hN⟩ := oB2_spec hN
  refine k_iW hS (va_runV (As := []) (rest := [.ref h0]) ⟨hx, hb, hml, hown, hts⟩ (c_X4_clears l g L hL G3 h0 r (w2.1, w2.2.1, w2.2.2) hV v4 w5 hv4) (cwV 0 hts gX4_empty_X4_clears rfl rfl rfl (by decide +kernel) ⟨Nat.le_of_ble_eq_true rfl, Nat.le_of_ble_eq_true rfl⟩) (k_preV hC hS hP (vO.m hV) (vO.o hV) rfl) rfl rfl hl.1 rfl (lv_room (Nat.le_of_ble_eq_true rfl)) dX4_empty_6 ⟨Nat.zero_le _, Nat.zero_le _⟩) (fun G6 H locs hq hP hS => ?_)
  obtain ⟨hV, hfq⟩ := hq
  have hfr := frS.tr hfr hfq
  obtain ⟨v7, w8, hv7, hN⟩ := oB2_spec hN
  refine k_iW hS (va_runV (As := [.int v4]) (rest := []) ⟨hx, hb, hml, hown, hts⟩ (c_X4_acted l g L hL G6 h0 r (w5.1, w5.2.1, w5.2.2) hV v4 v7 w8 hv7) (cwV 1 hts gX4_empty_X4_acted rfl rfl rfl (by decide +kernel) ⟨Nat.le_of_ble_eq_true rfl, Nat.le_of_ble_eq_true rfl⟩) (k_preV hC hS hP (vO.m hV) (vO.o hV) rfl) rfl rfl hl.1 rfl (lv_room (Nat.le_of_ble_eq_true rfl)) dX4_empty_9 ⟨Nat.zero_le _, Nat.zero_le _⟩) (fun G9 H locs hq hP hS => ?_)
  obtain ⟨hV, hfq⟩ := hq
  have hfr := frS.tr hfr hfq
  obtain ⟨hE, hE2⟩ := spair hN
  exact k_iretW hx hb hr hE ⟨hE2 ▸ hV, hfr⟩ hP hS hlk dX4_empty_12
set_option maxHeartbeats 4000000 in
set_option maxRecDepth 100000 in
theorem c_X4_undo (l : Launch) (g : Gm) (L : List Nat) {A : Nat → Prop} (hL : kL L A) (G : Nat → va_E) (h0 : Nat) (r : Nat → Nat) (u : St) (hV : vM g L G h0 r u) (v : Int32) (w : St) (hF : F_X4_undo u = some (v, w)) : Met l yX4_undo wsX4_undo ({ frames := 0, cells := 0, slots := 0, locals := 0 } : Room) (va_Pc [.ref h0] (kB g L A G)) (va_Qi (fun x (G9 : Nat → va_E) => x = v ∧ (vM g L G9 h0 r w ∧ frS h0 r 4 G G9)) (kE g L) A) 0 0 A := by
  refine Met.ofW (cc := cX4_undo) (maxL := 2) (ret := (some .int)) (by decide) rfl ?_
  intro p e s m args below meth c s₁ B hml hv
  obtain ⟨rfl, hP, hC⟩ := hv
  have hx := B.exec
  have hb := B.bytes
  have hr := B.returns
  have hts := atoms_spec (ws := wsX4_undo) B.pre
  have hown : s.vm.findClass RX4 = some m.cls := findClass_of_methodNamed B.named
  have hlk := B.notSynchronized
  have hS : va_S A s.heap s.heap [] := va_S.rf
  have hV0 := hV
  have hfr : frS h0 r 4 G G := frS.rf
  have lp22 : ∀ (n : Nat) (u : St) (x1 : Int32) (G1 : Nat → va_E) (H : Heap) (locs : List Loc) (ls : Array Slot), vM g L G1 h0 r u → frS h0 r 4 G G1 → va_P g.1 vwCl (va_pl L G1) H → va_S A s.heap H locs → lv_has ls 2 [(0, .ref h0), (1, .int x1)] → FL_X4_undo_22  n u x1 = some (v, w) → W p l e (headSpec wsX4_undo ({ frames := 0, cells := 0, slots := 0, locals := 0 } : Room)).room s m ([.ref h0] : List Value).toArray below meth c H locs 0 0 (MQ below (va_Qi (fun x (G9 : Nat → va_E) => x = v ∧ (vM g L G9 h0 r w ∧ frS h0 r 4 G G9)) (kE g L) A) ([.ref h0] : List Value).toArray s 0 0 A) (F0 m 22 ls []) := by
    intro n
    induction n with
    | zero =>
      intro u x1 G1 H locs ls hV hfr hP hS hl hN
      exact absurd hN (by simp [FL_X4_undo_22])
    | succ n ih =>
      intro u x1 G1 H locs ls hV hfr hP hS hl hN
      rw [FL_X4_undo_22] at hN
      refine lv_iload_n hx hb dX4_undo_22 rfl (lv_at hl 1 rfl) ?_
      refine lv_sipush (v := 251) hx hb dX4_undo_23 (by decide) ?_
      refine lv_icmp_ge (tgt := 56) hx hb dX4_undo_26 (by decide) (fun c3 => ?_) (fun c3 => ?_)
      · rw [if_pos c3] at hN
        refine lv_aload_n hx hb dX4_undo_56 rfl (lv_at hl 0 rfl) ?_
        refine k_get (C := RX4) (T := TX4) (N := 8) (ci := 4) (v := .int (u.2.2 0)) hx hb hts (fun _ h => List.mem_cons_of_mem _ (List.mem_append_right _ h)) hown hC hP (vO.m hV) (vO.o hV) rfl 3 (by decide) (hts (.fieldLink RX4 26 "OrderedClausesModel" "states" "I") (List.mem_of_getElem? (i := 1) rfl)) rfl dX4_undo_57 ?_
        obtain ⟨hE, hE2⟩ := spair hN
        exact k_iretW hx hb hr hE ⟨hE2 ▸ hV, hfr⟩ hP hS hlk dX4_undo_60
      · rw [if_neg c3] at hN
        refine lv_aload_n hx hb dX4_undo_29 rfl (lv_at hl 0 rfl) ?_
        refine k_get (C := RX4) (T := TX4) (N := 8) (ci := 4) (v := .ref (r 0)) hx hb hts (fun _ h => List.mem_cons_of_mem _ (List.mem_append_right _ h)) hown hC hP (vO.m hV) (vO.o hV) rfl 0 (by decide) (hts (.fieldLink RX4 7 "OrderedClausesModel" "s" "[I") (List.mem_of_getElem? (i := 3) rfl)) rfl dX4_undo_30 ?_
        refine lv_iload_n hx hb dX4_undo_33 rfl (lv_at hl 1 rfl) ?_
        refine lv_aload_n hx hb dX4_undo_34 rfl (lv_at hl 0 rfl) ?_
        refine k_get (C := RX4) (T := TX4) (N := 8) (ci := 4) (v := .ref (r 2)) hx hb hts (fun _ h => List.mem_cons_of_mem _ (List.mem_append_right _ h)) hown hC hP (vO.m hV) (vO.o hV) rfl 2 (by decide) (hts (.fieldLink RX4 16 "OrderedClausesModel" "past" "[I") (List.mem_of_getElem? (i := 4) rfl)) rfl dX4_undo_35 ?_
        refine lv_sipush (v := 251) hx hb dX4_undo_38 (by decide) ?_
        refine lv_aload_n hx hb dX4_undo_41 rfl (lv_at hl 0 rfl) ?_
        refine k_get (C := RX4) (T := TX4) (N := 8) (ci := 4) (v := .int (u.2.2 0)) hx hb hts (fun _ h => List.mem_cons_of_mem _ (List.mem_append_right _ h)) hown hC hP (vO.m hV) (vO.o hV) rfl 3 (by decide) (hts (.fieldLink RX4 26 "OrderedClausesModel" "states" "I") (List.mem_of_getElem? (i := 1) rfl)) rfl dX4_undo_42 ?_
        refine lv_imul hx hb dX4_undo_45 ?_
        refine lv_iload_n hx hb dX4_undo_46 rfl (lv_at hl 1 rfl) ?_
        refine lv_iadd hx hb dX4_undo_47 ?_
        obtain ⟨v4, hv4, hN⟩ := oB_spec hN
        refine k_ildE hx hb hC hP (vO.rm hV 2 (by decide)) (vO.ri hV 2 (by decide)) hv4 dX4_undo_48 ?_
        obtain ⟨y5, hy5, hN⟩ := oB_spec hN
        refine k_istE hx hb hL hC hP hS (vO.rm hV 0 (by decide)) (vO.ri hV 0 (by decide)) hy5 dX4_undo_49 (fun G6 H locs hq hP hS => ?_)
        have hV : vM g L G6 h0 r ((va_up u.1 0 y5), u.2.1, u.2.2) := by rw [hq]; exact vO.setI (f := u.1) (gg := u.2.1) (k := u.2.2) hV (by decide) 0 (by decide) _
        have hfr : frS h0 r 4 G G6 := by rw [hq]; exact vO.frI hfr 0 (by decide) _
        refine lv_iinc (v := (x1 + 1)) (lv' := [(1, .int (x1 + 1)), (0, .ref h0)]) hx hb dX4_undo_50 hl (k := 1) rfl rfl (by decide) rfl (fun ls hl => ?_)
        refine lv_goto (tgt := 22) hx hb dX4_undo_53 (by decide) ?_
        exact ih ((va_up u.1 0 y5), u.2.1, u.2.2) (x1 + 1)  _ _ _ _ hV hfr hP hS (lv_sub hl [1, 0] rfl) hN
  have hl := lv_entry ([.ref h0]) (n := 2) (Nat.le_of_ble_eq_true rfl)
  rw [lg_entry_eq]
  generalize (lg_sl ([.ref h0]) ++ List.replicate (2 - (lg_sl ([.ref h0])).length) Slot.unset).toArray = ls at hl ⊢
  have hl : lv_has ls 2 [(0, .ref h0)] := hl
  have hN := hF
  unfold F_X4_undo at hN
  refine lv_aload_n hx hb dX4_undo_0 rfl (lv_at hl 0 rfl) ?_
  refine k_get (C := RX4) (T := TX4) (N := 8) (ci := 4) (v := .int (u.2.2 0)) hx hb hts (fun _ h => List.mem_cons_of_mem _ (List.mem_append_right _ h)) hown hC hP (vO.m hV) (vO.o hV) rfl 3 (by decide) (hts (.fieldLink RX4 26 "OrderedClausesModel" "states" "I") (List.mem_of_getElem? (i := 1) rfl)) rfl dX4_undo_1 ?_
  refine lv_if_ne (tgt := 10) hx hb dX4_undo_4 (by decide) (fun c1 => ?_) (fun c1 => ?_)
  · rw [if_neg c1] at hN
    refine lv_aload_n hx hb dX4_undo_10 rfl (lv_at hl 0 rfl) ?_
    refine lv_dup hx hb dX4_undo_11 rfl ?_
    refine k_get (C := RX4) (T := TX4) (N := 8) (ci := 4) (v := .int (u.2.2 0)) hx hb hts (fun _ h => List.mem_cons_of_mem _ (List.mem_append_right _ h)) hown hC hP (vO.m hV) (vO.o hV) rfl 3 (by decide) (hts (.fieldLink RX4 26 "OrderedClausesModel" "states" "I") (List.mem_of_getElem? (i := 1) rfl)) rfl dX4_undo_12 ?_
    refine lv_iconst (v := 1) hx hb dX4_undo_15 (by decide) ?_
    refine lv_isub hx hb dX4_undo_16 ?_
    refine k_putE (C := RX4) (T := TX4) (N := 8) (ci := 4) hx hb hts (fun _ h => List.mem_cons_of_mem _ (List.mem_append_right _ h)) tyX4 tyX4_ok nmX4 hown hL hC hP hS (vO.m hV) (vO.o hV) rfl 3 (by decide) (hts (.fieldLink RX4 26 "OrderedClausesModel" "states" "I") (List.mem_of_getElem? (i := 1) rfl)) (by decide +kernel) (by decide +kernel) (Nat.le_of_ble_eq_true rfl) dX4_undo_17 (fun G2 H locs hq hP hS => ?_)
    have hV : vM g L G2 h0 r (u.1, u.2.1, (va_up u.2.2 0 ((u.2.2 0) - (1 : Int32)))) := by rw [hq]; exact vO.setK (f := u.1) (gg := u.2.1) (k := u.2.2) hV rfl
    have hfr : frS h0 r 4 G G2 := by rw [hq]; exact vO.frK hfr _
    refine lv_iconst (v := 0) hx hb dX4_undo_20 (by decide) ?_
    refine lv_istore_n (lv' := [(1, .int (0 : Int32)), (0, .ref h0)]) hx hb dX4_undo_21 rfl hl (by decide) rfl (fun ls hl => ?_)
    exact lp22 fuel (u.1, u.2.1, (va_up u.2.2 0 ((u.2.2 0) - (1 : Int32)))) (0 : Int32)  _ _ _ _ hV hfr hP hS (lv_sub hl [1, 0] rfl) hN
  · rw [if_pos c1] at hN
    refine lv_ldc (v := (-1000002)) hx hb hown (hts (.constant RX4 78 (-1000002)) (List.mem_of_getElem? (i := 2) rfl)) dX4_undo_7 ?_
    obtain ⟨hE, hE2⟩ := spair hN
    exact k_iretW hx hb hr hE ⟨hE2 ▸ hV, hfr⟩ hP hS hlk dX4_undo_9
set_option maxHeartbeats 4000000 in
set_option maxRecDepth 100000 in
theorem c_X4_type (l : Launch) (g : Gm) (L : List Nat) {A : Nat → Prop} (hL : kL L A) (G : Nat → va_E) (h0 : Nat) (r : Nat → Nat) (u : St) (hV : vM g L G h0 r u) (p0 : Int32) (v : Int32) (w : St) (hF : F_X4_type u p0 = some (v, w)) : Met l yX4_type wsX4_type ({ frames := 1, cells := 0, slots := 0, locals := 22 } : Room) (va_Pc [.ref h0, .int p0] (kB g L A G)) (va_Qi (fun x (G9 : Nat → va_E) => x = v ∧ (vM g L G9 h0 r w ∧ frS h0 r 4 G G9)) (kE g L) A) 0 0 A := by
  refine Met.ofW (cc := cX4_type) (maxL := 2) (ret := (some .int)) (by decide) rfl ?_
  intro p e s m args below meth c s₁ B hml hv
  obtain ⟨rfl, hP, hC⟩ := hv
  have hx := B.exec
  have hb := B.bytes
  have hr := B.returns
  have hts := atoms_spec (ws := wsX4_type) B.pre
  have hown : s.vm.findClass RX4 = some m.cls := findClass_of_methodNamed B.named
  have hlk := B.notSynchronized
  have hS : va_S A s.heap s.heap [] := va_S.rf
  have hV0 := hV
  have hfr : frS h0 r 4 G G := frS.rf
  have hl := lv_entry ([.ref h0, .int p0]) (n := 2) (Nat.le_of_ble_eq_true rfl)
  rw [lg_entry_eq]
  generalize (lg_sl ([.ref h0, .int p0]) ++ List.replicate (2 - (lg_sl ([.ref h0, .int p0])).length) Slot.unset).toArray = ls at hl ⊢
  have hl : lv_has ls 2 [(0, .ref h0), (1, .int p0)] := hl
  have hN := hF
  unfold F_X4_type at hN
  refine lv_iload_n hx hb dX4_type_0 rfl (lv_at hl 1 rfl) ?_
  refine lv_bipush (v := 32) hx hb dX4_type_1 (by decide) ?_
  refine lv_bipush (v := 126) hx hb dX4_type_3 (by decide) ?_
  obtain ⟨v1, hv1, hN⟩ := oB_spec hN
  refine k_iR hS (va_runS (As := [.int p0, .int (32 : Int32), .int (126 : Int32)]) (rest := []) ⟨hx, hb, hml, hown, hts⟩ (c_X4_in l g L hL G p0 (32 : Int32) (126 : Int32) v1 hv1) (va_cwS 3 hts gX4_type_X4_in rfl rfl rfl (by decide +kernel) ⟨Nat.le_of_ble_eq_true rfl, Nat.le_of_ble_eq_true rfl⟩) (k_pre hC hS hP) rfl rfl hl.1 rfl (lv_room (Nat.le_of_ble_eq_true rfl)) dX4_type_5 ⟨Nat.zero_le _, Nat.zero_le _⟩) (fun H locs hP hS => ?_)
  refine lv_if_ne (tgt := 14) hx hb dX4_type_8 (by decide) (fun c3 => ?_) (fun c3 => ?_)
  · rw [if_neg c3] at hN
    refine lv_aload_n hx hb dX4_type_14 rfl (lv_at hl 0 rfl) ?_
    refine k_get (C := RX4) (T := TX4) (N := 8) (ci := 4) (v := .int (u.2.2 1)) hx hb hts (fun _ h => List.mem_cons_of_mem _ (List.mem_append_right _ h)) hown hC hP (vO.m hV) (vO.o hV) rfl 5 (by decide) (hts (.fieldLink RX4 155 "OrderedClausesModel" "length" "I") (List.mem_of_getElem? (i := 2) rfl)) rfl dX4_type_15 ?_
    refine lv_bipush (v := 60) hx hb dX4_type_18 (by decide) ?_
    refine lv_icmp_ne (tgt := 26) hx hb dX4_type_20 (by decide) (fun c4 => ?_) (fun c4 => ?_)
    · rw [if_neg c4] at hN
      refine lv_aload_n hx hb dX4_type_26 rfl (lv_at hl 0 rfl) ?_
      refine k_get (C := RX4) (T := TX4) (N := 8) (ci := 4) (v := .ref (r 3)) hx hb hts (fun _ h => List.mem_cons_of_mem _ (List.mem_append_right _ h)) hown hC hP (vO.m hV) (vO.o hV) rfl 4 (by decide) (hts (.fieldLink RX4 19 "OrderedClausesModel" "text" "[I") (List.mem_of_getElem? (i := 4) rfl)) rfl dX4_type_27 ?_
      refine lv_aload_n hx hb dX4_type_30 rfl (lv_at hl 0 rfl) ?_
      refine k_get (C := RX4) (T := TX4) (N := 8) (ci := 4) (v := .int (u.2.2 1)) hx hb hts (fun _ h => List.mem_cons_of_mem _ (List.mem_append_right _ h)) hown hC hP (vO.m hV) (vO.o hV) rfl 5 (by decide) (hts (.fieldLink RX4 155 "OrderedClausesModel" "length" "I") (List.mem_of_getElem? (i := 2) rfl)) rfl dX4_type_31 ?_
      refine lv_iload_n hx hb dX4_type_34 rfl (lv_at hl 1 rfl) ?_
      obtain ⟨y5, hy5, hN⟩ := oB_spec hN
      refine k_istE hx hb hL hC hP hS (vO.rm hV 3 (by decide)) (vO.ri hV 3 (by decide)) hy5 dX4_type_35 (fun G6 H locs hq hP hS => ?_)
      have hV : vM g L G6 h0 r ((va_up u.1 3 y5), u.2.1, u.2.2) := by rw [hq]; exact vO.setI (f := u.1) (gg := u.2.1) (k := u.2.2) hV (by decide) 3 (by decide) _
      have hfr : frS h0 r 4 G G6 := by rw [hq]; exact vO.frI hfr 3 (by decide) _
      refine lv_aload_n hx hb dX4_type_36 rfl (lv_at hl 0 rfl) ?_
      refine lv_dup hx hb dX4_type_37 rfl ?_
      refine k_get (C := RX4) (T := TX4) (N := 8) (ci := 4) (v := .int (u.2.2 1)) hx hb hts (fun _ h => List.mem_cons_of_mem _ (List.mem_append_right _ h)) hown hC hP (vO.m hV) (vO.o hV) rfl 5 (by decide) (hts (.fieldLink RX4 155 "OrderedClausesModel" "length" "I") (List.mem_of_getElem? (i := 2) rfl)) rfl dX4_type_38 ?_
      refine lv_iconst (v := 1) hx hb dX4_type_41 (by decide) ?_
      refine lv_iadd hx hb dX4_type_42 ?_
      refine k_putE (C := RX4) (T := TX4) (N := 8) (ci := 4) hx hb hts (fun _ h => List.mem_cons_of_mem _ (List.mem_append_right _ h)) tyX4 tyX4_ok nmX4 hown hL hC hP hS (vO.m hV) (vO.o hV) rfl 5 (by decide) (hts (.fieldLink RX4 155 "OrderedClausesModel" "length" "I") (List.mem_of_getElem? (i := 2) rfl)) (by decide +kernel) (by decide +kernel) (Nat.le_of_ble_eq_true rfl) dX4_type_43 (fun G7 H locs hq hP hS => ?_)
      have hV : vM g L G7 h0 r ((va_up u.1 3 y5), u.2.1, (va_up u.2.2 1 ((u.2.2 1) + (1 : Int32)))) := by rw [hq]; exact vO.setK (f := (va_up u.1 3 y5)) (gg := u.2.1) (k := u.2.2) hV rfl
      have hfr : frS h0 r 4 G G7 := by rw [hq]; exact vO.frK hfr _
      refine lv_aload_n hx hb dX4_type_46 rfl (lv_at hl 0 rfl) ?_
      refine k_get (C := RX4) (T := TX4) (N := 8) (ci := 4) (v := .int ((va_up u.2.2 1 ((u.2.2 1) + (1 : Int32))) 1)) hx hb hts (fun _ h => List.mem_cons_of_mem _ (List.mem_append_right _ h)) hown hC hP (vO.m hV) (vO.o hV) rfl 5 (by decide) (hts (.fieldLink RX4 155 "OrderedClausesModel" "length" "I") (List.mem_of_getElem? (i := 2) rfl)) rfl dX4_type_47 ?_
      obtain ⟨hE, hE2⟩ := spair hN
      exact k_iretW hx hb hr hE ⟨hE2 ▸ hV, hfr⟩ hP hS hlk dX4_type_50
    · rw [if_pos c4] at hN
      refine lv_ldc (v := (-1000003)) hx hb hown (hts (.constant RX4 59 (-1000003)) (List.mem_of_getElem? (i := 3) rfl)) dX4_type_23 ?_
      obtain ⟨hE, hE2⟩ := spair hN
      exact k_iretW hx hb hr hE ⟨hE2 ▸ hV, hfr⟩ hP hS hlk dX4_type_25
  · rw [if_pos c3] at hN
    refine lv_ldc (v := (-1000001)) hx hb hown (hts (.constant RX4 22 (-1000001)) (List.mem_of_getElem? (i := 1) rfl)) dX4_type_11 ?_
    obtain ⟨hE, hE2⟩ := spair hN
    exact k_iretW hx hb hr hE ⟨hE2 ▸ hV, hfr⟩ hP hS hlk dX4_type_13
set_option maxHeartbeats 4000000 in
set_option maxRecDepth 100000 in
theorem c_X4_clearText (l : Launch) (g : Gm) (L : List Nat) {A : Nat → Prop} (hL : kL L A) (G : Nat → va_E) (h0 : Nat) (r : Nat → Nat) (u : St) (hV : vM g L G h0 r u) (v : Int32) (w : St) (hF : F_X4_clearText u = some (v, w)) : Met l yX4_clearText wsX4_clearText ({ frames := 0, cells := 0, slots := 0, locals := 0 } : Room) (va_Pc [.ref h0] (kB g L A G)) (va_Qi (fun x (G9 : Nat → va_E) => x = v ∧ (vM g L G9 h0 r w ∧ frS h0 r 4 G G9)) (kE g L) A) 0 0 A := by
  refine Met.ofW (cc := cX4_clearText) (maxL := 2) (ret := (some .int)) (by decide) rfl ?_
  intro p e s m args below meth c s₁ B hml hv
  obtain ⟨rfl, hP, hC⟩ := hv
  have hx := B.exec
  have hb := B.bytes
  have hr := B.returns
  have hts := atoms_spec (ws := wsX4_clearText) B.pre
  have hown : s.vm.findClass RX4 = some m.cls := findClass_of_methodNamed B.named
  have hlk := B.notSynchronized
  have hS : va_S A s.heap s.heap [] := va_S.rf
  have hV0 := hV
  have hfr : frS h0 r 4 G G := frS.rf
  have hl := lv_entry ([.ref h0]) (n := 2) (Nat.le_of_ble_eq_true rfl)
  rw [lg_entry_eq]
  generalize (lg_sl ([.ref h0]) ++ List.replicate (2 - (lg_sl ([.ref h0])).length) Slot.unset).toArray = ls at hl ⊢
  have hl : lv_has ls 2 [(0, .ref h0)] := hl
  have hN := hF
  unfold F_X4_clearText at hN
  refine lv_aload_n hx hb dX4_clearText_0 rfl (lv_at hl 0 rfl) ?_
  refine k_get (C := RX4) (T := TX4) (N := 8) (ci := 4) (v := .int (u.2.2 1)) hx hb hts (fun _ h => List.mem_cons_of_mem _ (List.mem_append_right _ h)) hown hC hP (vO.m hV) (vO.o hV) rfl 5 (by decide) (hts (.fieldLink RX4 155 "OrderedClausesModel" "length" "I") (List.mem_of_getElem? (i := 1) rfl)) rfl dX4_clearText_1 ?_
  refine lv_istore_n (lv' := [(1, .int (u.2.2 1)), (0, .ref h0)]) hx hb dX4_clearText_4 rfl hl (by decide) rfl (fun ls hl => ?_)
  refine lv_aload_n hx hb dX4_clearText_5 rfl (lv_at hl 1 rfl) ?_
  refine lv_iconst (v := 0) hx hb dX4_clearText_6 (by decide) ?_
  refine k_putE (C := RX4) (T := TX4) (N := 8) (ci := 4) hx hb hts (fun _ h => List.mem_cons_of_mem _ (List.mem_append_right _ h)) tyX4 tyX4_ok nmX4 hown hL hC hP hS (vO.m hV) (vO.o hV) rfl 5 (by decide) (hts (.fieldLink RX4 155 "OrderedClausesModel" "length" "I") (List.mem_of_getElem? (i := 1) rfl)) (by decide +kernel) (by decide +kernel) (Nat.le_of_ble_eq_true rfl) dX4_clearText_7 (fun G1 H locs hq hP hS => ?_)
  have hV : vM g L G1 h0 r (u.1, u.2.1, (va_up u.2.2 1 (0 : Int32))) := by rw [hq]; exact vO.setK (f := u.1) (gg := u.2.1) (k := u.2.2) hV rfl
  have hfr : frS h0 r 4 G G1 := by rw [hq]; exact vO.frK hfr _
  refine lv_iload_n hx hb dX4_clearText_10 rfl (lv_at hl 0 rfl) ?_
  obtain ⟨hE, hE2⟩ := spair hN
  exact k_iretW hx hb hr hE ⟨hE2 ▸ hV, hfr⟩ hP hS hlk dX4_clearText_11
set_option maxHeartbeats 4000000 in
set_option maxRecDepth 100000 in
theorem c_X4_reads (l : Launch) (g : Gm) (L : List Nat) {A : Nat → Prop} (hL : kL L A) (G : Nat → va_E) (h0 : Nat) (r : Nat → Nat) (u : St) (hV : vM g L G h0 r u) (v : Int32) (w : St) (hF : F_X4_reads u = some (v, w)) : Met l yX4_reads wsX4_reads ({ frames := 1, cells := 0, slots := 0, locals := 22 } : Room) (va_Pc [.ref h0] (kB g L A G)) (va_Qi (fun x (G9 : Nat → va_E) => x = v ∧ (vM g L G9 h0 r w ∧ frS h0 r 4 G G9)) (kE g L) A) 0 0 A := by
  refine Met.ofW (cc := cX4_reads) (maxL := 2) (ret := (some .boolean)) (by decide) rfl ?_
  intro p e s m args below meth c s₁ B hml hv
  obtain ⟨rfl, hP, hC⟩ := hv
  have hx := B.exec
  have hb := B.bytes
  have hr := B.returns
  have hts := atoms_spec (ws := wsX4_reads) B.pre
  have hown : s.vm.findClass RX4 = some m.cls := findClass_of_methodNamed B.named
  have hlk := B.notSynchronized
  have hS : va_S A s.heap s.heap [] := va_S.rf
  have hV0 := hV
  have hfr : frS h0 r 4 G G := frS.rf
  have lp5 : ∀ (n : Nat) (u : St) (G1 : Nat → va_E) (H : Heap) (locs : List Loc) (ls : Array Slot), vM g L G1 h0 r u → frS h0 r 4 G G1 → va_P g.1 vwCl (va_pl L G1) H → va_S A s.heap H locs → lv_has ls 2 [(0, .ref h0)] → FL_X4_reads_5  n u = some (v, w) → W p l e (headSpec wsX4_reads ({ frames := 1, cells := 0, slots := 0, locals := 22 } : Room)).room s m ([.ref h0] : List Value).toArray below meth c H locs 0 0 (MQ below (va_Qi (fun x (G9 : Nat → va_E) => x = v ∧ (vM g L G9 h0 r w ∧ frS h0 r 4 G G9)) (kE g L) A) ([.ref h0] : List Value).toArray s 0 0 A) (F0 m 5 ls []) := by
    intro n
    induction n with
    | zero =>
      intro u G1 H locs ls hV hfr hP hS hl hN
      exact absurd hN (by simp [FL_X4_reads_5])
    | succ n ih =>
      intro u G1 H locs ls hV hfr hP hS hl hN
      rw [FL_X4_reads_5] at hN
      refine lv_aload_n hx hb dX4_reads_5 rfl (lv_at hl 0 rfl) ?_
      obtain ⟨v2, hv2, hN⟩ := oB_spec hN
      refine k_iR hS (va_runV (As := []) (rest := []) ⟨hx, hb, hml, hown, hts⟩ (c_X4_here l g L hL G1 h0 r u hV v2 hv2) (cwV 0 hts gX4_reads_X4_here rfl rfl rfl (by decide +kernel) ⟨Nat.le_of_ble_eq_true rfl, Nat.le_of_ble_eq_true rfl⟩) (k_preV hC hS hP (vO.m hV) (vO.o hV) rfl) rfl rfl hl.1 rfl (lv_room (Nat.le_of_ble_eq_true rfl)) dX4_reads_6 ⟨Nat.zero_le _, Nat.zero_le _⟩) (fun H locs hP hS => ?_)
      refine lv_bipush (v := 97) hx hb dX4_reads_9 (by decide) ?_
      refine lv_bipush (v := 102) hx hb dX4_reads_11 (by decide) ?_
      obtain ⟨v4, hv4, hN⟩ := oB_spec hN
      refine k_iR hS (va_runS (As := [.int v2, .int (97 : Int32), .int (102 : Int32)]) (rest := []) ⟨hx, hb, hml, hown, hts⟩ (c_X4_in l g L hL G1 v2 (97 : Int32) (102 : Int32) v4 hv4) (va_cwS 3 hts gX4_reads_X4_in rfl rfl rfl (by decide +kernel) ⟨Nat.le_of_ble_eq_true rfl, Nat.le_of_ble_eq_true rfl⟩) (k_pre hC hS hP) rfl rfl hl.1 rfl (lv_room (Nat.le_of_ble_eq_true rfl)) dX4_reads_13 ⟨Nat.zero_le _, Nat.zero_le _⟩) (fun H locs hP hS => ?_)
      refine lv_if_ne (tgt := 28) hx hb dX4_reads_16 (by decide) (fun c6 => ?_) (fun c6 => ?_)
      · rw [if_neg c6] at hN
        refine lv_aload_n hx hb dX4_reads_28 rfl (lv_at hl 0 rfl) ?_
        obtain ⟨v7, hv7, hN⟩ := oB_spec hN
        refine k_iR hS (va_runV (As := []) (rest := []) ⟨hx, hb, hml, hown, hts⟩ (c_X4_here l g L hL G1 h0 r u hV v7 hv7) (cwV 0 hts gX4_reads_X4_here rfl rfl rfl (by decide +kernel) ⟨Nat.le_of_ble_eq_true rfl, Nat.le_of_ble_eq_true rfl⟩) (k_preV hC hS hP (vO.m hV) (vO.o hV) rfl) rfl rfl hl.1 rfl (lv_room (Nat.le_of_ble_eq_true rfl)) dX4_reads_29 ⟨Nat.zero_le _, Nat.zero_le _⟩) (fun H locs hP hS => ?_)
        refine lv_bipush (v := 45) hx hb dX4_reads_32 (by decide) ?_
        refine lv_icmp_ne (tgt := 41) hx hb dX4_reads_34 (by decide) (fun c9 => ?_) (fun c9 => ?_)
        · rw [if_neg c9] at hN
          refine lv_iconst (v := 0) hx hb dX4_reads_41 (by decide) ?_
          refine lv_istore_n (lv' := [(1, .int (0 : Int32)), (0, .ref h0)]) hx hb dX4_reads_42 rfl hl (by decide) rfl (fun ls hl => ?_)
          refine lv_aload_n hx hb dX4_reads_43 rfl (lv_at hl 1 rfl) ?_
          refine lv_dup hx hb dX4_reads_44 rfl ?_
          refine k_get (C := RX4) (T := TX4) (N := 8) (ci := 4) (v := .int (u.2.2 2)) hx hb hts (fun _ h => List.mem_cons_of_mem _ (List.mem_append_right _ h)) hown hC hP (vO.m hV) (vO.o hV) rfl 6 (by decide) (hts (.fieldLink RX4 158 "OrderedClausesModel" "at" "I") (List.mem_of_getElem? (i := 2) rfl)) rfl dX4_reads_45 ?_
          refine lv_iload_n hx hb dX4_reads_48 rfl (lv_at hl 0 rfl) ?_
          refine lv_iadd hx hb dX4_reads_49 ?_
          refine k_putE (C := RX4) (T := TX4) (N := 8) (ci := 4) hx hb hts (fun _ h => List.mem_cons_of_mem _ (List.mem_append_right _ h)) tyX4 tyX4_ok nmX4 hown hL hC hP hS (vO.m hV) (vO.o hV) rfl 6 (by decide) (hts (.fieldLink RX4 158 "OrderedClausesModel" "at" "I") (List.mem_of_getElem? (i := 2) rfl)) (by decide +kernel) (by decide +kernel) (Nat.le_of_ble_eq_true rfl) dX4_reads_50 (fun G10 H locs hq hP hS => ?_)
          have hV : vM g L G10 h0 r (u.1, u.2.1, (va_up u.2.2 2 ((u.2.2 2) + (0 : Int32)))) := by rw [hq]; exact vO.setK (f := u.1) (gg := u.2.1) (k := u.2.2) hV rfl
          have hfr : frS h0 r 4 G G10 := by rw [hq]; exact vO.frK hfr _
          refine lv_aload_n hx hb dX4_reads_53 rfl (lv_at hl 1 rfl) ?_
          obtain ⟨v11, hv11, hN⟩ := oB_spec hN
          refine k_iR hS (va_runV (As := []) (rest := []) ⟨hx, hb, hml, hown, hts⟩ (c_X4_here l g L hL G10 h0 r (u.1, u.2.1, (va_up u.2.2 2 ((u.2.2 2) + (0 : Int32)))) hV v11 hv11) (cwV 0 hts gX4_reads_X4_here rfl rfl rfl (by decide +kernel) ⟨Nat.le_of_ble_eq_true rfl, Nat.le_of_ble_eq_true rfl⟩) (k_preV hC hS hP (vO.m hV) (vO.o hV) rfl) rfl rfl hl.1 rfl (lv_room (Nat.le_of_ble_eq_true rfl)) dX4_reads_54 ⟨Nat.zero_le _, Nat.zero_le _⟩) (fun H locs hP hS => ?_)
          refine lv_bipush (v := 97) hx hb dX4_reads_57 (by decide) ?_
          refine lv_bipush (v := 102) hx hb dX4_reads_59 (by decide) ?_
          obtain ⟨v13, hv13, hN⟩ := oB_spec hN
          refine k_iR hS (va_runS (As := [.int v11, .int (97 : Int32), .int (102 : Int32)]) (rest := []) ⟨hx, hb, hml, hown, hts⟩ (c_X4_in l g L hL G10 v11 (97 : Int32) (102 : Int32) v13 hv13) (va_cwS 3 hts gX4_reads_X4_in rfl rfl rfl (by decide +kernel) ⟨Nat.le_of_ble_eq_true rfl, Nat.le_of_ble_eq_true rfl⟩) (k_pre hC hS hP) rfl rfl hl.1 rfl (lv_room (Nat.le_of_ble_eq_true rfl)) dX4_reads_61 ⟨Nat.zero_le _, Nat.zero_le _⟩) (fun H locs hP hS => ?_)
          refine lv_if_ne (tgt := 69) hx hb dX4_reads_64 (by decide) (fun c15 => ?_) (fun c15 => ?_)
          · rw [if_neg c15] at hN
            refine lv_aload_n hx hb dX4_reads_69 rfl (lv_at hl 1 rfl) ?_
            refine lv_dup hx hb dX4_reads_70 rfl ?_
            refine k_get (C := RX4) (T := TX4) (N := 8) (ci := 4) (v := .int ((va_up u.2.2 2 ((u.2.2 2) + (0 : Int32))) 3)) hx hb hts (fun _ h => List.mem_cons_of_mem _ (List.mem_append_right _ h)) hown hC hP (vO.m hV) (vO.o hV) rfl 7 (by decide) (hts (.fieldLink RX4 161 "OrderedClausesModel" "read" "I") (List.mem_of_getElem? (i := 1) rfl)) rfl dX4_reads_71 ?_
            refine lv_iconst (v := 1) hx hb dX4_reads_74 (by decide) ?_
            refine lv_iconst (v := 2) hx hb dX4_reads_75 (by decide) ?_
            refine lv_aload_n hx hb dX4_reads_76 rfl (lv_at hl 1 rfl) ?_
            obtain ⟨v16, hv16, hN⟩ := oB_spec hN
            refine k_iR hS (va_runV (As := []) (rest := [.int (2 : Int32), .int (1 : Int32), .int ((va_up u.2.2 2 ((u.2.2 2) + (0 : Int32))) 3), .ref h0]) ⟨hx, hb, hml, hown, hts⟩ (c_X4_here l g L hL G10 h0 r (u.1, u.2.1, (va_up u.2.2 2 ((u.2.2 2) + (0 : Int32)))) hV v16 hv16) (cwV 0 hts gX4_reads_X4_here rfl rfl rfl (by decide +kernel) ⟨Nat.le_of_ble_eq_true rfl, Nat.le_of_ble_eq_true rfl⟩) (k_preV hC hS hP (vO.m hV) (vO.o hV) rfl) rfl rfl hl.1 rfl (lv_room (Nat.le_of_ble_eq_true rfl)) dX4_reads_77 ⟨Nat.zero_le _, Nat.zero_le _⟩) (fun H locs hP hS => ?_)
            refine lv_bipush (v := 97) hx hb dX4_reads_80 (by decide) ?_
            refine lv_isub hx hb dX4_reads_82 ?_
            refine lv_imul hx hb dX4_reads_83 ?_
            refine lv_iload_n hx hb dX4_reads_84 rfl (lv_at hl 0 rfl) ?_
            refine lv_iadd hx hb dX4_reads_85 ?_
            refine lv_ishl hx hb dX4_reads_86 ?_
            refine lv_ior hx hb dX4_reads_87 ?_
            refine k_putE (C := RX4) (T := TX4) (N := 8) (ci := 4) hx hb hts (fun _ h => List.mem_cons_of_mem _ (List.mem_append_right _ h)) tyX4 tyX4_ok nmX4 hown hL hC hP hS (vO.m hV) (vO.o hV) rfl 7 (by decide) (hts (.fieldLink RX4 161 "OrderedClausesModel" "read" "I") (List.mem_of_getElem? (i := 1) rfl)) (by decide +kernel) (by decide +kernel) (Nat.le_of_ble_eq_true rfl) dX4_reads_88 (fun G18 H locs hq hP hS => ?_)
            have hV : vM g L G18 h0 r (u.1, u.2.1, (va_up (va_up u.2.2 2 ((u.2.2 2) + (0 : Int32))) 3 (((va_up u.2.2 2 ((u.2.2 2) + (0 : Int32))) 3) ||| ((1 : Int32) <<< ((((2 : Int32) * (v16 - (97 : Int32))) + (0 : Int32)) &&& 31))))) := by rw [hq]; exact vO.setK (f := u.1) (gg := u.2.1) (k := (va_up u.2.2 2 ((u.2.2 2) + (0 : Int32)))) hV rfl
            have hfr : frS h0 r 4 G G18 := by rw [hq]; exact vO.frK hfr _
            refine lv_aload_n hx hb dX4_reads_91 rfl (lv_at hl 1 rfl) ?_
            refine lv_dup hx hb dX4_reads_92 rfl ?_
            refine k_get (C := RX4) (T := TX4) (N := 8) (ci := 4) (v := .int ((va_up (va_up u.2.2 2 ((u.2.2 2) + (0 : Int32))) 3 (((va_up u.2.2 2 ((u.2.2 2) + (0 : Int32))) 3) ||| ((1 : Int32) <<< ((((2 : Int32) * (v16 - (97 : Int32))) + (0 : Int32)) &&& 31)))) 2)) hx hb hts (fun _ h => List.mem_cons_of_mem _ (List.mem_append_right _ h)) hown hC hP (vO.m hV) (vO.o hV) rfl 6 (by decide) (hts (.fieldLink RX4 158 "OrderedClausesModel" "at" "I") (List.mem_of_getElem? (i := 2) rfl)) rfl dX4_reads_93 ?_
            refine lv_iconst (v := 1) hx hb dX4_reads_96 (by decide) ?_
            refine lv_iadd hx hb dX4_reads_97 ?_
            refine k_putE (C := RX4) (T := TX4) (N := 8) (ci := 4) hx hb hts (fun _ h => List.mem_cons_of_mem _ (List.mem_append_right _ h)) tyX4 tyX4_ok nmX4 hown hL hC hP hS (vO.m hV) (vO.o hV) rfl 6 (by decide) (hts (.fieldLink RX4 158 "OrderedClausesModel" "at" "I") (List.mem_of_getElem? (i := 2) rfl)) (by decide +kernel) (by decide +kernel) (Nat.le_of_ble_eq_true rfl) dX4_reads_98 (fun G19 H locs hq hP hS => ?_)
            have hV : vM g L G19 h0 r (u.1, u.2.1, (va_up (va_up (va_up u.2.2 2 ((u.2.2 2) + (0 : Int32))) 3 (((va_up u.2.2 2 ((u.2.2 2) + (0 : Int32))) 3) ||| ((1 : Int32) <<< ((((2 : Int32) * (v16 - (97 : Int32))) + (0 : Int32)) &&& 31)))) 2 (((va_up (va_up u.2.2 2 ((u.2.2 2) + (0 : Int32))) 3 (((va_up u.2.2 2 ((u.2.2 2) + (0 : Int32))) 3) ||| ((1 : Int32) <<< ((((2 : Int32) * (v16 - (97 : Int32))) + (0 : Int32)) &&& 31)))) 2) + (1 : Int32)))) := by rw [hq]; exact vO.setK (f := u.1) (gg := u.2.1) (k := (va_up (va_up u.2.2 2 ((u.2.2 2) + (0 : Int32))) 3 (((va_up u.2.2 2 ((u.2.2 2) + (0 : Int32))) 3) ||| ((1 : Int32) <<< ((((2 : Int32) * (v16 - (97 : Int32))) + (0 : Int32)) &&& 31))))) hV rfl
            have hfr : frS h0 r 4 G G19 := by rw [hq]; exact vO.frK hfr _
            refine lv_goto (tgt := 5) hx hb dX4_reads_101 (by decide) ?_
            exact ih (u.1, u.2.1, (va_up (va_up (va_up u.2.2 2 ((u.2.2 2) + (0 : Int32))) 3 (((va_up u.2.2 2 ((u.2.2 2) + (0 : Int32))) 3) ||| ((1 : Int32) <<< ((((2 : Int32) * (v16 - (97 : Int32))) + (0 : Int32)) &&& 31)))) 2 (((va_up (va_up u.2.2 2 ((u.2.2 2) + (0 : Int32))) 3 (((va_up u.2.2 2 ((u.2.2 2) + (0 : Int32))) 3) ||| ((1 : Int32) <<< ((((2 : Int32) * (v16 - (97 : Int32))) + (0 : Int32)) &&& 31)))) 2) + (1 : Int32))))  _ _ _ _ hV hfr hP hS (lv_sub hl [1] rfl) hN
          · rw [if_pos c15] at hN
            refine lv_iconst (v := 0) hx hb dX4_reads_67 (by decide) ?_
            obtain ⟨hE, hE2⟩ := spair hN
            exact k_zretW hx hb hr (by decide) hE ⟨hE2 ▸ hV, hfr⟩ hP hS hlk dX4_reads_68
        · rw [if_pos c9] at hN
          refine lv_iconst (v := 1) hx hb dX4_reads_37 (by decide) ?_
          refine lv_goto (tgt := 42) hx hb dX4_reads_38 (by decide) ?_
          refine lv_istore_n (lv' := [(1, .int (1 : Int32)), (0, .ref h0)]) hx hb dX4_reads_42 rfl hl (by decide) rfl (fun ls hl => ?_)
          refine lv_aload_n hx hb dX4_reads_43 rfl (lv_at hl 1 rfl) ?_
          refine lv_dup hx hb dX4_reads_44 rfl ?_
          refine k_get (C := RX4) (T := TX4) (N := 8) (ci := 4) (v := .int (u.2.2 2)) hx hb hts (fun _ h => List.mem_cons_of_mem _ (List.mem_append_right _ h)) hown hC hP (vO.m hV) (vO.o hV) rfl 6 (by decide) (hts (.fieldLink RX4 158 "OrderedClausesModel" "at" "I") (List.mem_of_getElem? (i := 2) rfl)) rfl dX4_reads_45 ?_
          refine lv_iload_n hx hb dX4_reads_48 rfl (lv_at hl 0 rfl) ?_
          refine lv_iadd hx hb dX4_reads_49 ?_
          refine k_putE (C := RX4) (T := TX4) (N := 8) (ci := 4) hx hb hts (fun _ h => List.mem_cons_of_mem _ (List.mem_append_right _ h)) tyX4 tyX4_ok nmX4 hown hL hC hP hS (vO.m hV) (vO.o hV) rfl 6 (by decide) (hts (.fieldLink RX4 158 "OrderedClausesModel" "at" "I") (List.mem_of_getElem? (i := 2) rfl)) (by decide +kernel) (by decide +kernel) (Nat.le_of_ble_eq_true rfl) dX4_reads_50 (fun G20 H locs hq hP hS => ?_)
          have hV : vM g L G20 h0 r (u.1, u.2.1, (va_up u.2.2 2 ((u.2.2 2) + (1 : Int32)))) := by rw [hq]; exact vO.setK (f := u.1) (gg := u.2.1) (k := u.2.2) hV rfl
          have hfr : frS h0 r 4 G G20 := by rw [hq]; exact vO.frK hfr _
          refine lv_aload_n hx hb dX4_reads_53 rfl (lv_at hl 1 rfl) ?_
          obtain ⟨v21, hv21, hN⟩ := oB_spec hN
          refine k_iR hS (va_runV (As := []) (rest := []) ⟨hx, hb, hml, hown, hts⟩ (c_X4_here l g L hL G20 h0 r (u.1, u.2.1, (va_up u.2.2 2 ((u.2.2 2) + (1 : Int32)))) hV v21 hv21) (cwV 0 hts gX4_reads_X4_here rfl rfl rfl (by decide +kernel) ⟨Nat.le_of_ble_eq_true rfl, Nat.le_of_ble_eq_true rfl⟩) (k_preV hC hS hP (vO.m hV) (vO.o hV) rfl) rfl rfl hl.1 rfl (lv_room (Nat.le_of_ble_eq_true rfl)) dX4_reads_54 ⟨Nat.zero_le _, Nat.zero_le _⟩) (fun H locs hP hS => ?_)
          refine lv_bipush (v := 97) hx hb dX4_reads_57 (by decide) ?_
          refine lv_bipush (v := 102) hx hb dX4_reads_59 (by decide) ?_
          obtain ⟨v23, hv23, hN⟩ := oB_spec hN
          refine k_iR hS (va_runS (As := [.int v21, .int (97 : Int32), .int (102 : Int32)]) (rest := []) ⟨hx, hb, hml, hown, hts⟩ (c_X4_in l g L hL G20 v21 (97 : Int32) (102 : Int32) v23 hv23) (va_cwS 3 hts gX4_reads_X4_in rfl rfl rfl (by decide +kernel) ⟨Nat.le_of_ble_eq_true rfl, Nat.le_of_ble_eq_true rfl⟩) (k_pre hC hS hP) rfl rfl hl.1 rfl (lv_room (Nat.le_of_ble_eq_true rfl)) dX4_reads_61 ⟨Nat.zero_le _, Nat.zero_le _⟩) (fun H locs hP hS => ?_)
          refine lv_if_ne (tgt := 69) hx hb dX4_reads_64 (by decide) (fun c25 => ?_) (fun c25 => ?_)
          · rw [if_neg c25] at hN
            refine lv_aload_n hx hb dX4_reads_69 rfl (lv_at hl 1 rfl) ?_
            refine lv_dup hx hb dX4_reads_70 rfl ?_
            refine k_get (C := RX4) (T := TX4) (N := 8) (ci := 4) (v := .int ((va_up u.2.2 2 ((u.2.2 2) + (1 : Int32))) 3)) hx hb hts (fun _ h => List.mem_cons_of_mem _ (List.mem_append_right _ h)) hown hC hP (vO.m hV) (vO.o hV) rfl 7 (by decide) (hts (.fieldLink RX4 161 "OrderedClausesModel" "read" "I") (List.mem_of_getElem? (i := 1) rfl)) rfl dX4_reads_71 ?_
            refine lv_iconst (v := 1) hx hb dX4_reads_74 (by decide) ?_
            refine lv_iconst (v := 2) hx hb dX4_reads_75 (by decide) ?_
            refine lv_aload_n hx hb dX4_reads_76 rfl (lv_at hl 1 rfl) ?_
            obtain ⟨v26, hv26, hN⟩ := oB_spec hN
            refine k_iR hS (va_runV (As := []) (rest := [.int (2 : Int32), .int (1 : Int32), .int ((va_up u.2.2 2 ((u.2.2 2) + (1 : Int32))) 3), .ref h0]) ⟨hx, hb, hml, hown, hts⟩ (c_X4_here l g L hL G20 h0 r (u.1, u.2.1, (va_up u.2.2 2 ((u.2.2 2) + (1 : Int32)))) hV v26 hv26) (cwV 0 hts gX4_reads_X4_here rfl rfl rfl (by decide +kernel) ⟨Nat.le_of_ble_eq_true rfl, Nat.le_of_ble_eq_true rfl⟩) (k_preV hC hS hP (vO.m hV) (vO.o hV) rfl) rfl rfl hl.1 rfl (lv_room (Nat.le_of_ble_eq_true rfl)) dX4_reads_77 ⟨Nat.zero_le _, Nat.zero_le _⟩) (fun H locs hP hS => ?_)
            refine lv_bipush (v := 97) hx hb dX4_reads_80 (by decide) ?_
            refine lv_isub hx hb dX4_reads_82 ?_
            refine lv_imul hx hb dX4_reads_83 ?_
            refine lv_iload_n hx hb dX4_reads_84 rfl (lv_at hl 0 rfl) ?_
            refine lv_iadd hx hb dX4_reads_85 ?_
            refine lv_ishl hx hb dX4_reads_86 ?_
            refine lv_ior hx hb dX4_reads_87 ?_
            refine k_putE (C := RX4) (T := TX4) (N := 8) (ci := 4) hx hb hts (fun _ h => List.mem_cons_of_mem _ (List.mem_append_right _ h)) tyX4 tyX4_ok nmX4 hown hL hC hP hS (vO.m hV) (vO.o hV) rfl 7 (by decide) (hts (.fieldLink RX4 161 "OrderedClausesModel" "read" "I") (List.mem_of_getElem? (i := 1) rfl)) (by decide +kernel) (by decide +kernel) (Nat.le_of_ble_eq_true rfl) dX4_reads_88 (fun G28 H locs hq hP hS => ?_)
            have hV : vM g L G28 h0 r (u.1, u.2.1, (va_up (va_up u.2.2 2 ((u.2.2 2) + (1 : Int32))) 3 (((va_up u.2.2 2 ((u.2.2 2) + (1 : Int32))) 3) ||| ((1 : Int32) <<< ((((2 : Int32) * (v26 - (97 : Int32))) + (1 : Int32)) &&& 31))))) := by rw [hq]; exact vO.setK (f := u.1) (gg := u.2.1) (k := (va_up u.2.2 2 ((u.2.2 2) + (1 : Int32)))) hV rfl
            have hfr : frS h0 r 4 G G28 := by rw [hq]; exact vO.frK hfr _
            refine lv_aload_n hx hb dX4_reads_91 rfl (lv_at hl 1 rfl) ?_
            refine lv_dup hx hb dX4_reads_92 rfl ?_
            refine k_get (C := RX4) (T := TX4) (N := 8) (ci := 4) (v := .int ((va_up (va_up u.2.2 2 ((u.2.2 2) + (1 : Int32))) 3 (((va_up u.2.2 2 ((u.2.2 2) + (1 : Int32))) 3) ||| ((1 : Int32) <<< ((((2 : Int32) * (v26 - (97 : Int32))) + (1 : Int32)) &&& 31)))) 2)) hx hb hts (fun _ h => List.mem_cons_of_mem _ (List.mem_append_right _ h)) hown hC hP (vO.m hV) (vO.o hV) rfl 6 (by decide) (hts (.fieldLink RX4 158 "OrderedClausesModel" "at" "I") (List.mem_of_getElem? (i := 2) rfl)) rfl dX4_reads_93 ?_
            refine lv_iconst (v := 1) hx hb dX4_reads_96 (by decide) ?_
            refine lv_iadd hx hb dX4_reads_97 ?_
            refine k_putE (C := RX4) (T := TX4) (N := 8) (ci := 4) hx hb hts (fun _ h => List.mem_cons_of_mem _ (List.mem_append_right _ h)) tyX4 tyX4_ok nmX4 hown hL hC hP hS (vO.m hV) (vO.o hV) rfl 6 (by decide) (hts (.fieldLink RX4 158 "OrderedClausesModel" "at" "I") (List.mem_of_getElem? (i := 2) rfl)) (by decide +kernel) (by decide +kernel) (Nat.le_of_ble_eq_true rfl) dX4_reads_98 (fun G29 H locs hq hP hS => ?_)
            have hV : vM g L G29 h0 r (u.1, u.2.1, (va_up (va_up (va_up u.2.2 2 ((u.2.2 2) + (1 : Int32))) 3 (((va_up u.2.2 2 ((u.2.2 2) + (1 : Int32))) 3) ||| ((1 : Int32) <<< ((((2 : Int32) * (v26 - (97 : Int32))) + (1 : Int32)) &&& 31)))) 2 (((va_up (va_up u.2.2 2 ((u.2.2 2) + (1 : Int32))) 3 (((va_up u.2.2 2 ((u.2.2 2) + (1 : Int32))) 3) ||| ((1 : Int32) <<< ((((2 : Int32) * (v26 - (97 : Int32))) + (1 : Int32)) &&& 31)))) 2) + (1 : Int32)))) := by rw [hq]; exact vO.setK (f := u.1) (gg := u.2.1) (k := (va_up (va_up u.2.2 2 ((u.2.2 2) + (1 : Int32))) 3 (((va_up u.2.2 2 ((u.2.2 2) + (1 : Int32))) 3) ||| ((1 : Int32) <<< ((((2 : Int32) * (v26 - (97 : Int32))) + (1 : Int32)) &&& 31))))) hV rfl
            have hfr : frS h0 r 4 G G29 := by rw [hq]; exact vO.frK hfr _
            refine lv_goto (tgt := 5) hx hb dX4_reads_101 (by decide) ?_
            exact ih (u.1, u.2.1, (va_up (va_up (va_up u.2.2 2 ((u.2.2 2) + (1 : Int32))) 3 (((va_up u.2.2 2 ((u.2.2 2) + (1 : Int32))) 3) ||| ((1 : Int32) <<< ((((2 : Int32) * (v26 - (97 : Int32))) + (1 : Int32)) &&& 31)))) 2 (((va_up (va_up u.2.2 2 ((u.2.2 2) + (1 : Int32))) 3 (((va_up u.2.2 2 ((u.2.2 2) + (1 : Int32))) 3) ||| ((1 : Int32) <<< ((((2 : Int32) * (v26 - (97 : Int32))) + (1 : Int32)) &&& 31)))) 2) + (1 : Int32))))  _ _ _ _ hV hfr hP hS (lv_sub hl [1] rfl) hN
          · rw [if_pos c25] at hN
            refine lv_iconst (v := 0) hx hb dX4_reads_67 (by decide) ?_
            obtain ⟨hE, hE2⟩ := spair hN
            exact k_zretW hx hb hr (by decide) hE ⟨hE2 ▸ hV, hfr⟩ hP hS hlk dX4_reads_68
      · rw [if_pos c6] at hN
        refine lv_aload_n hx hb dX4_reads_19 rfl (lv_at hl 0 rfl) ?_
        obtain ⟨v30, hv30, hN⟩ := oB_spec hN
        refine k_iR hS (va_runV (As := []) (rest := []) ⟨hx, hb, hml, hown, hts⟩ (c_X4_here l g L hL G1 h0 r u hV v30 hv30) (cwV 0 hts gX4_reads_X4_here rfl rfl rfl (by decide +kernel) ⟨Nat.le_of_ble_eq_true rfl, Nat.le_of_ble_eq_true rfl⟩) (k_preV hC hS hP (vO.m hV) (vO.o hV) rfl) rfl rfl hl.1 rfl (lv_room (Nat.le_of_ble_eq_true rfl)) dX4_reads_20 ⟨Nat.zero_le _, Nat.zero_le _⟩) (fun H locs hP hS => ?_)
        refine lv_bipush (v := 45) hx hb dX4_reads_23 (by decide) ?_
        refine lv_icmp_ne (tgt := 104) hx hb dX4_reads_25 (by decide) (fun c32 => ?_) (fun c32 => ?_)
        · rw [if_neg c32] at hN
          refine lv_aload_n hx hb dX4_reads_104 rfl (lv_at hl 0 rfl) ?_
          obtain ⟨v33, hv33, hN⟩ := oB_spec hN
          refine k_iR hS (va_runV (As := []) (rest := []) ⟨hx, hb, hml, hown, hts⟩ (c_X4_here l g L hL G1 h0 r u hV v33 hv33) (cwV 0 hts gX4_reads_X4_here rfl rfl rfl (by decide +kernel) ⟨Nat.le_of_ble_eq_true rfl, Nat.le_of_ble_eq_true rfl⟩) (k_preV hC hS hP (vO.m hV) (vO.o hV) rfl) rfl rfl hl.1 rfl (lv_room (Nat.le_of_ble_eq_true rfl)) dX4_reads_105 ⟨Nat.zero_le _, Nat.zero_le _⟩) (fun H locs hP hS => ?_)
          refine lv_bipush (v := 59) hx hb dX4_reads_108 (by decide) ?_
          refine lv_icmp_ne (tgt := 117) hx hb dX4_reads_110 (by decide) (fun c35 => ?_) (fun c35 => ?_)
          · rw [if_neg c35] at hN
            refine lv_iconst (v := 0) hx hb dX4_reads_117 (by decide) ?_
            refine lv_istore_n (lv' := [(1, .int (0 : Int32)), (0, .ref h0)]) hx hb dX4_reads_118 rfl hl (by decide) rfl (fun ls hl => ?_)
            refine lv_aload_n hx hb dX4_reads_119 rfl (lv_at hl 1 rfl) ?_
            refine lv_dup hx hb dX4_reads_120 rfl ?_
            refine k_get (C := RX4) (T := TX4) (N := 8) (ci := 4) (v := .int (u.2.2 2)) hx hb hts (fun _ h => List.mem_cons_of_mem _ (List.mem_append_right _ h)) hown hC hP (vO.m hV) (vO.o hV) rfl 6 (by decide) (hts (.fieldLink RX4 158 "OrderedClausesModel" "at" "I") (List.mem_of_getElem? (i := 2) rfl)) rfl dX4_reads_121 ?_
            refine lv_iload_n hx hb dX4_reads_124 rfl (lv_at hl 0 rfl) ?_
            refine lv_if_eq (tgt := 132) hx hb dX4_reads_125 (by decide) (fun _ => ?_) (fun c9 => absurd c9 (by decide))
            refine lv_iconst (v := 0) hx hb dX4_reads_132 (by decide) ?_
            refine lv_iadd hx hb dX4_reads_133 ?_
            refine k_putE (C := RX4) (T := TX4) (N := 8) (ci := 4) hx hb hts (fun _ h => List.mem_cons_of_mem _ (List.mem_append_right _ h)) tyX4 tyX4_ok nmX4 hown hL hC hP hS (vO.m hV) (vO.o hV) rfl 6 (by decide) (hts (.fieldLink RX4 158 "OrderedClausesModel" "at" "I") (List.mem_of_getElem? (i := 2) rfl)) (by decide +kernel) (by decide +kernel) (Nat.le_of_ble_eq_true rfl) dX4_reads_134 (fun G36 H locs hq hP hS => ?_)
            have hV : vM g L G36 h0 r (u.1, u.2.1, (va_up u.2.2 2 ((u.2.2 2) + (0 : Int32)))) := by rw [hq]; exact vO.setK (f := u.1) (gg := u.2.1) (k := u.2.2) hV rfl
            have hfr : frS h0 r 4 G G36 := by rw [hq]; exact vO.frK hfr _
            refine lv_iload_n hx hb dX4_reads_137 rfl (lv_at hl 0 rfl) ?_
            obtain ⟨hE, hE2⟩ := spair hN
            exact k_zretW hx hb hr (by decide) hE ⟨hE2 ▸ hV, hfr⟩ hP hS hlk dX4_reads_138
          · rw [if_pos c35] at hN
            refine lv_iconst (v := 1) hx hb dX4_reads_113 (by decide) ?_
            refine lv_goto (tgt := 118) hx hb dX4_reads_114 (by decide) ?_
            refine lv_istore_n (lv' := [(1, .int (1 : Int32)), (0, .ref h0)]) hx hb dX4_reads_118 rfl hl (by decide) rfl (fun ls hl => ?_)
            refine lv_aload_n hx hb dX4_reads_119 rfl (lv_at hl 1 rfl) ?_
            refine lv_dup hx hb dX4_reads_120 rfl ?_
            refine k_get (C := RX4) (T := TX4) (N := 8) (ci := 4) (v := .int (u.2.2 2)) hx hb hts (fun _ h => List.mem_cons_of_mem _ (List.mem_append_right _ h)) hown hC hP (vO.m hV) (vO.o hV) rfl 6 (by decide) (hts (.fieldLink RX4 158 "OrderedClausesModel" "at" "I") (List.mem_of_getElem? (i := 2) rfl)) rfl dX4_reads_121 ?_
            refine lv_iload_n hx hb dX4_reads_124 rfl (lv_at hl 0 rfl) ?_
            refine lv_if_eq (tgt := 132) hx hb dX4_reads_125 (by decide) (fun c9 => absurd c9 (by decide)) (fun _ => ?_)
            refine lv_iconst (v := 1) hx hb dX4_reads_128 (by decide) ?_
            refine lv_goto (tgt := 133) hx hb dX4_reads_129 (by decide) ?_
            refine lv_iadd hx hb dX4_reads_133 ?_
            refine k_putE (C := RX4) (T := TX4) (N := 8) (ci := 4) hx hb hts (fun _ h => List.mem_cons_of_mem _ (List.mem_append_right _ h)) tyX4 tyX4_ok nmX4 hown hL hC hP hS (vO.m hV) (vO.o hV) rfl 6 (by decide) (hts (.fieldLink RX4 158 "OrderedClausesModel" "at" "I") (List.mem_of_getElem? (i := 2) rfl)) (by decide +kernel) (by decide +kernel) (Nat.le_of_ble_eq_true rfl) dX4_reads_134 (fun G37 H locs hq hP hS => ?_)
            have hV : vM g L G37 h0 r (u.1, u.2.1, (va_up u.2.2 2 ((u.2.2 2) + (1 : Int32)))) := by rw [hq]; exact vO.setK (f := u.1) (gg := u.2.1) (k := u.2.2) hV rfl
            have hfr : frS h0 r 4 G G37 := by rw [hq]; exact vO.frK hfr _
            refine lv_iload_n hx hb dX4_reads_137 rfl (lv_at hl 0 rfl) ?_
            obtain ⟨hE, hE2⟩ := spair hN
            exact k_zretW hx hb hr (by decide) hE ⟨hE2 ▸ hV, hfr⟩ hP hS hlk dX4_reads_138
        · rw [if_pos c32] at hN
          refine lv_aload_n hx hb dX4_reads_28 rfl (lv_at hl 0 rfl) ?_
          obtain ⟨v38, hv38, hN⟩ := oB_spec hN
          refine k_iR hS (va_runV (As := []) (rest := []) ⟨hx, hb, hml, hown, hts⟩ (c_X4_here l g L hL G1 h0 r u hV v38 hv38) (cwV 0 hts gX4_reads_X4_here rfl rfl rfl (by decide +kernel) ⟨Nat.le_of_ble_eq_true rfl, Nat.le_of_ble_eq_true rfl⟩) (k_preV hC hS hP (vO.m hV) (vO.o hV) rfl) rfl rfl hl.1 rfl (lv_room (Nat.le_of_ble_eq_true rfl)) dX4_reads_29 ⟨Nat.zero_le _, Nat.zero_le _⟩) (fun H locs hP hS => ?_)
          refine lv_bipush (v := 45) hx hb dX4_reads_32 (by decide) ?_
          refine lv_icmp_ne (tgt := 41) hx hb dX4_reads_34 (by decide) (fun c40 => ?_) (fun c40 => ?_)
          · rw [if_neg c40] at hN
            refine lv_iconst (v := 0) hx hb dX4_reads_41 (by decide) ?_
            refine lv_istore_n (lv' := [(1, .int (0 : Int32)), (0, .ref h0)]) hx hb dX4_reads_42 rfl hl (by decide) rfl (fun ls hl => ?_)
            refine lv_aload_n hx hb dX4_reads_43 rfl (lv_at hl 1 rfl) ?_
            refine lv_dup hx hb dX4_reads_44 rfl ?_
            refine k_get (C := RX4) (T := TX4) (N := 8) (ci := 4) (v := .int (u.2.2 2)) hx hb hts (fun _ h => List.mem_cons_of_mem _ (List.mem_append_right _ h)) hown hC hP (vO.m hV) (vO.o hV) rfl 6 (by decide) (hts (.fieldLink RX4 158 "OrderedClausesModel" "at" "I") (List.mem_of_getElem? (i := 2) rfl)) rfl dX4_reads_45 ?_
            refine lv_iload_n hx hb dX4_reads_48 rfl (lv_at hl 0 rfl) ?_
            refine lv_iadd hx hb dX4_reads_49 ?_
            refine k_putE (C := RX4) (T := TX4) (N := 8) (ci := 4) hx hb hts (fun _ h => List.mem_cons_of_mem _ (List.mem_append_right _ h)) tyX4 tyX4_ok nmX4 hown hL hC hP hS (vO.m hV) (vO.o hV) rfl 6 (by decide) (hts (.fieldLink RX4 158 "OrderedClausesModel" "at" "I") (List.mem_of_getElem? (i := 2) rfl)) (by decide +kernel) (by decide +kernel) (Nat.le_of_ble_eq_true rfl) dX4_reads_50 (fun G41 H locs hq hP hS => ?_)
            have hV : vM g L G41 h0 r (u.1, u.2.1, (va_up u.2.2 2 ((u.2.2 2) + (0 : Int32)))) := by rw [hq]; exact vO.setK (f := u.1) (gg := u.2.1) (k := u.2.2) hV rfl
            have hfr : frS h0 r 4 G G41 := by rw [hq]; exact vO.frK hfr _
            refine lv_aload_n hx hb dX4_reads_53 rfl (lv_at hl 1 rfl) ?_
            obtain ⟨v42, hv42, hN⟩ := oB_spec hN
            refine k_iR hS (va_runV (As := []) (rest := []) ⟨hx, hb, hml, hown, hts⟩ (c_X4_here l g L hL G41 h0 r (u.1, u.2.1, (va_up u.2.2 2 ((u.2.2 2) + (0 : Int32)))) hV v42 hv42) (cwV 0 hts gX4_reads_X4_here rfl rfl rfl (by decide +kernel) ⟨Nat.le_of_ble_eq_true rfl, Nat.le_of_ble_eq_true rfl⟩) (k_preV hC hS hP (vO.m hV) (vO.o hV) rfl) rfl rfl hl.1 rfl (lv_room (Nat.le_of_ble_eq_true rfl)) dX4_reads_54 ⟨Nat.zero_le _, Nat.zero_le _⟩) (fun H locs hP hS => ?_)
            refine lv_bipush (v := 97) hx hb dX4_reads_57 (by decide) ?_
            refine lv_bipush (v := 102) hx hb dX4_reads_59 (by decide) ?_
            obtain ⟨v44, hv44, hN⟩ := oB_spec hN
            refine k_iR hS (va_runS (As := [.int v42, .int (97 : Int32), .int (102 : Int32)]) (rest := []) ⟨hx, hb, hml, hown, hts⟩ (c_X4_in l g L hL G41 v42 (97 : Int32) (102 : Int32) v44 hv44) (va_cwS 3 hts gX4_reads_X4_in rfl rfl rfl (by decide +kernel) ⟨Nat.le_of_ble_eq_true rfl, Nat.le_of_ble_eq_true rfl⟩) (k_pre hC hS hP) rfl rfl hl.1 rfl (lv_room (Nat.le_of_ble_eq_true rfl)) dX4_reads_61 ⟨Nat.zero_le _, Nat.zero_le _⟩) (fun H locs hP hS => ?_)
            refine lv_if_ne (tgt := 69) hx hb dX4_reads_64 (by decide) (fun c46 => ?_) (fun c46 => ?_)
            · rw [if_neg c46] at hN
              refine lv_aload_n hx hb dX4_reads_69 rfl (lv_at hl 1 rfl) ?_
              refine lv_dup hx hb dX4_reads_70 rfl ?_
              refine k_get (C := RX4) (T := TX4) (N := 8) (ci := 4) (v := .int ((va_up u.2.2 2 ((u.2.2 2) + (0 : Int32))) 3)) hx hb hts (fun _ h => List.mem_cons_of_mem _ (List.mem_append_right _ h)) hown hC hP (vO.m hV) (vO.o hV) rfl 7 (by decide) (hts (.fieldLink RX4 161 "OrderedClausesModel" "read" "I") (List.mem_of_getElem? (i := 1) rfl)) rfl dX4_reads_71 ?_
              refine lv_iconst (v := 1) hx hb dX4_reads_74 (by decide) ?_
              refine lv_iconst (v := 2) hx hb dX4_reads_75 (by decide) ?_
              refine lv_aload_n hx hb dX4_reads_76 rfl (lv_at hl 1 rfl) ?_
              obtain ⟨v47, hv47, hN⟩ := oB_spec hN
              refine k_iR hS (va_runV (As := []) (rest := [.int (2 : Int32), .int (1 : Int32), .int ((va_up u.2.2 2 ((u.2.2 2) + (0 : Int32))) 3), .ref h0]) ⟨hx, hb, hml, hown, hts⟩ (c_X4_here l g L hL G41 h0 r (u.1, u.2.1, (va_up u.2.2 2 ((u.2.2 2) + (0 : Int32)))) hV v47 hv47) (cwV 0 hts gX4_reads_X4_here rfl rfl rfl (by decide +kernel) ⟨Nat.le_of_ble_eq_true rfl, Nat.le_of_ble_eq_true rfl⟩) (k_preV hC hS hP (vO.m hV) (vO.o hV) rfl) rfl rfl hl.1 rfl (lv_room (Nat.le_of_ble_eq_true rfl)) dX4_reads_77 ⟨Nat.zero_le _, Nat.zero_le _⟩) (fun H locs hP hS => ?_)
              refine lv_bipush (v := 97) hx hb dX4_reads_80 (by decide) ?_
              refine lv_isub hx hb dX4_reads_82 ?_
              refine lv_imul hx hb dX4_reads_83 ?_
              refine lv_iload_n hx hb dX4_reads_84 rfl (lv_at hl 0 rfl) ?_
              refine lv_iadd hx hb dX4_reads_85 ?_
              refine lv_ishl hx hb dX4_reads_86 ?_
              refine lv_ior hx hb dX4_reads_87 ?_
              refine k_putE (C := RX4) (T := TX4) (N := 8) (ci := 4) hx hb hts (fun _ h => List.mem_cons_of_mem _ (List.mem_append_right _ h)) tyX4 tyX4_ok nmX4 hown hL hC hP hS (vO.m hV) (vO.o hV) rfl 7 (by decide) (hts (.fieldLink RX4 161 "OrderedClausesModel" "read" "I") (List.mem_of_getElem? (i := 1) rfl)) (by decide +kernel) (by decide +kernel) (Nat.le_of_ble_eq_true rfl) dX4_reads_88 (fun G49 H locs hq hP hS => ?_)
              have hV : vM g L G49 h0 r (u.1, u.2.1, (va_up (va_up u.2.2 2 ((u.2.2 2) + (0 : Int32))) 3 (((va_up u.2.2 2 ((u.2.2 2) + (0 : Int32))) 3) ||| ((1 : Int32) <<< ((((2 : Int32) * (v47 - (97 : Int32))) + (0 : Int32)) &&& 31))))) := by rw [hq]; exact vO.setK (f := u.1) (gg := u.2.1) (k := (va_up u.2.2 2 ((u.2.2 2) + (0 : Int32)))) hV rfl
              have hfr : frS h0 r 4 G G49 := by rw [hq]; exact vO.frK hfr _
              refine lv_aload_n hx hb dX4_reads_91 rfl (lv_at hl 1 rfl) ?_
              refine lv_dup hx hb dX4_reads_92 rfl ?_
              refine k_get (C := RX4) (T := TX4) (N := 8) (ci := 4) (v := .int ((va_up (va_up u.2.2 2 ((u.2.2 2) + (0 : Int32))) 3 (((va_up u.2.2 2 ((u.2.2 2) + (0 : Int32))) 3) ||| ((1 : Int32) <<< ((((2 : Int32) * (v47 - (97 : Int32))) + (0 : Int32)) &&& 31)))) 2)) hx hb hts (fun _ h => List.mem_cons_of_mem _ (List.mem_append_right _ h)) hown hC hP (vO.m hV) (vO.o hV) rfl 6 (by decide) (hts (.fieldLink RX4 158 "OrderedClausesModel" "at" "I") (List.mem_of_getElem? (i := 2) rfl)) rfl dX4_reads_93 ?_
              refine lv_iconst (v := 1) hx hb dX4_reads_96 (by decide) ?_
              refine lv_iadd hx hb dX4_reads_97 ?_
              refine k_putE (C := RX4) (T := TX4) (N := 8) (ci := 4) hx hb hts (fun _ h => List.mem_cons_of_mem _ (List.mem_append_right _ h)) tyX4 tyX4_ok nmX4 hown hL hC hP hS (vO.m hV) (vO.o hV) rfl 6 (by decide) (hts (.fieldLink RX4 158 "OrderedClausesModel" "at" "I") (List.mem_of_getElem? (i := 2) rfl)) (by decide +kernel) (by decide +kernel) (Nat.le_of_ble_eq_true rfl) dX4_reads_98 (fun G50 H locs hq hP hS => ?_)
              have hV : vM g L G50 h0 r (u.1, u.2.1, (va_up (va_up (va_up u.2.2 2 ((u.2.2 2) + (0 : Int32))) 3 (((va_up u.2.2 2 ((u.2.2 2) + (0 : Int32))) 3) ||| ((1 : Int32) <<< ((((2 : Int32) * (v47 - (97 : Int32))) + (0 : Int32)) &&& 31)))) 2 (((va_up (va_up u.2.2 2 ((u.2.2 2) + (0 : Int32))) 3 (((va_up u.2.2 2 ((u.2.2 2) + (0 : Int32))) 3) ||| ((1 : Int32) <<< ((((2 : Int32) * (v47 - (97 : Int32))) + (0 : Int32)) &&& 31)))) 2) + (1 : Int32)))) := by rw [hq]; exact vO.setK (f := u.1) (gg := u.2.1) (k := (va_up (va_up u.2.2 2 ((u.2.2 2) + (0 : Int32))) 3 (((va_up u.2.2 2 ((u.2.2 2) + (0 : Int32))) 3) ||| ((1 : Int32) <<< ((((2 : Int32) * (v47 - (97 : Int32))) + (0 : Int32)) &&& 31))))) hV rfl
              have hfr : frS h0 r 4 G G50 := by rw [hq]; exact vO.frK hfr _
              refine lv_goto (tgt := 5) hx hb dX4_reads_101 (by decide) ?_
              exact ih (u.1, u.2.1, (va_up (va_up (va_up u.2.2 2 ((u.2.2 2) + (0 : Int32))) 3 (((va_up u.2.2 2 ((u.2.2 2) + (0 : Int32))) 3) ||| ((1 : Int32) <<< ((((2 : Int32) * (v47 - (97 : Int32))) + (0 : Int32)) &&& 31)))) 2 (((va_up (va_up u.2.2 2 ((u.2.2 2) + (0 : Int32))) 3 (((va_up u.2.2 2 ((u.2.2 2) + (0 : Int32))) 3) ||| ((1 : Int32) <<< ((((2 : Int32) * (v47 - (97 : Int32))) + (0 : Int32)) &&& 31)))) 2) + (1 : Int32))))  _ _ _ _ hV hfr hP hS (lv_sub hl [1] rfl) hN
            · rw [if_pos c46] at hN
              refine lv_iconst (v := 0) hx hb dX4_reads_67 (by decide) ?_
              obtain ⟨hE, hE2⟩ := spair hN
              exact k_zretW hx hb hr (by decide) hE ⟨hE2 ▸ hV, hfr⟩ hP hS hlk dX4_reads_68
          · rw [if_pos c40] at hN
            refine lv_iconst (v := 1) hx hb dX4_reads_37 (by decide) ?_
            refine lv_goto (tgt := 42) hx hb dX4_reads_38 (by decide) ?_
            refine lv_istore_n (lv' := [(1, .int (1 : Int32)), (0, .ref h0)]) hx hb dX4_reads_42 rfl hl (by decide) rfl (fun ls hl => ?_)
            refine lv_aload_n hx hb dX4_reads_43 rfl (lv_at hl 1 rfl) ?_
            refine lv_dup hx hb dX4_reads_44 rfl ?_
            refine k_get (C := RX4) (T := TX4) (N := 8) (ci := 4) (v := .int (u.2.2 2)) hx hb hts (fun _ h => List.mem_cons_of_mem _ (List.mem_append_right _ h)) hown hC hP (vO.m hV) (vO.o hV) rfl 6 (by decide) (hts (.fieldLink RX4 158 "OrderedClausesModel" "at" "I") (List.mem_of_getElem? (i := 2) rfl)) rfl dX4_reads_45 ?_
            refine lv_iload_n hx hb dX4_reads_48 rfl (lv_at hl 0 rfl) ?_
            refine lv_iadd hx hb dX4_reads_49 ?_
            refine k_putE (C := RX4) (T := TX4) (N := 8) (ci := 4) hx hb hts (fun _ h => List.mem_cons_of_mem _ (List.mem_append_right _ h)) tyX4 tyX4_ok nmX4 hown hL hC hP hS (vO.m hV) (vO.o hV) rfl 6 (by decide) (hts (.fieldLink RX4 158 "OrderedClausesModel" "at" "I") (List.mem_of_getElem? (i := 2) rfl)) (by decide +kernel) (by decide +kernel) (Nat.le_of_ble_eq_true rfl) dX4_reads_50 (fun G51 H locs hq hP hS => ?_)
            have hV : vM g L G51 h0 r (u.1, u.2.1, (va_up u.2.2 2 ((u.2.2 2) + (1 : Int32)))) := by rw [hq]; exact vO.setK (f := u.1) (gg := u.2.1) (k := u.2.2) hV rfl
            have hfr : frS h0 r 4 G G51 := by rw [hq]; exact vO.frK hfr _
            refine lv_aload_n hx hb dX4_reads_53 rfl (lv_at hl 1 rfl) ?_
            obtain ⟨v52, hv52, hN⟩ := oB_spec hN
            refine k_iR hS (va_runV (As := []) (rest := []) ⟨hx, hb, hml, hown, hts⟩ (c_X4_here l g L hL G51 h0 r (u.1, u.2.1, (va_up u.2.2 2 ((u.2.2 2) + (1 : Int32)))) hV v52 hv52) (cwV 0 hts gX4_reads_X4_here rfl rfl rfl (by decide +kernel) ⟨Nat.le_of_ble_eq_true rfl, Nat.le_of_ble_eq_true rfl⟩) (k_preV hC hS hP (vO.m hV) (vO.o hV) rfl) rfl rfl hl.1 rfl (lv_room (Nat.le_of_ble_eq_true rfl)) dX4_reads_54 ⟨Nat.zero_le _, Nat.zero_le _⟩) (fun H locs hP hS => ?_)
            refine lv_bipush (v := 97) hx hb dX4_reads_57 (by decide) ?_
            refine lv_bipush (v := 102) hx hb dX4_reads_59 (by decide) ?_
            obtain ⟨v54, hv54, hN⟩ := oB_spec hN
            refine k_iR hS (va_runS (As := [.int v52, .int (97 : Int32), .int (102 : Int32)]) (rest := []) ⟨hx, hb, hml, hown, hts⟩ (c_X4_in l g L hL G51 v52 (97 : Int32) (102 : Int32) v54 hv54) (va_cwS 3 hts gX4_reads_X4_in rfl rfl rfl (by decide +kernel) ⟨Nat.le_of_ble_eq_true rfl, Nat.le_of_ble_eq_true rfl⟩) (k_pre hC hS hP) rfl rfl hl.1 rfl (lv_room (Nat.le_of_ble_eq_true rfl)) dX4_reads_61 ⟨Nat.zero_le _, Nat.zero_le _⟩) (fun H locs hP hS => ?_)
            refine lv_if_ne (tgt := 69) hx hb dX4_reads_64 (by decide) (fun c56 => ?_) (fun c56 => ?_)
            · rw [if_neg c56] at hN
              refine lv_aload_n hx hb dX4_reads_69 rfl (lv_at hl 1 rfl) ?_
              refine lv_dup hx hb dX4_reads_70 rfl ?_
              refine k_get (C := RX4) (T := TX4) (N := 8) (ci := 4) (v := .int ((va_up u.2.2 2 ((u.2.2 2) + (1 : Int32))) 3)) hx hb hts (fun _ h => List.mem_cons_of_mem _ (List.mem_append_right _ h)) hown hC hP (vO.m hV) (vO.o hV) rfl 7 (by decide) (hts (.fieldLink RX4 161 "OrderedClausesModel" "read" "I") (List.mem_of_getElem? (i := 1) rfl)) rfl dX4_reads_71 ?_
              refine lv_iconst (v := 1) hx hb dX4_reads_74 (by decide) ?_
              refine lv_iconst (v := 2) hx hb dX4_reads_75 (by decide) ?_
              refine lv_aload_n hx hb dX4_reads_76 rfl (lv_at hl 1 rfl) ?_
              obtain ⟨v57, hv57, hN⟩ := oB_spec hN
              refine k_iR hS (va_runV (As := []) (rest := [.int (2 : Int32), .int (1 : Int32), .int ((va_up u.2.2 2 ((u.2.2 2) + (1 : Int32))) 3), .ref h0]) ⟨hx, hb, hml, hown, hts⟩ (c_X4_here l g L hL G51 h0 r (u.1, u.2.1, (va_up u.2.2 2 ((u.2.2 2) + (1 : Int32)))) hV v57 hv57) (cwV 0 hts gX4_reads_X4_here rfl rfl rfl (by decide +kernel) ⟨Nat.le_of_ble_eq_true rfl, Nat.le_of_ble_eq_true rfl⟩) (k_preV hC hS hP (vO.m hV) (vO.o hV) rfl) rfl rfl hl.1 rfl (lv_room (Nat.le_of_ble_eq_true rfl)) dX4_reads_77 ⟨Nat.zero_le _, Nat.zero_le _⟩) (fun H locs hP hS => ?_)
              refine lv_bipush (v := 97) hx hb dX4_reads_80 (by decide) ?_
              refine lv_isub hx hb dX4_reads_82 ?_
              refine lv_imul hx hb dX4_reads_83 ?_
              refine lv_iload_n hx hb dX4_reads_84 rfl (lv_at hl 0 rfl) ?_
              refine lv_iadd hx hb dX4_reads_85 ?_
              refine lv_ishl hx hb dX4_reads_86 ?_
              refine lv_ior hx hb dX4_reads_87 ?_
              refine k_putE (C := RX4) (T := TX4) (N := 8) (ci := 4) hx hb hts (fun _ h => List.mem_cons_of_mem _ (List.mem_append_right _ h)) tyX4 tyX4_ok nmX4 hown hL hC hP hS (vO.m hV) (vO.o hV) rfl 7 (by decide) (hts (.fieldLink RX4 161 "OrderedClausesModel" "read" "I") (List.mem_of_getElem? (i := 1) rfl)) (by decide +kernel) (by decide +kernel) (Nat.le_of_ble_eq_true rfl) dX4_reads_88 (fun G59 H locs hq hP hS => ?_)
              have hV : vM g L G59 h0 r (u.1, u.2.1, (va_up (va_up u.2.2 2 ((u.2.2 2) + (1 : Int32))) 3 (((va_up u.2.2 2 ((u.2.2 2) + (1 : Int32))) 3) ||| ((1 : Int32) <<< ((((2 : Int32) * (v57 - (97 : Int32))) + (1 : Int32)) &&& 31))))) := by rw [hq]; exact vO.setK (f := u.1) (gg := u.2.1) (k := (va_up u.2.2 2 ((u.2.2 2) + (1 : Int32)))) hV rfl
              have hfr : frS h0 r 4 G G59 := by rw [hq]; exact vO.frK hfr _
              refine lv_aload_n hx hb dX4_reads_91 rfl (lv_at hl 1 rfl) ?_
              refine lv_dup hx hb dX4_reads_92 rfl ?_
              refine k_get (C := RX4) (T := TX4) (N := 8) (ci := 4) (v := .int ((va_up (va_up u.2.2 2 ((u.2.2 2) + (1 : Int32))) 3 (((va_up u.2.2 2 ((u.2.2 2) + (1 : Int32))) 3) ||| ((1 : Int32) <<< ((((2 : Int32) * (v57 - (97 : Int32))) + (1 : Int32)) &&& 31)))) 2)) hx hb hts (fun _ h => List.mem_cons_of_mem _ (List.mem_append_right _ h)) hown hC hP (vO.m hV) (vO.o hV) rfl 6 (by decide) (hts (.fieldLink RX4 158 "OrderedClausesModel" "at" "I") (List.mem_of_getElem? (i := 2) rfl)) rfl dX4_reads_93 ?_
              refine lv_iconst (v := 1) hx hb dX4_reads_96 (by decide) ?_
              refine lv_iadd hx hb dX4_reads_97 ?_
              refine k_putE (C := RX4) (T := TX4) (N := 8) (ci := 4) hx hb hts (fun _ h => List.mem_cons_of_mem _ (List.mem_append_right _ h)) tyX4 tyX4_ok nmX4 hown hL hC hP hS (vO.m hV) (vO.o hV) rfl 6 (by decide) (hts (.fieldLink RX4 158 "OrderedClausesModel" "at" "I") (List.mem_of_getElem? (i := 2) rfl)) (by decide +kernel) (by decide +kernel) (Nat.le_of_ble_eq_true rfl) dX4_reads_98 (fun G60 H locs hq hP hS => ?_)
              have hV : vM g L G60 h0 r (u.1, u.2.1, (va_up (va_up (va_up u.2.2 2 ((u.2.2 2) + (1 : Int32))) 3 (((va_up u.2.2 2 ((u.2.2 2) + (1 : Int32))) 3) ||| ((1 : Int32) <<< ((((2 : Int32) * (v57 - (97 : Int32))) + (1 : Int32)) &&& 31)))) 2 (((va_up (va_up u.2.2 2 ((u.2.2 2) + (1 : Int32))) 3 (((va_up u.2.2 2 ((u.2.2 2) + (1 : Int32))) 3) ||| ((1 : Int32) <<< ((((2 : Int32) * (v57 - (97 : Int32))) + (1 : Int32)) &&& 31)))) 2) + (1 : Int32)))) := by rw [hq]; exact vO.setK (f := u.1) (gg := u.2.1) (k := (va_up (va_up u.2.2 2 ((u.2.2 2) + (1 : Int32))) 3 (((va_up u.2.2 2 ((u.2.2 2) + (1 : Int32))) 3) ||| ((1 : Int32) <<< ((((2 : Int32) * (v57 - (97 : Int32))) + (1 : Int32)) &&& 31))))) hV rfl
              have hfr : frS h0 r 4 G G60 := by rw [hq]; exact vO.frK hfr _
              refine lv_goto (tgt := 5) hx hb dX4_reads_101 (by decide) ?_
              exact ih (u.1, u.2.1, (va_up (va_up (va_up u.2.2 2 ((u.2.2 2) + (1 : Int32))) 3 (((va_up u.2.2 2 ((u.2.2 2) + (1 : Int32))) 3) ||| ((1 : Int32) <<< ((((2 : Int32) * (v57 - (97 : Int32))) + (1 : Int32)) &&& 31)))) 2 (((va_up (va_up u.2.2 2 ((u.2.2 2) + (1 : Int32))) 3 (((va_up u.2.2 2 ((u.2.2 2) + (1 : Int32))) 3) ||| ((1 : Int32) <<< ((((2 : Int32) * (v57 - (97 : Int32))) + (1 : Int32)) &&& 31)))) 2) + (1 : Int32))))  _ _ _ _ hV hfr hP hS (lv_sub hl [1] rfl) hN
            · rw [if_pos c56] at hN
              refine lv_iconst (v := 0) hx hb dX4_reads_67 (by decide) ?_
              obtain ⟨hE, hE2⟩ := spair hN
              exact k_zretW hx hb hr (by decide) hE ⟨hE2 ▸ hV, hfr⟩ hP hS hlk dX4_reads_68
  have hl := lv_entry ([.ref h0]) (n := 2) (Nat.le_of_ble_eq_true rfl)
  rw [lg_entry_eq]
  generalize (lg_sl ([.ref h0]) ++ List.replicate (2 - (lg_sl ([.ref h0])).length) Slot.unset).toArray = ls at hl ⊢
  have hl : lv_has ls 2 [(0, .ref h0)] := hl
  have hN := hF
  unfold F_X4_reads at hN
  refine lv_aload_n hx hb dX4_reads_0 rfl (lv_at hl 0 rfl) ?_
  refine lv_iconst (v := 0) hx hb dX4_reads_1 (by decide) ?_
  refine k_putE (C := RX4) (T := TX4) (N := 8) (ci := 4) hx hb hts (fun _ h => List.mem_cons_of_mem _ (List.mem_append_right _ h)) tyX4 tyX4_ok nmX4 hown hL hC hP hS (vO.m hV) (vO.o hV) rfl 7 (by decide) (hts (.fieldLink RX4 161 "OrderedClausesModel" "read" "I") (List.mem_of_getElem? (i := 1) rfl)) (by decide +kernel) (by decide +kernel) (Nat.le_of_ble_eq_true rfl) dX4_reads_2 (fun G1 H locs hq hP hS => ?_)
  have hV : vM g L G1 h0 r (u.1, u.2.1, (va_up u.2.2 3 (0 : Int32))) := by rw [hq]; exact vO.setK (f := u.1) (gg := u.2.1) (k := u.2.2) hV rfl
  have hfr : frS h0 r 4 G G1 := by rw [hq]; exact vO.frK hfr _
  exact lp5 fuel (u.1, u.2.1, (va_up u.2.2 3 (0 : Int32)))  _ _ _ _ hV hfr hP hS (lv_sub hl [0] rfl) hN
set_option maxHeartbeats 4000000 in
set_option maxRecDepth 100000 in
theorem c_X4_brokenAt (l : Launch) (g : Gm) (L : List Nat) {A : Nat → Prop} (hL : kL L A) (G : Nat → va_E) (h0 : Nat) (r : Nat → Nat) (u : St) (hV : vM g L G h0 r u) (v : Int32) (w : St) (hF : F_X4_brokenAt u = some (v, w)) : Met l yX4_brokenAt wsX4_brokenAt ({ frames := 2, cells := 0, slots := 0, locals := 43 } : Room) (va_Pc [.ref h0] (kB g L A G)) (va_Qi (fun x (G9 : Nat → va_E) => x = v ∧ (vM g L G9 h0 r w ∧ frS h0 r 4 G G9)) (kE g L) A) 0 0 A := by
  refine Met.ofW (cc := cX4_brokenAt) (maxL := 2) (ret := (some .int)) (by decide) rfl ?_
  intro p e s m args below meth c s₁ B hml hv
  obtain ⟨rfl, hP, hC⟩ := hv
  have hx := B.exec
  have hb := B.bytes
  have hr := B.returns
  have hts := atoms_spec (ws := wsX4_brokenAt) B.pre
  have hown : s.vm.findClass RX4 = some m.cls := findClass_of_methodNamed B.named
  have hlk := B.notSynchronized
  have hS : va_S A s.heap s.heap [] := va_S.rf
  have hV0 := hV
  have hfr : frS h0 r 4 G G := frS.rf
  have lp5 : ∀ (n : Nat) (u : St) (G1 : Nat → va_E) (H : Heap) (locs : List Loc) (ls : Array Slot), vM g L G1 h0 r u → frS h0 r 4 G G1 → va_P g.1 vwCl (va_pl L G1) H → va_S A s.heap H locs → lv_has ls 2 [(0, .ref h0)] → FL_X4_brokenAt_5  n u = some (v, w) → W p l e (headSpec wsX4_brokenAt ({ frames := 2, cells := 0, slots := 0, locals := 43 } : Room)).room s m ([.ref h0] : List Value).toArray below meth c H locs 0 0 (MQ below (va_Qi (fun x (G9 : Nat → va_E) => x = v ∧ (vM g L G9 h0 r w ∧ frS h0 r 4 G G9)) (kE g L) A) ([.ref h0] : List Value).toArray s 0 0 A) (F0 m 5 ls []) := by
    intro n
    induction n with
    | zero =>
      intro u G1 H locs ls hV hfr hP hS hl hN
      exact absurd hN (by simp [FL_X4_brokenAt_5])
    | succ n ih =>
      intro u G1 H locs ls hV hfr hP hS hl hN
      rw [FL_X4_brokenAt_5] at hN
      refine lv_aload_n hx hb dX4_brokenAt_5 rfl (lv_at hl 0 rfl) ?_
      refine k_get (C := RX4) (T := TX4) (N := 8) (ci := 4) (v := .int (u.2.2 2)) hx hb hts (fun _ h => List.mem_cons_of_mem _ (List.mem_append_right _ h)) hown hC hP (vO.m hV) (vO.o hV) rfl 6 (by decide) (hts (.fieldLink RX4 158 "OrderedClausesModel" "at" "I") (List.mem_of_getElem? (i := 1) rfl)) rfl dX4_brokenAt_6 ?_
      refine lv_aload_n hx hb dX4_brokenAt_9 rfl (lv_at hl 0 rfl) ?_
      refine k_get (C := RX4) (T := TX4) (N := 8) (ci := 4) (v := .int (u.2.2 1)) hx hb hts (fun _ h => List.mem_cons_of_mem _ (List.mem_append_right _ h)) hown hC hP (vO.m hV) (vO.o hV) rfl 5 (by decide) (hts (.fieldLink RX4 155 "OrderedClausesModel" "length" "I") (List.mem_of_getElem? (i := 2) rfl)) rfl dX4_brokenAt_10 ?_
      refine lv_icmp_ge (tgt := 33) hx hb dX4_brokenAt_13 (by decide) (fun c2 => ?_) (fun c2 => ?_)
      · rw [if_pos c2] at hN
        refine lv_iconst (v := (-1)) hx hb dX4_brokenAt_33 (by decide) ?_
        obtain ⟨hE, hE2⟩ := spair hN
        exact k_iretW hx hb hr hE ⟨hE2 ▸ hV, hfr⟩ hP hS hlk dX4_brokenAt_34
      · rw [if_neg c2] at hN
        refine lv_aload_n hx hb dX4_brokenAt_16 rfl (lv_at hl 0 rfl) ?_
        refine k_get (C := RX4) (T := TX4) (N := 8) (ci := 4) (v := .int (u.2.2 2)) hx hb hts (fun _ h => List.mem_cons_of_mem _ (List.mem_append_right _ h)) hown hC hP (vO.m hV) (vO.o hV) rfl 6 (by decide) (hts (.fieldLink RX4 158 "OrderedClausesModel" "at" "I") (List.mem_of_getElem? (i := 1) rfl)) rfl dX4_brokenAt_17 ?_
        refine lv_istore_n (lv' := [(1, .int (u.2.2 2)), (0, .ref h0)]) hx hb dX4_brokenAt_20 rfl hl (by decide) rfl (fun ls hl => ?_)
        refine lv_aload_n hx hb dX4_brokenAt_21 rfl (lv_at hl 1 rfl) ?_
        obtain ⟨v3, w4, hv3, hN⟩ := oB2_spec hN
        refine k_iW hS (va_runV (As := []) (rest := []) ⟨hx, hb, hml, hown, hts⟩ (c_X4_reads l g L hL G1 h0 r u hV v3 w4 hv3) (cwV 0 hts gX4_brokenAt_X4_reads rfl rfl rfl (by decide +kernel) ⟨Nat.le_of_ble_eq_true rfl, Nat.le_of_ble_eq_true rfl⟩) (k_preV hC hS hP (vO.m hV) (vO.o hV) rfl) rfl rfl hl.1 rfl (lv_room (Nat.le_of_ble_eq_true rfl)) dX4_brokenAt_22 ⟨Nat.zero_le _, Nat.zero_le _⟩) (fun G5 H locs hq hP hS => ?_)
        obtain ⟨hV, hfq⟩ := hq
        have hfr := frS.tr hfr hfq
        refine lv_if_ne (tgt := 30) hx hb dX4_brokenAt_25 (by decide) (fun c6 => ?_) (fun c6 => ?_)
        · rw [if_neg c6] at hN
          refine lv_goto (tgt := 5) hx hb dX4_brokenAt_30 (by decide) ?_
          exact ih (w4.1, w4.2.1, w4.2.2)  _ _ _ _ hV hfr hP hS (lv_sub hl [1] rfl) hN
        · rw [if_pos c6] at hN
          refine lv_iload_n hx hb dX4_brokenAt_28 rfl (lv_at hl 0 rfl) ?_
          obtain ⟨hE, hE2⟩ := spair hN
          exact k_iretW hx hb hr hE ⟨hE2 ▸ hV, hfr⟩ hP hS hlk dX4_brokenAt_29
  have hl := lv_entry ([.ref h0]) (n := 2) (Nat.le_of_ble_eq_true rfl)
  rw [lg_entry_eq]
  generalize (lg_sl ([.ref h0]) ++ List.replicate (2 - (lg_sl ([.ref h0])).length) Slot.unset).toArray = ls at hl ⊢
  have hl : lv_has ls 2 [(0, .ref h0)] := hl
  have hN := hF
  unfold F_X4_brokenAt at hN
  refine lv_aload_n hx hb dX4_brokenAt_0 rfl (lv_at hl 0 rfl) ?_
  refine lv_iconst (v := 0) hx hb dX4_brokenAt_1 (by decide) ?_
  refine k_putE (C := RX4) (T := TX4) (N := 8) (ci := 4) hx hb hts (fun _ h => List.mem_cons_of_mem _ (List.mem_append_right _ h)) tyX4 tyX4_ok nmX4 hown hL hC hP hS (vO.m hV) (vO.o hV) rfl 6 (by decide) (hts (.fieldLink RX4 158 "OrderedClausesModel" "at" "I") (List.mem_of_getElem? (i := 1) rfl)) (by decide +kernel) (by decide +kernel) (Nat.le_of_ble_eq_true rfl) dX4_brokenAt_2 (fun G1 H locs hq hP hS => ?_)
  have hV : vM g L G1 h0 r (u.1, u.2.1, (va_up u.2.2 2 (0 : Int32))) := by rw [hq]; exact vO.setK (f := u.1) (gg := u.2.1) (k := u.2.2) hV rfl
  have hfr : frS h0 r 4 G G1 := by rw [hq]; exact vO.frK hfr _
  exact lp5 fuel (u.1, u.2.1, (va_up u.2.2 2 (0 : Int32)))  _ _ _ _ hV hfr hP hS (lv_sub hl [0] rfl) hN
set_option maxHeartbeats 4000000 in
set_option maxRecDepth 100000 in
theorem c_X4_fault (l : Launch) (g : Gm) (L : List Nat) {A : Nat → Prop} (hL : kL L A) (G : Nat → va_E) (h0 : Nat) (r : Nat → Nat) (u : St) (hV : vM g L G h0 r u) (p0 : Int32) (v : Int32) (w : St) (hF : F_X4_fault u p0 = some (v, w)) : Met l yX4_fault wsX4_fault ({ frames := 3, cells := 0, slots := 0, locals := 64 } : Room) (va_Pc [.ref h0, .int p0] (kB g L A G)) (va_Qi (fun x (G9 : Nat → va_E) => x = v ∧ (vM g L G9 h0 r w ∧ frS h0 r 4 G G9)) (kE g L) A) 0 0 A := by
  refine Met.ofW (cc := cX4_fault) (maxL := 3) (ret := (some .int)) (by decide) rfl ?_
  intro p e s m args below meth c s₁ B hml hv
  obtain ⟨rfl, hP, hC⟩ := hv
  have hx := B.exec
  have hb := B.bytes
  have hr := B.returns
  have hts := atoms_spec (ws := wsX4_fault) B.pre
  have hown : s.vm.findClass RX4 = some m.cls := findClass_of_methodNamed B.named
  have hlk := B.notSynchronized
  have hS : va_S A s.heap s.heap [] := va_S.rf
  have hV0 := hV
  have hfr : frS h0 r 4 G G := frS.rf
  have hl := lv_entry ([.ref h0, .int p0]) (n := 3) (Nat.le_of_ble_eq_true rfl)
  rw [lg_entry_eq]
  generalize (lg_sl ([.ref h0, .int p0]) ++ List.replicate (3 - (lg_sl ([.ref h0, .int p0])).length) Slot.unset).toArray = ls at hl ⊢
  have hl : lv_has ls 3 [(0, .ref h0), (1, .int p0)] := hl
  have hN := hF
  unfold F_X4_fault at hN
  refine lv_iload_n hx hb dX4_fault_0 rfl (lv_at hl 1 rfl) ?_
  refine lv_iconst (v := 0) hx hb dX4_fault_1 (by decide) ?_
  refine lv_iconst (v := 1) hx hb dX4_fault_2 (by decide) ?_
  obtain ⟨v1, hv1, hN⟩ := oB_spec hN
  refine k_iR hS (va_runS (As := [.int p0, .int (0 : Int32), .int (1 : Int32)]) (rest := []) ⟨hx, hb, hml, hown, hts⟩ (c_X4_in l g L hL G p0 (0 : Int32) (1 : Int32) v1 hv1) (va_cwS 3 hts gX4_fault_X4_in rfl rfl rfl (by decide +kernel) ⟨Nat.le_of_ble_eq_true rfl, Nat.le_of_ble_eq_true rfl⟩) (k_pre hC hS hP) rfl rfl hl.1 rfl (lv_room (Nat.le_of_ble_eq_true rfl)) dX4_fault_3 ⟨Nat.zero_le _, Nat.zero_le _⟩) (fun H locs hP hS => ?_)
  refine lv_if_ne (tgt := 12) hx hb dX4_fault_6 (by decide) (fun c3 => ?_) (fun c3 => ?_)
  · rw [if_neg c3] at hN
    refine lv_aload_n hx hb dX4_fault_12 rfl (lv_at hl 0 rfl) ?_
    obtain ⟨v4, w5, hv4, hN⟩ := oB2_spec hN
    refine k_iW hS (va_runV (As := []) (rest := []) ⟨hx, hb, hml, hown, hts⟩ (c_X4_brokenAt l g L hL G h0 r u hV v4 w5 hv4) (cwV 0 hts gX4_fault_X4_brokenAt rfl rfl rfl (by decide +kernel) ⟨Nat.le_of_ble_eq_true rfl, Nat.le_of_ble_eq_true rfl⟩) (k_preV hC hS hP (vO.m hV) (vO.o hV) rfl) rfl rfl hl.1 rfl (lv_room (Nat.le_of_ble_eq_true rfl)) dX4_fault_13 ⟨Nat.zero_le _, Nat.zero_le _⟩) (fun G6 H locs hq hP hS => ?_)
    obtain ⟨hV, hfq⟩ := hq
    have hfr := frS.tr hfr hfq
    refine lv_istore_n (lv' := [(2, .int v4), (0, .ref h0), (1, .int p0)]) hx hb dX4_fault_16 rfl hl (by decide) rfl (fun ls hl => ?_)
    refine lv_iload_n hx hb dX4_fault_17 rfl (lv_at hl 0 rfl) ?_
    refine lv_if_ge (tgt := 26) hx hb dX4_fault_18 (by decide) (fun c7 => ?_) (fun c7 => ?_)
    · rw [if_pos c7] at hN
      refine lv_iload_n hx hb dX4_fault_26 rfl (lv_at hl 2 rfl) ?_
      refine lv_if_ne (tgt := 34) hx hb dX4_fault_27 (by decide) (fun c8 => ?_) (fun c8 => ?_)
      · rw [if_neg c8] at hN
        refine lv_aload_n hx hb dX4_fault_34 rfl (lv_at hl 1 rfl) ?_
        refine k_get (C := RX4) (T := TX4) (N := 8) (ci := 4) (v := .int (w5.2.2 2)) hx hb hts (fun _ h => List.mem_cons_of_mem _ (List.mem_append_right _ h)) hown hC hP (vO.m hV) (vO.o hV) rfl 6 (by decide) (hts (.fieldLink RX4 158 "OrderedClausesModel" "at" "I") (List.mem_of_getElem? (i := 3) rfl)) rfl dX4_fault_35 ?_
        refine lv_iload_n hx hb dX4_fault_38 rfl (lv_at hl 0 rfl) ?_
        refine lv_isub hx hb dX4_fault_39 ?_
        obtain ⟨hE, hE2⟩ := spair hN
        exact k_iretW hx hb hr hE ⟨hE2 ▸ hV, hfr⟩ hP hS hlk dX4_fault_40
      · rw [if_pos c8] at hN
        refine lv_iload_n hx hb dX4_fault_30 rfl (lv_at hl 0 rfl) ?_
        refine lv_goto (tgt := 40) hx hb dX4_fault_31 (by decide) ?_
        obtain ⟨hE, hE2⟩ := spair hN
        exact k_iretW hx hb hr hE ⟨hE2 ▸ hV, hfr⟩ hP hS hlk dX4_fault_40
    · rw [if_neg c7] at hN
      refine lv_ldc (v := (-1000004)) hx hb hown (hts (.constant RX4 106 (-1000004)) (List.mem_of_getElem? (i := 2) rfl)) dX4_fault_21 ?_
      refine lv_goto (tgt := 40) hx hb dX4_fault_23 (by decide) ?_
      obtain ⟨hE, hE2⟩ := spair hN
      exact k_iretW hx hb hr hE ⟨hE2 ▸ hV, hfr⟩ hP hS hlk dX4_fault_40
  · rw [if_pos c3] at hN
    refine lv_ldc (v := (-1000001)) hx hb hown (hts (.constant RX4 22 (-1000001)) (List.mem_of_getElem? (i := 1) rfl)) dX4_fault_9 ?_
    obtain ⟨hE, hE2⟩ := spair hN
    exact k_iretW hx hb hr hE ⟨hE2 ▸ hV, hfr⟩ hP hS hlk dX4_fault_11
set_option maxHeartbeats 4000000 in
set_option maxRecDepth 100000 in
theorem c_X4_plays (l : Launch) (g : Gm) (L : List Nat) {A : Nat → Prop} (hL : kL L A) (G : Nat → va_E) (h0 : Nat) (r : Nat → Nat) (u : St) (hV : vM g L G h0 r u) (v : Int32) (w : St) (hF : F_X4_plays u = some (v, w)) : Met l yX4_plays wsX4_plays ({ frames := 4, cells := 0, slots := 0, locals := 93 } : Room) (va_Pc [.ref h0] (kB g L A G)) (va_Qi (fun x (G9 : Nat → va_E) => x = v ∧ (vM g L G9 h0 r w ∧ frS h0 r 4 G G9)) (kE g L) A) 0 0 A := by
  refine Met.ofW (cc := cX4_plays) (maxL := 3) (ret := (some .int)) (by decide) rfl ?_
  intro p e s m args below meth c s₁ B hml hv
  obtain ⟨rfl, hP, hC⟩ := hv
  have hx := B.exec
  have hb := B.bytes
  have hr := B.returns
  have hts := atoms_spec (ws := wsX4_plays) B.pre
  have hown : s.vm.findClass RX4 = some m.cls := findClass_of_methodNamed B.named
  have hlk := B.notSynchronized
  have hS : va_S A s.heap s.heap [] := va_S.rf
  have hV0 := hV
  have hfr : frS h0 r 4 G G := frS.rf
  have lp7 : ∀ (n : Nat) (u : St) (x1 : Int32) (G1 : Nat → va_E) (H : Heap) (locs : List Loc) (ls : Array Slot), vM g L G1 h0 r u → frS h0 r 4 G G1 → va_P g.1 vwCl (va_pl L G1) H → va_S A s.heap H locs → lv_has ls 3 [(0, .ref h0), (1, .int x1)] → FL_X4_plays_7  n u x1 = some (v, w) → W p l e (headSpec wsX4_plays ({ frames := 4, cells := 0, slots := 0, locals := 93 } : Room)).room s m ([.ref h0] : List Value).toArray below meth c H locs 0 0 (MQ below (va_Qi (fun x (G9 : Nat → va_E) => x = v ∧ (vM g L G9 h0 r w ∧ frS h0 r 4 G G9)) (kE g L) A) ([.ref h0] : List Value).toArray s 0 0 A) (F0 m 7 ls []) := by
    intro n
    induction n with
    | zero =>
      intro u x1 G1 H locs ls hV hfr hP hS hl hN
      exact absurd hN (by simp [FL_X4_plays_7])
    | succ n ih =>
      intro u x1 G1 H locs ls hV hfr hP hS hl hN
      rw [FL_X4_plays_7] at hN
      refine lv_aload_n hx hb dX4_plays_7 rfl (lv_at hl 0 rfl) ?_
      refine k_get (C := RX4) (T := TX4) (N := 8) (ci := 4) (v := .int (u.2.2 2)) hx hb hts (fun _ h => List.mem_cons_of_mem _ (List.mem_append_right _ h)) hown hC hP (vO.m hV) (vO.o hV) rfl 6 (by decide) (hts (.fieldLink RX4 158 "OrderedClausesModel" "at" "I") (List.mem_of_getElem? (i := 1) rfl)) rfl dX4_plays_8 ?_
      refine lv_aload_n hx hb dX4_plays_11 rfl (lv_at hl 0 rfl) ?_
      refine k_get (C := RX4) (T := TX4) (N := 8) (ci := 4) (v := .int (u.2.2 1)) hx hb hts (fun _ h => List.mem_cons_of_mem _ (List.mem_append_right _ h)) hown hC hP (vO.m hV) (vO.o hV) rfl 5 (by decide) (hts (.fieldLink RX4 155 "OrderedClausesModel" "length" "I") (List.mem_of_getElem? (i := 2) rfl)) rfl dX4_plays_12 ?_
      refine lv_icmp_ge (tgt := 64) hx hb dX4_plays_15 (by decide) (fun c2 => ?_) (fun c2 => ?_)
      · rw [if_pos c2] at hN
        refine lv_iload_n hx hb dX4_plays_64 rfl (lv_at hl 1 rfl) ?_
        obtain ⟨hE, hE2⟩ := spair hN
        exact k_iretW hx hb hr hE ⟨hE2 ▸ hV, hfr⟩ hP hS hlk dX4_plays_65
      · rw [if_neg c2] at hN
        refine lv_aload_n hx hb dX4_plays_18 rfl (lv_at hl 0 rfl) ?_
        obtain ⟨v3, w4, hv3, hN⟩ := oB2_spec hN
        refine k_iW hS (va_runV (As := []) (rest := []) ⟨hx, hb, hml, hown, hts⟩ (c_X4_reads l g L hL G1 h0 r u hV v3 w4 hv3) (cwV 0 hts gX4_plays_X4_reads rfl rfl rfl (by decide +kernel) ⟨Nat.le_of_ble_eq_true rfl, Nat.le_of_ble_eq_true rfl⟩) (k_preV hC hS hP (vO.m hV) (vO.o hV) rfl) rfl rfl hl.1 rfl (lv_room (Nat.le_of_ble_eq_true rfl)) dX4_plays_19 ⟨Nat.zero_le _, Nat.zero_le _⟩) (fun G5 H locs hq hP hS => ?_)
        obtain ⟨hV, hfq⟩ := hq
        have hfr := frS.tr hfr hfq
        refine lv_if_eq (tgt := 39) hx hb dX4_plays_22 (by decide) (fun c6 => ?_) (fun c6 => ?_)
        · rw [if_pos c6] at hN
          refine lv_iconst (v := (-1)) hx hb dX4_plays_39 (by decide) ?_
          refine lv_istore_n (lv' := [(2, .int ((-1) : Int32)), (0, .ref h0), (1, .int x1)]) hx hb dX4_plays_40 rfl hl (by decide) rfl (fun ls hl => ?_)
          refine lv_iload_n hx hb dX4_plays_41 rfl (lv_at hl 0 rfl) ?_
          refine lv_ldc (v := (-1000003)) hx hb hown (hts (.constant RX4 59 (-1000003)) (List.mem_of_getElem? (i := 4) rfl)) dX4_plays_42 ?_
          refine lv_icmp_ne (tgt := 49) hx hb dX4_plays_44 (by decide) (fun _ => ?_) (fun c9 => absurd c9 (by decide))
          refine lv_iload_n hx hb dX4_plays_49 rfl (lv_at hl 2 rfl) ?_
          refine lv_iload_n hx hb dX4_plays_50 rfl (lv_at hl 0 rfl) ?_
          refine lv_if_lt (tgt := 58) hx hb dX4_plays_51 (by decide) (fun _ => ?_) (fun c9 => absurd c9 (by decide))
          refine lv_iconst (v := 0) hx hb dX4_plays_58 (by decide) ?_
          refine lv_iadd hx hb dX4_plays_59 ?_
          refine lv_istore_n (lv' := [(1, .int (x1 + (0 : Int32))), (2, .int ((-1) : Int32)), (0, .ref h0)]) hx hb dX4_plays_60 rfl hl (by decide) rfl (fun ls hl => ?_)
          refine lv_goto (tgt := 7) hx hb dX4_plays_61 (by decide) ?_
          exact ih (w4.1, w4.2.1, w4.2.2) (x1 + (0 : Int32))  _ _ _ _ hV hfr hP hS (lv_sub hl [2, 0] rfl) hN
        · rw [if_neg c6] at hN
          refine lv_aload_n hx hb dX4_plays_25 rfl (lv_at hl 0 rfl) ?_
          refine lv_aload_n hx hb dX4_plays_26 rfl (lv_at hl 0 rfl) ?_
          refine k_get (C := RX4) (T := TX4) (N := 8) (ci := 4) (v := .int (w4.2.2 3)) hx hb hts (fun _ h => List.mem_cons_of_mem _ (List.mem_append_right _ h)) hown hC hP (vO.m hV) (vO.o hV) rfl 7 (by decide) (hts (.fieldLink RX4 161 "OrderedClausesModel" "read" "I") (List.mem_of_getElem? (i := 3) rfl)) rfl dX4_plays_27 ?_
          refine lv_iconst (v := (-1)) hx hb dX4_plays_30 (by decide) ?_
          refine lv_iconst (v := (-1)) hx hb dX4_plays_31 (by decide) ?_
          refine lv_iconst (v := (-1)) hx hb dX4_plays_32 (by decide) ?_
          obtain ⟨v7, w8, hv7, hN⟩ := oB2_spec hN
          refine k_iW hS (va_runV (As := [.int (w4.2.2 3), .int ((-1) : Int32), .int ((-1) : Int32), .int ((-1) : Int32)]) (rest := []) ⟨hx, hb, hml, hown, hts⟩ (c_X4_comes l g L hL G5 h0 r (w4.1, w4.2.1, w4.2.2) hV (w4.2.2 3) ((-1) : Int32) ((-1) : Int32) ((-1) : Int32) v7 w8 hv7) (cwV 4 hts gX4_plays_X4_comes rfl rfl rfl (by decide +kernel) ⟨Nat.le_of_ble_eq_true rfl, Nat.le_of_ble_eq_true rfl⟩) (k_preV hC hS hP (vO.m hV) (vO.o hV) rfl) rfl rfl hl.1 rfl (lv_room (Nat.le_of_ble_eq_true rfl)) dX4_plays_33 ⟨Nat.zero_le _, Nat.zero_le _⟩) (fun G9 H locs hq hP hS => ?_)
          obtain ⟨hV, hfq⟩ := hq
          have hfr := frS.tr hfr hfq
          refine lv_goto (tgt := 40) hx hb dX4_plays_36 (by decide) ?_
          refine lv_istore_n (lv' := [(2, .int v7), (0, .ref h0), (1, .int x1)]) hx hb dX4_plays_40 rfl hl (by decide) rfl (fun ls hl => ?_)
          refine lv_iload_n hx hb dX4_plays_41 rfl (lv_at hl 0 rfl) ?_
          refine lv_ldc (v := (-1000003)) hx hb hown (hts (.constant RX4 59 (-1000003)) (List.mem_of_getElem? (i := 4) rfl)) dX4_plays_42 ?_
          refine lv_icmp_ne (tgt := 49) hx hb dX4_plays_44 (by decide) (fun c10 => ?_) (fun c10 => ?_)
          · rw [if_neg c10] at hN
            refine lv_iload_n hx hb dX4_plays_49 rfl (lv_at hl 2 rfl) ?_
            refine lv_iload_n hx hb dX4_plays_50 rfl (lv_at hl 0 rfl) ?_
            refine lv_if_lt (tgt := 58) hx hb dX4_plays_51 (by decide) (fun c11 => ?_) (fun c11 => ?_)
            · rw [if_pos c11] at hN
              refine lv_iconst (v := 0) hx hb dX4_plays_58 (by decide) ?_
              refine lv_iadd hx hb dX4_plays_59 ?_
              refine lv_istore_n (lv' := [(1, .int (x1 + (0 : Int32))), (2, .int v7), (0, .ref h0)]) hx hb dX4_plays_60 rfl hl (by decide) rfl (fun ls hl => ?_)
              refine lv_goto (tgt := 7) hx hb dX4_plays_61 (by decide) ?_
              exact ih (w8.1, w8.2.1, w8.2.2) (x1 + (0 : Int32))  _ _ _ _ hV hfr hP hS (lv_sub hl [2, 0] rfl) hN
            · rw [if_neg c11] at hN
              refine lv_iconst (v := 1) hx hb dX4_plays_54 (by decide) ?_
              refine lv_goto (tgt := 59) hx hb dX4_plays_55 (by decide) ?_
              refine lv_iadd hx hb dX4_plays_59 ?_
              refine lv_istore_n (lv' := [(1, .int (x1 + (1 : Int32))), (2, .int v7), (0, .ref h0)]) hx hb dX4_plays_60 rfl hl (by decide) rfl (fun ls hl => ?_)
              refine lv_goto (tgt := 7) hx hb dX4_plays_61 (by decide) ?_
              exact ih (w8.1, w8.2.1, w8.2.2) (x1 + (1 : Int32))  _ _ _ _ hV hfr hP hS (lv_sub hl [2, 0] rfl) hN
          · rw [if_pos c10] at hN
            refine lv_iload_n hx hb dX4_plays_47 rfl (lv_at hl 0 rfl) ?_
            obtain ⟨hE, hE2⟩ := spair hN
            exact k_iretW hx hb hr hE ⟨hE2 ▸ hV, hfr⟩ hP hS hlk dX4_plays_48
  have hl := lv_entry ([.ref h0]) (n := 3) (Nat.le_of_ble_eq_true rfl)
  rw [lg_entry_eq]
  generalize (lg_sl ([.ref h0]) ++ List.replicate (3 - (lg_sl ([.ref h0])).length) Slot.unset).toArray = ls at hl ⊢
  have hl : lv_has ls 3 [(0, .ref h0)] := hl
  have hN := hF
  unfold F_X4_plays at hN
  refine lv_aload_n hx hb dX4_plays_0 rfl (lv_at hl 0 rfl) ?_
  refine lv_iconst (v := 0) hx hb dX4_plays_1 (by decide) ?_
  refine k_putE (C := RX4) (T := TX4) (N := 8) (ci := 4) hx hb hts (fun _ h => List.mem_cons_of_mem _ (List.mem_append_right _ h)) tyX4 tyX4_ok nmX4 hown hL hC hP hS (vO.m hV) (vO.o hV) rfl 6 (by decide) (hts (.fieldLink RX4 158 "OrderedClausesModel" "at" "I") (List.mem_of_getElem? (i := 1) rfl)) (by decide +kernel) (by decide +kernel) (Nat.le_of_ble_eq_true rfl) dX4_plays_2 (fun G1 H locs hq hP hS => ?_)
  have hV : vM g L G1 h0 r (u.1, u.2.1, (va_up u.2.2 2 (0 : Int32))) := by rw [hq]; exact vO.setK (f := u.1) (gg := u.2.1) (k := u.2.2) hV rfl
  have hfr : frS h0 r 4 G G1 := by rw [hq]; exact vO.frK hfr _
  refine lv_iconst (v := 0) hx hb dX4_plays_5 (by decide) ?_
  refine lv_istore_n (lv' := [(1, .int (0 : Int32)), (0, .ref h0)]) hx hb dX4_plays_6 rfl hl (by decide) rfl (fun ls hl => ?_)
  exact lp7 fuel (u.1, u.2.1, (va_up u.2.2 2 (0 : Int32))) (0 : Int32)  _ _ _ _ hV hfr hP hS (lv_sub hl [1, 0] rfl) hN
set_option maxHeartbeats 4000000 in
set_option maxRecDepth 100000 in
theorem c_X4_play (l : Launch) (g : Gm) (L : List Nat) {A : Nat → Prop} (hL : kL L A) (G : Nat → va_E) (h0 : Nat) (r : Nat → Nat) (u : St) (hV : vM g L G h0 r u) (v : Int32) (w : St) (hF : F_X4_play u = some (v, w)) : Met l yX4_play wsX4_play ({ frames := 5, cells := 0, slots := 0, locals := 115 } : Room) (va_Pc [.ref h0] (kB g L A G)) (va_Qi (fun x (G9 : Nat → va_E) => x = v ∧ (vM g L G9 h0 r w ∧ frS h0 r 4 G G9)) (kE g L) A) 0 0 A := by
  refine Met.ofW (cc := cX4_play) (maxL := 1) (ret := (some .int)) (by decide) rfl ?_
  intro p e s m args below meth c s₁ B hml hv
  obtain ⟨rfl, hP, hC⟩ := hv
  have hx := B.exec
  have hb := B.bytes
  have hr := B.returns
  have hts := atoms_spec (ws := wsX4_play) B.pre
  have hown : s.vm.findClass RX4 = some m.cls := findClass_of_methodNamed B.named
  have hlk := B.notSynchronized
  have hS : va_S A s.heap s.heap [] := va_S.rf
  have hV0 := hV
  have hfr : frS h0 r 4 G G := frS.rf
  have hl := lv_entry ([.ref h0]) (n := 1) (Nat.le_of_ble_eq_true rfl)
  rw [lg_entry_eq]
  generalize (lg_sl ([.ref h0]) ++ List.replicate (1 - (lg_sl ([.ref h0])).length) Slot.unset).toArray = ls at hl ⊢
  have hl : lv_has ls 1 [(0, .ref h0)] := hl
  have hN := hF
  unfold F_X4_play at hN
  refine lv_aload_n hx hb dX4_play_0 rfl (lv_at hl 0 rfl) ?_
  obtain ⟨v1, w2, hv1, hN⟩ := oB2_spec hN
  refine k_iW hS (va_runV (As := []) (rest := []) ⟨hx, hb, hml, hown, hts⟩ (c_X4_brokenAt l g L hL G h0 r u hV v1 w2 hv1) (cwV 0 hts gX4_play_X4_brokenAt rfl rfl rfl (by decide +kernel) ⟨Nat.le_of_ble_eq_true rfl, Nat.le_of_ble_eq_true rfl⟩) (k_preV hC hS hP (vO.m hV) (vO.o hV) rfl) rfl rfl hl.1 rfl (lv_room (Nat.le_of_ble_eq_true rfl)) dX4_play_1 ⟨Nat.zero_le _, Nat.zero_le _⟩) (fun G3 H locs hq hP hS => ?_)
  obtain ⟨hV, hfq⟩ := hq
  have hfr := frS.tr hfr hfq
  refine lv_if_lt (tgt := 10) hx hb dX4_play_4 (by decide) (fun c4 => ?_) (fun c4 => ?_)
  · rw [if_pos c4] at hN
    refine lv_aload_n hx hb dX4_play_10 rfl (lv_at hl 0 rfl) ?_
    obtain ⟨w6, hw6, hN⟩ := oB_spec hN
    refine k_v hS (va_runV (As := []) (rest := []) ⟨hx, hb, hml, hown, hts⟩ (c_X4_begins l g L hL G3 h0 r (w2.1, w2.2.1, w2.2.2) hV w6 hw6) (cwV 0 hts gX4_play_X4_begins rfl rfl rfl (by decide +kernel) ⟨Nat.le_of_ble_eq_true rfl, Nat.le_of_ble_eq_true rfl⟩) (k_preV hC hS hP (vO.m hV) (vO.o hV) rfl) rfl rfl hl.1 rfl (lv_room (Nat.le_of_ble_eq_true rfl)) dX4_play_11 ⟨Nat.zero_le _, Nat.zero_le _⟩) (fun G7 H locs hq hP hS => ?_)
    obtain ⟨hV, hfq⟩ := hq
    have hfr := frS.tr hfr hfq
    refine lv_aload_n hx hb dX4_play_14 rfl (lv_at hl 0 rfl) ?_
    refine lv_aload_n hx hb dX4_play_15 rfl (lv_at hl 0 rfl) ?_
    obtain ⟨v8, w9, hv8, hN⟩ := oB2_spec hN
    refine k_iW hS (va_runV (As := []) (rest := [.ref h0]) ⟨hx, hb, hml, hown, hts⟩ (c_X4_plays l g L hL G7 h0 r (w6.1, w6.2.1, w6.2.2) hV v8 w9 hv8) (cwV 0 hts gX4_play_X4_plays rfl rfl rfl (by decide +kernel) ⟨Nat.le_of_ble_eq_true rfl, Nat.le_of_ble_eq_true rfl⟩) (k_preV hC hS hP (vO.m hV) (vO.o hV) rfl) rfl rfl hl.1 rfl (lv_room (Nat.le_of_ble_eq_true rfl)) dX4_play_16 ⟨Nat.zero_le _, Nat.zero_le _⟩) (fun G10 H locs hq hP hS => ?_)
    obtain ⟨hV, hfq⟩ := hq
    have hfr := frS.tr hfr hfq
    obtain ⟨v11, w12, hv11, hN⟩ := oB2_spec hN
    refine k_iW hS (va_runV (As := [.int v8]) (rest := []) ⟨hx, hb, hml, hown, hts⟩ (c_X4_acted l g L hL G10 h0 r (w9.1, w9.2.1, w9.2.2) hV v8 v11 w12 hv11) (cwV 1 hts gX4_play_X4_acted rfl rfl rfl (by decide +kernel) ⟨Nat.le_of_ble_eq_true rfl, Nat.le_of_ble_eq_true rfl⟩) (k_preV hC hS hP (vO.m hV) (vO.o hV) rfl) rfl rfl hl.1 rfl (lv_room (Nat.le_of_ble_eq_true rfl)) dX4_play_19 ⟨Nat.zero_le _, Nat.zero_le _⟩) (fun G13 H locs hq hP hS => ?_)
    obtain ⟨hV, hfq⟩ := hq
    have hfr := frS.tr hfr hfq
    obtain ⟨hE, hE2⟩ := spair hN
    exact k_iretW hx hb hr hE ⟨hE2 ▸ hV, hfr⟩ hP hS hlk dX4_play_22
  · rw [if_neg c4] at hN
    refine lv_ldc (v := (-1000002)) hx hb hown (hts (.constant RX4 78 (-1000002)) (List.mem_of_getElem? (i := 1) rfl)) dX4_play_7 ?_
    obtain ⟨hE, hE2⟩ := spair hN
    exact k_iretW hx hb hr hE ⟨hE2 ▸ hV, hfr⟩ hP hS hlk dX4_play_9
