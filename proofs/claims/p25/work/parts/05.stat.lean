/-! Each method meets its partial function: printed by program (wip/p25/gen.py) -/
set_option maxHeartbeats 4000000 in
set_option maxRecDepth 100000 in
theorem c_X3_put (l : Launch) (g : Gm) (L : List Nat) {A : Nat → Prop} (hL : kL L A) (G : Nat → va_E) (a0 : Nat) (x0 : Nat → Int32) (n0 : Nat) (hm0 : a0 ∈ L) (hG0 : G a0 = .inl (gI g, n0, .inl x0)) (p1 : Int32) (p2 : Int32) (w : Nat → Int32) (hF : F_X3_put x0 n0 p1 p2 = some w) : Met l yX3_put wsX3_put ({ frames := 0, cells := 0, slots := 0, locals := 0 } : Room) (va_Pc [.ref a0, .int p1, .int p2] (kB g L A G)) (va_Qv (fun G9 : Nat → va_E => G9 = va_up G a0 (.inl (gI g, n0, .inl w))) (kE g L) A) 0 0 A := by
  refine Met.ofW (cc := cX3_put) (maxL := 3) (ret := none) (by decide) rfl ?_
  intro p e s m args below meth c s₁ B hml hv
  obtain ⟨rfl, hP, hC⟩ := hv
  have hx := B.exec
  have hb := B.bytes
  have hr := B.returns
  have hts := atoms_spec (ws := wsX3_put) B.pre
  have hown : s.vm.findClass RX3 = some m.cls := findClass_of_methodNamed B.named
  have hlk := B.notSynchronized
  have hS : va_S A s.heap s.heap [] := va_S.rf
  have hl := lv_entry ([.ref a0, .int p1, .int p2]) (n := 3) (Nat.le_of_ble_eq_true rfl)
  rw [lg_entry_eq]
  generalize (lg_sl ([.ref a0, .int p1, .int p2]) ++ List.replicate (3 - (lg_sl ([.ref a0, .int p1, .int p2])).length) Slot.unset).toArray = ls at hl ⊢
  have hl : lv_has ls 3 [(0, .ref a0), (1, .int p1), (2, .int p2)] := hl
  have hN := hF
  unfold F_X3_put at hN
  have hq : G = va_up G a0 (.inl (gI g, n0, .inl x0)) := up_id hG0
  refine lv_aload_n hx hb dX3_put_0 rfl (lv_at hl 0 rfl) ?_
  refine lv_ifnull hx hb dX3_put_1 ?_
  refine lv_iload_n hx hb dX3_put_4 rfl (lv_at hl 1 rfl) ?_
  refine lv_if_lt (tgt := 18) hx hb dX3_put_5 (by decide) (fun c1 => ?_) (fun c1 => ?_)
  · rw [if_pos c1] at hN
    have hE := Option.some.inj hN
    exact k_vretW hx hb hr (hE ▸ hq) hP hS hlk dX3_put_18
  · rw [if_neg c1] at hN
    refine lv_iload_n hx hb dX3_put_8 rfl (lv_at hl 1 rfl) ?_
    refine lv_aload_n hx hb dX3_put_9 rfl (lv_at hl 0 rfl) ?_
    refine k_leni hx hb hC hP hm0 hG0 dX3_put_10 ?_
    refine lv_icmp_ge (tgt := 18) hx hb dX3_put_11 (by decide) (fun c2 => ?_) (fun c2 => ?_)
    · rw [if_pos c2] at hN
      have hE := Option.some.inj hN
      exact k_vretW hx hb hr (hE ▸ hq) hP hS hlk dX3_put_18
    · rw [if_neg c2] at hN
      refine lv_aload_n hx hb dX3_put_14 rfl (lv_at hl 0 rfl) ?_
      refine lv_iload_n hx hb dX3_put_15 rfl (lv_at hl 1 rfl) ?_
      refine lv_iload_n hx hb dX3_put_16 rfl (lv_at hl 2 rfl) ?_
      obtain ⟨y3, hy3, hN⟩ := oB_spec hN
      refine k_istE hx hb hL hC hP hS hm0 hG0 hy3 dX3_put_17 (fun G4 H locs hq hP hS => ?_)
      have hE := Option.some.inj hN
      exact k_vretW hx hb hr (hE ▸ hq) hP hS hlk dX3_put_18
set_option maxHeartbeats 4000000 in
set_option maxRecDepth 100000 in
theorem c_X3_copyLongRow (l : Launch) (g : Gm) (L : List Nat) {A : Nat → Prop} (hL : kL L A) (G : Nat → va_E) (a0 : Nat) (x0 : Nat → Int64) (n0 : Nat) (hm0 : a0 ∈ L) (hG0 : G a0 = .inl (gJ g, n0, .inr (.inl x0))) (a1 : Nat) (x1 : Nat → Int64) (n1 : Nat) (hm1 : a1 ∈ L) (hG1 : G a1 = .inl (gJ g, n1, .inr (.inl x1))) (w : Nat → Int64) (hF : F_X3_copyLongRow x0 n0 x1 n1 = some w) : Met l yX3_copyLongRow wsX3_copyLongRow ({ frames := 1, cells := 0, slots := 0, locals := 64 } : Room) (va_Pc [.ref a0, .ref a1] (kB g L A G)) (va_Qv (fun G9 : Nat → va_E => G9 = va_up G a1 (.inl (gJ g, n1, .inr (.inl w)))) (kE g L) A) 0 0 A := by
  refine Met.ofW (cc := cX3_copyLongRow) (maxL := 2) (ret := none) (by decide) rfl ?_
  intro p e s m args below meth c s₁ B hml hv
  obtain ⟨rfl, hP, hC⟩ := hv
  have hx := B.exec
  have hb := B.bytes
  have hr := B.returns
  have hts := atoms_spec (ws := wsX3_copyLongRow) B.pre
  have hown : s.vm.findClass RX3 = some m.cls := findClass_of_methodNamed B.named
  have hlk := B.notSynchronized
  have hS : va_S A s.heap s.heap [] := va_S.rf
  have hl := lv_entry ([.ref a0, .ref a1]) (n := 2) (Nat.le_of_ble_eq_true rfl)
  rw [lg_entry_eq]
  generalize (lg_sl ([.ref a0, .ref a1]) ++ List.replicate (2 - (lg_sl ([.ref a0, .ref a1])).length) Slot.unset).toArray = ls at hl ⊢
  have hl : lv_has ls 2 [(0, .ref a0), (1, .ref a1)] := hl
  have hN := hF
  unfold F_X3_copyLongRow at hN
  have hq : G = va_up G a1 (.inl (gJ g, n1, .inr (.inl x1))) := up_id hG1
  refine lv_aload_n hx hb dX3_copyLongRow_0 rfl (lv_at hl 0 rfl) ?_
  refine lv_ifnull hx hb dX3_copyLongRow_1 ?_
  refine lv_aload_n hx hb dX3_copyLongRow_4 rfl (lv_at hl 1 rfl) ?_
  refine lv_ifnull hx hb dX3_copyLongRow_5 ?_
  refine lv_aload_n hx hb dX3_copyLongRow_8 rfl (lv_at hl 0 rfl) ?_
  refine lv_iconst (v := 0) hx hb dX3_copyLongRow_9 (by decide) ?_
  refine lv_aload_n hx hb dX3_copyLongRow_10 rfl (lv_at hl 1 rfl) ?_
  refine lv_iconst (v := 0) hx hb dX3_copyLongRow_11 (by decide) ?_
  refine lv_aload_n hx hb dX3_copyLongRow_12 rfl (lv_at hl 0 rfl) ?_
  refine k_lenl hx hb hC hP hm0 hG0 dX3_copyLongRow_13 ?_
  refine lv_aload_n hx hb dX3_copyLongRow_14 rfl (lv_at hl 1 rfl) ?_
  refine k_lenl hx hb hC hP hm1 hG1 dX3_copyLongRow_15 ?_
  refine va_mmin hx hb (hml.trans hl.1.symm) hown (hts (.methodLink RX3 193 Lib.Math.min.name) (List.mem_of_getElem? (i := 1) rfl)) (hts (.static Lib.Math.min.name) (List.mem_of_getElem? (i := 2) rfl)) (hts (.initialized "java/lang/Math") (List.mem_of_getElem? (i := 3) rfl)) (hts (.code Lib.Math.min.name Lib.Math.min.code 2 (some .int)) (List.mem_of_getElem? (i := 4) rfl)) (Nat.le_of_ble_eq_true rfl) (Nat.le_of_ble_eq_true rfl) (Nat.zero_le _) (Nat.zero_le _) dX3_copyLongRow_16 ?_
  obtain ⟨y1, hy1, hN⟩ := oB_spec hN
  refine k_cpl hx hb (hml.trans hl.1.symm) hown (hts (.methodLink RX3 198 arraycopyName) (List.mem_of_getElem? (i := 5) rfl)) (hts (.native arraycopyName) (List.mem_of_getElem? (i := 6) rfl)) (hts (.static arraycopyName) (List.mem_of_getElem? (i := 7) rfl)) (hts (.initialized "java/lang/System") (List.mem_of_getElem? (i := 8) rfl)) hL hC hP hS hm0 hG0 hm1 hG1 hy1 (Nat.le_of_ble_eq_true rfl) (Nat.le_of_ble_eq_true rfl) dX3_copyLongRow_19 (fun G2 H locs hq hP hS => ?_)
  have hE := Option.some.inj hN
  exact k_vretW hx hb hr (hE ▸ hq) hP hS hlk dX3_copyLongRow_22
set_option maxHeartbeats 4000000 in
set_option maxRecDepth 100000 in
theorem c_X3_copyRow (l : Launch) (g : Gm) (L : List Nat) {A : Nat → Prop} (hL : kL L A) (G : Nat → va_E) (a0 : Nat) (x0 : Nat → Int32) (n0 : Nat) (hm0 : a0 ∈ L) (hG0 : G a0 = .inl (gI g, n0, .inl x0)) (a1 : Nat) (x1 : Nat → Int32) (n1 : Nat) (hm1 : a1 ∈ L) (hG1 : G a1 = .inl (gI g, n1, .inl x1)) (w : Nat → Int32) (hF : F_X3_copyRow x0 n0 x1 n1 = some w) : Met l yX3_copyRow wsX3_copyRow ({ frames := 1, cells := 0, slots := 0, locals := 64 } : Room) (va_Pc [.ref a0, .ref a1] (kB g L A G)) (va_Qv (fun G9 : Nat → va_E => G9 = va_up G a1 (.inl (gI g, n1, .inl w))) (kE g L) A) 0 0 A := by
  refine Met.ofW (cc := cX3_copyRow) (maxL := 2) (ret := none) (by decide) rfl ?_
  intro p e s m args below meth c s₁ B hml hv
  obtain ⟨rfl, hP, hC⟩ := hv
  have hx := B.exec
  have hb := B.bytes
  have hr := B.returns
  have hts := atoms_spec (ws := wsX3_copyRow) B.pre
  have hown : s.vm.findClass RX3 = some m.cls := findClass_of_methodNamed B.named
  have hlk := B.notSynchronized
  have hS : va_S A s.heap s.heap [] := va_S.rf
  have hl := lv_entry ([.ref a0, .ref a1]) (n := 2) (Nat.le_of_ble_eq_true rfl)
  rw [lg_entry_eq]
  generalize (lg_sl ([.ref a0, .ref a1]) ++ List.replicate (2 - (lg_sl ([.ref a0, .ref a1])).length) Slot.unset).toArray = ls at hl ⊢
  have hl : lv_has ls 2 [(0, .ref a0), (1, .ref a1)] := hl
  have hN := hF
  unfold F_X3_copyRow at hN
  have hq : G = va_up G a1 (.inl (gI g, n1, .inl x1)) := up_id hG1
  refine lv_aload_n hx hb dX3_copyRow_0 rfl (lv_at hl 0 rfl) ?_
  refine lv_ifnull hx hb dX3_copyRow_1 ?_
  refine lv_aload_n hx hb dX3_copyRow_4 rfl (lv_at hl 1 rfl) ?_
  refine lv_ifnull hx hb dX3_copyRow_5 ?_
  refine lv_aload_n hx hb dX3_copyRow_8 rfl (lv_at hl 0 rfl) ?_
  refine lv_iconst (v := 0) hx hb dX3_copyRow_9 (by decide) ?_
  refine lv_aload_n hx hb dX3_copyRow_10 rfl (lv_at hl 1 rfl) ?_
  refine lv_iconst (v := 0) hx hb dX3_copyRow_11 (by decide) ?_
  refine lv_aload_n hx hb dX3_copyRow_12 rfl (lv_at hl 0 rfl) ?_
  refine k_leni hx hb hC hP hm0 hG0 dX3_copyRow_13 ?_
  refine lv_aload_n hx hb dX3_copyRow_14 rfl (lv_at hl 1 rfl) ?_
  refine k_leni hx hb hC hP hm1 hG1 dX3_copyRow_15 ?_
  refine va_mmin hx hb (hml.trans hl.1.symm) hown (hts (.methodLink RX3 193 Lib.Math.min.name) (List.mem_of_getElem? (i := 1) rfl)) (hts (.static Lib.Math.min.name) (List.mem_of_getElem? (i := 2) rfl)) (hts (.initialized "java/lang/Math") (List.mem_of_getElem? (i := 3) rfl)) (hts (.code Lib.Math.min.name Lib.Math.min.code 2 (some .int)) (List.mem_of_getElem? (i := 4) rfl)) (Nat.le_of_ble_eq_true rfl) (Nat.le_of_ble_eq_true rfl) (Nat.zero_le _) (Nat.zero_le _) dX3_copyRow_16 ?_
  obtain ⟨y1, hy1, hN⟩ := oB_spec hN
  refine k_cpi hx hb (hml.trans hl.1.symm) hown (hts (.methodLink RX3 198 arraycopyName) (List.mem_of_getElem? (i := 5) rfl)) (hts (.native arraycopyName) (List.mem_of_getElem? (i := 6) rfl)) (hts (.static arraycopyName) (List.mem_of_getElem? (i := 7) rfl)) (hts (.initialized "java/lang/System") (List.mem_of_getElem? (i := 8) rfl)) hL hC hP hS hm0 hG0 hm1 hG1 hy1 (Nat.le_of_ble_eq_true rfl) (Nat.le_of_ble_eq_true rfl) dX3_copyRow_19 (fun G2 H locs hq hP hS => ?_)
  have hE := Option.some.inj hN
  exact k_vretW hx hb hr (hE ▸ hq) hP hS hlk dX3_copyRow_22
set_option maxHeartbeats 4000000 in
set_option maxRecDepth 100000 in
theorem c_X3_at (l : Launch) (g : Gm) (L : List Nat) {A : Nat → Prop} (hL : kL L A) (G : Nat → va_E) (a0 : Nat) (x0 : Nat → Int32) (n0 : Nat) (hm0 : a0 ∈ L) (hG0 : G a0 = .inl (gI g, n0, .inl x0)) (p1 : Int32) (v : Int32) (hF : F_X3_at x0 n0 p1 = some v) : Met l yX3_at wsX3_at ({ frames := 0, cells := 0, slots := 0, locals := 0 } : Room) (va_Pc [.ref a0, .int p1] (kB g L A G)) (va_Qi (fun x9 (G9 : Nat → va_E) => x9 = v ∧ G9 = G) (kE g L) A) 0 0 A := by
  refine Met.ofW (cc := cX3_at) (maxL := 2) (ret := (some .int)) (by decide) rfl ?_
  intro p e s m args below meth c s₁ B hml hv
  obtain ⟨rfl, hP, hC⟩ := hv
  have hx := B.exec
  have hb := B.bytes
  have hr := B.returns
  have hts := atoms_spec (ws := wsX3_at) B.pre
  have hown : s.vm.findClass RX3 = some m.cls := findClass_of_methodNamed B.named
  have hlk := B.notSynchronized
  have hS : va_S A s.heap s.heap [] := va_S.rf
  have hl := lv_entry ([.ref a0, .int p1]) (n := 2) (Nat.le_of_ble_eq_true rfl)
  rw [lg_entry_eq]
  generalize (lg_sl ([.ref a0, .int p1]) ++ List.replicate (2 - (lg_sl ([.ref a0, .int p1])).length) Slot.unset).toArray = ls at hl ⊢
  have hl : lv_has ls 2 [(0, .ref a0), (1, .int p1)] := hl
  have hN := hF
  unfold F_X3_at at hN
  refine lv_aload_n hx hb dX3_at_0 rfl (lv_at hl 0 rfl) ?_
  refine lv_ifnull hx hb dX3_at_1 ?_
  refine lv_iload_n hx hb dX3_at_4 rfl (lv_at hl 1 rfl) ?_
  refine lv_if_lt (tgt := 20) hx hb dX3_at_5 (by decide) (fun c1 => ?_) (fun c1 => ?_)
  · rw [if_pos c1] at hN
    refine lv_iconst (v := 0) hx hb dX3_at_20 (by decide) ?_
    exact k_iretR hx hb hr (Option.some.inj hN) hP hS hlk dX3_at_21
  · rw [if_neg c1] at hN
    refine lv_iload_n hx hb dX3_at_8 rfl (lv_at hl 1 rfl) ?_
    refine lv_aload_n hx hb dX3_at_9 rfl (lv_at hl 0 rfl) ?_
    refine k_leni hx hb hC hP hm0 hG0 dX3_at_10 ?_
    refine lv_icmp_ge (tgt := 20) hx hb dX3_at_11 (by decide) (fun c2 => ?_) (fun c2 => ?_)
    · rw [if_pos c2] at hN
      refine lv_iconst (v := 0) hx hb dX3_at_20 (by decide) ?_
      exact k_iretR hx hb hr (Option.some.inj hN) hP hS hlk dX3_at_21
    · rw [if_neg c2] at hN
      refine lv_aload_n hx hb dX3_at_14 rfl (lv_at hl 0 rfl) ?_
      refine lv_iload_n hx hb dX3_at_15 rfl (lv_at hl 1 rfl) ?_
      obtain ⟨v3, hv3, hN⟩ := oB_spec hN
      refine k_ildE hx hb hC hP hm0 hG0 hv3 dX3_at_16 ?_
      refine lv_goto (tgt := 21) hx hb dX3_at_17 (by decide) ?_
      exact k_iretR hx hb hr (Option.some.inj hN) hP hS hlk dX3_at_21
set_option maxHeartbeats 4000000 in
set_option maxRecDepth 100000 in
theorem c_X3_isIn (l : Launch) (g : Gm) (L : List Nat) {A : Nat → Prop} (hL : kL L A) (G : Nat → va_E) (p0 : Int64) (p1 : Int32) (v : Int32) (hF : F_X3_isIn p0 p1 = some v) : Met l yX3_isIn wsX3_isIn ({ frames := 0, cells := 0, slots := 0, locals := 0 } : Room) (va_Pc [.long p0, .int p1] (kB g L A G)) (va_Qi (fun x9 (G9 : Nat → va_E) => x9 = v ∧ G9 = G) (kE g L) A) 0 0 A := by
  refine Met.ofW (cc := cX3_isIn) (maxL := 3) (ret := (some .boolean)) (by decide) rfl ?_
  intro p e s m args below meth c s₁ B hml hv
  obtain ⟨rfl, hP, hC⟩ := hv
  have hx := B.exec
  have hb := B.bytes
  have hr := B.returns
  have hts := atoms_spec (ws := wsX3_isIn) B.pre
  have hown : s.vm.findClass RX3 = some m.cls := findClass_of_methodNamed B.named
  have hlk := B.notSynchronized
  have hS : va_S A s.heap s.heap [] := va_S.rf
  have hl := lv_entry ([.long p0, .int p1]) (n := 3) (Nat.le_of_ble_eq_true rfl)
  rw [lg_entry_eq]
  generalize (lg_sl ([.long p0, .int p1]) ++ List.replicate (3 - (lg_sl ([.long p0, .int p1])).length) Slot.unset).toArray = ls at hl ⊢
  have hl : lv_has ls 3 [(0, .long p0), (2, .int p1)] := hl
  have hN := hF
  unfold F_X3_isIn at hN
  refine lv_lload_n hx hb dX3_isIn_0 rfl (lv_at hl 0 rfl) ?_
  refine lv_iload_n hx hb dX3_isIn_1 rfl (lv_at hl 1 rfl) ?_
  refine lv_lushr hx hb dX3_isIn_2 rfl ?_
  refine lv_lconst (v := 1) hx hb dX3_isIn_3 (by decide) ?_
  refine lv_land hx hb dX3_isIn_4 ?_
  refine lv_lconst (v := 0) hx hb dX3_isIn_5 (by decide) ?_
  refine W.lcmp hx hb dX3_isIn_6 ?_
  refine lv_if_eq (tgt := 14) hx hb dX3_isIn_7 (by decide) (fun c1 => ?_) (fun c1 => ?_)
  · rw [if_pos c1] at hN
    refine lv_iconst (v := 0) hx hb dX3_isIn_14 (by decide) ?_
    exact k_zretR hx hb hr (by decide) (Option.some.inj hN) hP hS hlk dX3_isIn_15
  · rw [if_neg c1] at hN
    refine lv_iconst (v := 1) hx hb dX3_isIn_10 (by decide) ?_
    refine lv_goto (tgt := 15) hx hb dX3_isIn_11 (by decide) ?_
    exact k_zretR hx hb hr (by decide) (Option.some.inj hN) hP hS hlk dX3_isIn_15
set_option maxHeartbeats 4000000 in
set_option maxRecDepth 100000 in
theorem c_X3_isWithin (l : Launch) (g : Gm) (L : List Nat) {A : Nat → Prop} (hL : kL L A) (G : Nat → va_E) (p0 : Int32) (p1 : Int32) (v : Int32) (hF : F_X3_isWithin p0 p1 = some v) : Met l yX3_isWithin wsX3_isWithin ({ frames := 0, cells := 0, slots := 0, locals := 0 } : Room) (va_Pc [.int p0, .int p1] (kB g L A G)) (va_Qi (fun x9 (G9 : Nat → va_E) => x9 = v ∧ G9 = G) (kE g L) A) 0 0 A := by
  refine Met.ofW (cc := cX3_isWithin) (maxL := 2) (ret := (some .boolean)) (by decide) rfl ?_
  intro p e s m args below meth c s₁ B hml hv
  obtain ⟨rfl, hP, hC⟩ := hv
  have hx := B.exec
  have hb := B.bytes
  have hr := B.returns
  have hts := atoms_spec (ws := wsX3_isWithin) B.pre
  have hown : s.vm.findClass RX3 = some m.cls := findClass_of_methodNamed B.named
  have hlk := B.notSynchronized
  have hS : va_S A s.heap s.heap [] := va_S.rf
  have hl := lv_entry ([.int p0, .int p1]) (n := 2) (Nat.le_of_ble_eq_true rfl)
  rw [lg_entry_eq]
  generalize (lg_sl ([.int p0, .int p1]) ++ List.replicate (2 - (lg_sl ([.int p0, .int p1])).length) Slot.unset).toArray = ls at hl ⊢
  have hl : lv_has ls 2 [(0, .int p0), (1, .int p1)] := hl
  have hN := hF
  unfold F_X3_isWithin at hN
  refine lv_iload_n hx hb dX3_isWithin_0 rfl (lv_at hl 0 rfl) ?_
  refine lv_iload_n hx hb dX3_isWithin_1 rfl (lv_at hl 1 rfl) ?_
  refine lv_iconst (v := (-1)) hx hb dX3_isWithin_2 (by decide) ?_
  refine lv_ixor hx hb dX3_isWithin_3 ?_
  refine lv_iand hx hb dX3_isWithin_4 ?_
  refine lv_if_ne (tgt := 12) hx hb dX3_isWithin_5 (by decide) (fun c1 => ?_) (fun c1 => ?_)
  · rw [if_neg c1] at hN
    refine lv_iconst (v := 0) hx hb dX3_isWithin_12 (by decide) ?_
    exact k_zretR hx hb hr (by decide) (Option.some.inj hN) hP hS hlk dX3_isWithin_13
  · rw [if_pos c1] at hN
    refine lv_iconst (v := 1) hx hb dX3_isWithin_8 (by decide) ?_
    refine lv_goto (tgt := 13) hx hb dX3_isWithin_9 (by decide) ?_
    exact k_zretR hx hb hr (by decide) (Option.some.inj hN) hP hS hlk dX3_isWithin_13
set_option maxHeartbeats 4000000 in
set_option maxRecDepth 100000 in
theorem c_X3_putLong (l : Launch) (g : Gm) (L : List Nat) {A : Nat → Prop} (hL : kL L A) (G : Nat → va_E) (a0 : Nat) (x0 : Nat → Int64) (n0 : Nat) (hm0 : a0 ∈ L) (hG0 : G a0 = .inl (gJ g, n0, .inr (.inl x0))) (p1 : Int32) (p2 : Int64) (w : Nat → Int64) (hF : F_X3_putLong x0 n0 p1 p2 = some w) : Met l yX3_putLong wsX3_putLong ({ frames := 0, cells := 0, slots := 0, locals := 0 } : Room) (va_Pc [.ref a0, .int p1, .long p2] (kB g L A G)) (va_Qv (fun G9 : Nat → va_E => G9 = va_up G a0 (.inl (gJ g, n0, .inr (.inl w)))) (kE g L) A) 0 0 A := by
  refine Met.ofW (cc := cX3_putLong) (maxL := 4) (ret := none) (by decide) rfl ?_
  intro p e s m args below meth c s₁ B hml hv
  obtain ⟨rfl, hP, hC⟩ := hv
  have hx := B.exec
  have hb := B.bytes
  have hr := B.returns
  have hts := atoms_spec (ws := wsX3_putLong) B.pre
  have hown : s.vm.findClass RX3 = some m.cls := findClass_of_methodNamed B.named
  have hlk := B.notSynchronized
  have hS : va_S A s.heap s.heap [] := va_S.rf
  have hl := lv_entry ([.ref a0, .int p1, .long p2]) (n := 4) (Nat.le_of_ble_eq_true rfl)
  rw [lg_entry_eq]
  generalize (lg_sl ([.ref a0, .int p1, .long p2]) ++ List.replicate (4 - (lg_sl ([.ref a0, .int p1, .long p2])).length) Slot.unset).toArray = ls at hl ⊢
  have hl : lv_has ls 4 [(0, .ref a0), (1, .int p1), (2, .long p2)] := hl
  have hN := hF
  unfold F_X3_putLong at hN
  have hq : G = va_up G a0 (.inl (gJ g, n0, .inr (.inl x0))) := up_id hG0
  refine lv_aload_n hx hb dX3_putLong_0 rfl (lv_at hl 0 rfl) ?_
  refine lv_ifnull hx hb dX3_putLong_1 ?_
  refine lv_iload_n hx hb dX3_putLong_4 rfl (lv_at hl 1 rfl) ?_
  refine lv_if_lt (tgt := 18) hx hb dX3_putLong_5 (by decide) (fun c1 => ?_) (fun c1 => ?_)
  · rw [if_pos c1] at hN
    have hE := Option.some.inj hN
    exact k_vretW hx hb hr (hE ▸ hq) hP hS hlk dX3_putLong_18
  · rw [if_neg c1] at hN
    refine lv_iload_n hx hb dX3_putLong_8 rfl (lv_at hl 1 rfl) ?_
    refine lv_aload_n hx hb dX3_putLong_9 rfl (lv_at hl 0 rfl) ?_
    refine k_lenl hx hb hC hP hm0 hG0 dX3_putLong_10 ?_
    refine lv_icmp_ge (tgt := 18) hx hb dX3_putLong_11 (by decide) (fun c2 => ?_) (fun c2 => ?_)
    · rw [if_pos c2] at hN
      have hE := Option.some.inj hN
      exact k_vretW hx hb hr (hE ▸ hq) hP hS hlk dX3_putLong_18
    · rw [if_neg c2] at hN
      refine lv_aload_n hx hb dX3_putLong_14 rfl (lv_at hl 0 rfl) ?_
      refine lv_iload_n hx hb dX3_putLong_15 rfl (lv_at hl 1 rfl) ?_
      refine lv_lload_n hx hb dX3_putLong_16 rfl (lv_at hl 2 rfl) ?_
      obtain ⟨y3, hy3, hN⟩ := oB_spec hN
      refine k_lstE hx hb hL hC hP hS hm0 hG0 hy3 dX3_putLong_17 (fun G4 H locs hq hP hS => ?_)
      have hE := Option.some.inj hN
      exact k_vretW hx hb hr (hE ▸ hq) hP hS hlk dX3_putLong_18
set_option maxHeartbeats 4000000 in
set_option maxRecDepth 100000 in
theorem c_X3_longAt (l : Launch) (g : Gm) (L : List Nat) {A : Nat → Prop} (hL : kL L A) (G : Nat → va_E) (a0 : Nat) (x0 : Nat → Int64) (n0 : Nat) (hm0 : a0 ∈ L) (hG0 : G a0 = .inl (gJ g, n0, .inr (.inl x0))) (p1 : Int32) (v : Int64) (hF : F_X3_longAt x0 n0 p1 = some v) : Met l yX3_longAt wsX3_longAt ({ frames := 0, cells := 0, slots := 0, locals := 0 } : Room) (va_Pc [.ref a0, .int p1] (kB g L A G)) (va_Ql (fun x9 (G9 : Nat → va_E) => x9 = v ∧ G9 = G) (kE g L) A) 0 0 A := by
  refine Met.ofW (cc := cX3_longAt) (maxL := 2) (ret := (some .long)) (by decide) rfl ?_
  intro p e s m args below meth c s₁ B hml hv
  obtain ⟨rfl, hP, hC⟩ := hv
  have hx := B.exec
  have hb := B.bytes
  have hr := B.returns
  have hts := atoms_spec (ws := wsX3_longAt) B.pre
  have hown : s.vm.findClass RX3 = some m.cls := findClass_of_methodNamed B.named
  have hlk := B.notSynchronized
  have hS : va_S A s.heap s.heap [] := va_S.rf
  have hl := lv_entry ([.ref a0, .int p1]) (n := 2) (Nat.le_of_ble_eq_true rfl)
  rw [lg_entry_eq]
  generalize (lg_sl ([.ref a0, .int p1]) ++ List.replicate (2 - (lg_sl ([.ref a0, .int p1])).length) Slot.unset).toArray = ls at hl ⊢
  have hl : lv_has ls 2 [(0, .ref a0), (1, .int p1)] := hl
  have hN := hF
  unfold F_X3_longAt at hN
  refine lv_aload_n hx hb dX3_longAt_0 rfl (lv_at hl 0 rfl) ?_
  refine lv_ifnull hx hb dX3_longAt_1 ?_
  refine lv_iload_n hx hb dX3_longAt_4 rfl (lv_at hl 1 rfl) ?_
  refine lv_if_lt (tgt := 20) hx hb dX3_longAt_5 (by decide) (fun c1 => ?_) (fun c1 => ?_)
  · rw [if_pos c1] at hN
    refine lv_lconst (v := 0) hx hb dX3_longAt_20 (by decide) ?_
    exact k_lretR hx hb hr (Option.some.inj hN) hP hS hlk dX3_longAt_21
  · rw [if_neg c1] at hN
    refine lv_iload_n hx hb dX3_longAt_8 rfl (lv_at hl 1 rfl) ?_
    refine lv_aload_n hx hb dX3_longAt_9 rfl (lv_at hl 0 rfl) ?_
    refine k_lenl hx hb hC hP hm0 hG0 dX3_longAt_10 ?_
    refine lv_icmp_ge (tgt := 20) hx hb dX3_longAt_11 (by decide) (fun c2 => ?_) (fun c2 => ?_)
    · rw [if_pos c2] at hN
      refine lv_lconst (v := 0) hx hb dX3_longAt_20 (by decide) ?_
      exact k_lretR hx hb hr (Option.some.inj hN) hP hS hlk dX3_longAt_21
    · rw [if_neg c2] at hN
      refine lv_aload_n hx hb dX3_longAt_14 rfl (lv_at hl 0 rfl) ?_
      refine lv_iload_n hx hb dX3_longAt_15 rfl (lv_at hl 1 rfl) ?_
      obtain ⟨v3, hv3, hN⟩ := oB_spec hN
      refine k_lldE hx hb hC hP hm0 hG0 hv3 dX3_longAt_16 ?_
      refine lv_goto (tgt := 21) hx hb dX3_longAt_17 (by decide) ?_
      exact k_lretR hx hb hr (Option.some.inj hN) hP hS hlk dX3_longAt_21
set_option maxHeartbeats 4000000 in
set_option maxRecDepth 100000 in
theorem c_X3_longAtT (l : Launch) (g : Gm) (L : List Nat) {A : Nat → Prop} (hL : kL L A) (G : Nat → va_E) (p1 : Int32) (v : Int64) (hF : F_X3_longAtT p1 = some v) : Met l yX3_longAt wsX3_longAt ({ frames := 0, cells := 0, slots := 0, locals := 0 } : Room) (va_Pc [.ref (gT g), .int p1] (kB g L A G)) (va_Ql (fun x9 (G9 : Nat → va_E) => x9 = v ∧ G9 = G) (kE g L) A) 0 0 A := by
  refine Met.ofW (cc := cX3_longAt) (maxL := 2) (ret := (some .long)) (by decide) rfl ?_
  intro p e s m args below meth c s₁ B hml hv
  obtain ⟨rfl, hP, hC⟩ := hv
  have hx := B.exec
  have hb := B.bytes
  have hr := B.returns
  have hts := atoms_spec (ws := wsX3_longAt) B.pre
  have hown : s.vm.findClass RX3 = some m.cls := findClass_of_methodNamed B.named
  have hlk := B.notSynchronized
  have hS : va_S A s.heap s.heap [] := va_S.rf
  have hl := lv_entry ([.ref (gT g), .int p1]) (n := 2) (Nat.le_of_ble_eq_true rfl)
  rw [lg_entry_eq]
  generalize (lg_sl ([.ref (gT g), .int p1]) ++ List.replicate (2 - (lg_sl ([.ref (gT g), .int p1])).length) Slot.unset).toArray = ls at hl ⊢
  have hl : lv_has ls 2 [(0, .ref (gT g)), (1, .int p1)] := hl
  have hN := hF
  unfold F_X3_longAtT at hN
  refine lv_aload_n hx hb dX3_longAt_0 rfl (lv_at hl 0 rfl) ?_
  refine lv_ifnull hx hb dX3_longAt_1 ?_
  refine lv_iload_n hx hb dX3_longAt_4 rfl (lv_at hl 1 rfl) ?_
  refine lv_if_lt (tgt := 20) hx hb dX3_longAt_5 (by decide) (fun c1 => ?_) (fun c1 => ?_)
  · rw [if_pos c1] at hN
    refine lv_lconst (v := 0) hx hb dX3_longAt_20 (by decide) ?_
    exact k_lretR hx hb hr (Option.some.inj hN) hP hS hlk dX3_longAt_21
  · rw [if_neg c1] at hN
    refine lv_iload_n hx hb dX3_longAt_8 rfl (lv_at hl 1 rfl) ?_
    refine lv_aload_n hx hb dX3_longAt_9 rfl (lv_at hl 0 rfl) ?_
    refine k_tlen hx hb hC hS dX3_longAt_10 ?_
    refine lv_icmp_ge (tgt := 20) hx hb dX3_longAt_11 (by decide) (fun c2 => ?_) (fun c2 => ?_)
    · rw [if_pos c2] at hN
      refine lv_lconst (v := 0) hx hb dX3_longAt_20 (by decide) ?_
      exact k_lretR hx hb hr (Option.some.inj hN) hP hS hlk dX3_longAt_21
    · rw [if_neg c2] at hN
      refine lv_aload_n hx hb dX3_longAt_14 rfl (lv_at hl 0 rfl) ?_
      refine lv_iload_n hx hb dX3_longAt_15 rfl (lv_at hl 1 rfl) ?_
      obtain ⟨v3, hv3, hN⟩ := oB_spec hN
      refine k_tldE hx hb hC hS hv3 dX3_longAt_16 ?_
      refine lv_goto (tgt := 21) hx hb dX3_longAt_17 (by decide) ?_
      exact k_lretR hx hb hr (Option.some.inj hN) hP hS hlk dX3_longAt_21
set_option maxHeartbeats 4000000 in
set_option maxRecDepth 100000 in
theorem c_X3_valuesOfClause (l : Launch) (g : Gm) (L : List Nat) {A : Nat → Prop} (hL : kL L A) (G : Nat → va_E) (p0 : Int32) (v : Int64) (hF : F_X3_valuesOfClause p0 = some v) : Met l yX3_valuesOfClause wsX3_valuesOfClause ({ frames := 1, cells := 0, slots := 0, locals := 21 } : Room) (va_Pc [.int p0] (kB g L A G)) (va_Ql (fun x9 (G9 : Nat → va_E) => x9 = v ∧ G9 = G) (kE g L) A) 0 0 A := by
  refine Met.ofW (cc := cX3_valuesOfClause) (maxL := 7) (ret := (some .long)) (by decide) rfl ?_
  intro p e s m args below meth c s₁ B hml hv
  obtain ⟨rfl, hP, hC⟩ := hv
  have hx := B.exec
  have hb := B.bytes
  have hr := B.returns
  have hts := atoms_spec (ws := wsX3_valuesOfClause) B.pre
  have hown : s.vm.findClass RX3 = some m.cls := findClass_of_methodNamed B.named
  have hlk := B.notSynchronized
  have hS : va_S A s.heap s.heap [] := va_S.rf
  have lp4 : ∀ (n : Nat) (x0 : Int32) (x1 : Int64) (x3 : Int32) (H : Heap) (locs : List Loc) (ls : Array Slot), va_P g.1 vwCl (va_pl L G) H → va_S A s.heap H locs → lv_has ls 7 [(0, .int x0), (1, .long x1), (3, .int x3)] → FL_X3_valuesOfClause_4  n x0 x1 x3 = some v → W p l e (headSpec wsX3_valuesOfClause ({ frames := 1, cells := 0, slots := 0, locals := 21 } : Room)).room s m ([.int p0] : List Value).toArray below meth c H locs 0 0 (MQ below (va_Ql (fun x9 (G9 : Nat → va_E) => x9 = v ∧ G9 = G) (kE g L) A) ([.int p0] : List Value).toArray s 0 0 A) (F0 m 4 ls []) := by
    intro n
    induction n with
    | zero =>
      intro x0 x1 x3 H locs ls hP hS hl hN
      exact absurd hN (by simp [FL_X3_valuesOfClause_4])
    | succ n ih =>
      intro x0 x1 x3 H locs ls hP hS hl hN
      rw [FL_X3_valuesOfClause_4] at hN
      refine lv_iload_n hx hb dX3_valuesOfClause_4 rfl (lv_at hl 2 rfl) ?_
      refine lv_bipush (v := 6) hx hb dX3_valuesOfClause_5 (by decide) ?_
      refine lv_icmp_ge (tgt := 70) hx hb dX3_valuesOfClause_7 (by decide) (fun c1 => ?_) (fun c1 => ?_)
      · rw [if_pos c1] at hN
        refine lv_lload_n hx hb dX3_valuesOfClause_70 rfl (lv_at hl 1 rfl) ?_
        exact k_lretR hx hb hr (Option.some.inj hN) hP hS hlk dX3_valuesOfClause_71
      · rw [if_neg c1] at hN
        refine lv_iload_n hx hb dX3_valuesOfClause_10 rfl (lv_at hl 0 rfl) ?_
        refine lv_iconst (v := 2) hx hb dX3_valuesOfClause_11 (by decide) ?_
        refine lv_iload_n hx hb dX3_valuesOfClause_12 rfl (lv_at hl 2 rfl) ?_
        refine lv_imul hx hb dX3_valuesOfClause_13 ?_
        refine lv_ishr hx hb dX3_valuesOfClause_14 ?_
        refine lv_iconst (v := 3) hx hb dX3_valuesOfClause_15 (by decide) ?_
        refine lv_iand hx hb dX3_valuesOfClause_16 ?_
        refine lv_istore (lv' := [(4, .int ((x0 >>> (((2 : Int32) * x3) &&& 31)) &&& (3 : Int32))), (0, .int x0), (1, .long x1), (3, .int x3)]) hx hb dX3_valuesOfClause_17 hl (by decide) rfl (fun ls hl => ?_)
        refine k_gets hx hb hC hS hown (hts (.fieldLink RX3 204 "OrderedClauses" "VALUES_WITH_ATOM" "[J") (List.mem_of_getElem? (i := 1) rfl)) dX3_valuesOfClause_19 ?_
        refine lv_iload_n hx hb dX3_valuesOfClause_22 rfl (lv_at hl 3 rfl) ?_
        obtain ⟨v2, hv2, hN⟩ := oB_spec hN
        refine k_lR hS (va_runS (As := [.ref (gT g), .int x3]) (rest := []) ⟨hx, hb, hml, hown, hts⟩ (c_X3_longAtT l g L hL G x3 v2 hv2) (va_cwS 2 hts gX3_valuesOfClause_X3_longAt rfl rfl rfl (by decide +kernel) ⟨Nat.le_of_ble_eq_true rfl, Nat.le_of_ble_eq_true rfl⟩) (k_pre hC hS hP) rfl rfl hl.1 rfl (lv_room (Nat.le_of_ble_eq_true rfl)) dX3_valuesOfClause_23 ⟨Nat.zero_le _, Nat.zero_le _⟩) (fun H locs hP hS => ?_)
        refine lv_lstore (lv' := [(5, .long v2), (4, .int ((x0 >>> (((2 : Int32) * x3) &&& 31)) &&& (3 : Int32))), (0, .int x0), (1, .long x1), (3, .int x3)]) hx hb dX3_valuesOfClause_26 hl (by decide) rfl (fun ls hl => ?_)
        refine lv_lload_n hx hb dX3_valuesOfClause_28 rfl (lv_at hl 3 rfl) ?_
        refine lv_iload hx hb dX3_valuesOfClause_29 (lv_at hl 1 rfl) ?_
        refine lv_iconst (v := 1) hx hb dX3_valuesOfClause_31 (by decide) ?_
        refine lv_iand hx hb dX3_valuesOfClause_32 ?_
        refine lv_if_eq (tgt := 41) hx hb dX3_valuesOfClause_33 (by decide) (fun c4 => ?_) (fun c4 => ?_)
        · rw [if_pos c4] at hN
          refine lv_lconst (v := 0) hx hb dX3_valuesOfClause_41 (by decide) ?_
          refine lv_lor hx hb dX3_valuesOfClause_42 ?_
          refine lv_lstore_n (lv' := [(1, .long (x1 ||| (0 : Int64))), (5, .long v2), (4, .int ((x0 >>> (((2 : Int32) * x3) &&& 31)) &&& (3 : Int32))), (0, .int x0), (3, .int x3)]) hx hb dX3_valuesOfClause_43 rfl hl (by decide) rfl (fun ls hl => ?_)
          refine lv_lload_n hx hb dX3_valuesOfClause_44 rfl (lv_at hl 0 rfl) ?_
          refine lv_iload hx hb dX3_valuesOfClause_45 (lv_at hl 2 rfl) ?_
          refine lv_iconst (v := 2) hx hb dX3_valuesOfClause_47 (by decide) ?_
          refine lv_iand hx hb dX3_valuesOfClause_48 ?_
          refine lv_if_eq (tgt := 61) hx hb dX3_valuesOfClause_49 (by decide) (fun c5 => ?_) (fun c5 => ?_)
          · rw [if_pos c5] at hN
            refine lv_lconst (v := 0) hx hb dX3_valuesOfClause_61 (by decide) ?_
            refine lv_lor hx hb dX3_valuesOfClause_62 ?_
            refine lv_lstore_n (lv' := [(1, .long ((x1 ||| (0 : Int64)) ||| (0 : Int64))), (5, .long v2), (4, .int ((x0 >>> (((2 : Int32) * x3) &&& 31)) &&& (3 : Int32))), (0, .int x0), (3, .int x3)]) hx hb dX3_valuesOfClause_63 rfl hl (by decide) rfl (fun ls hl => ?_)
            refine lv_iinc (v := (x3 + 1)) (lv' := [(3, .int (x3 + 1)), (1, .long ((x1 ||| (0 : Int64)) ||| (0 : Int64))), (5, .long v2), (4, .int ((x0 >>> (((2 : Int32) * x3) &&& 31)) &&& (3 : Int32))), (0, .int x0)]) hx hb dX3_valuesOfClause_64 hl (k := 4) rfl rfl (by decide) rfl (fun ls hl => ?_)
            refine lv_goto (tgt := 4) hx hb dX3_valuesOfClause_67 (by decide) ?_
            exact ih x0 ((x1 ||| (0 : Int64)) ||| (0 : Int64)) (x3 + 1)  _ _ _ hP hS (lv_sub hl [4, 1, 0] rfl) hN
          · rw [if_neg c5] at hN
            refine lv_lload hx hb dX3_valuesOfClause_52 (lv_at hl 1 rfl) ?_
            refine lv_ldc2 (v := (-1)) hx hb hown (hts (.constantLong RX3 145 (-1)) (List.mem_of_getElem? (i := 2) rfl)) dX3_valuesOfClause_54 ?_
            refine lv_lxor hx hb dX3_valuesOfClause_57 ?_
            refine lv_goto (tgt := 62) hx hb dX3_valuesOfClause_58 (by decide) ?_
            refine lv_lor hx hb dX3_valuesOfClause_62 ?_
            refine lv_lstore_n (lv' := [(1, .long ((x1 ||| (0 : Int64)) ||| (v2 ^^^ ((-1) : Int64)))), (5, .long v2), (4, .int ((x0 >>> (((2 : Int32) * x3) &&& 31)) &&& (3 : Int32))), (0, .int x0), (3, .int x3)]) hx hb dX3_valuesOfClause_63 rfl hl (by decide) rfl (fun ls hl => ?_)
            refine lv_iinc (v := (x3 + 1)) (lv' := [(3, .int (x3 + 1)), (1, .long ((x1 ||| (0 : Int64)) ||| (v2 ^^^ ((-1) : Int64)))), (5, .long v2), (4, .int ((x0 >>> (((2 : Int32) * x3) &&& 31)) &&& (3 : Int32))), (0, .int x0)]) hx hb dX3_valuesOfClause_64 hl (k := 4) rfl rfl (by decide) rfl (fun ls hl => ?_)
            refine lv_goto (tgt := 4) hx hb dX3_valuesOfClause_67 (by decide) ?_
            exact ih x0 ((x1 ||| (0 : Int64)) ||| (v2 ^^^ ((-1) : Int64))) (x3 + 1)  _ _ _ hP hS (lv_sub hl [4, 1, 0] rfl) hN
        · rw [if_neg c4] at hN
          refine lv_lload hx hb dX3_valuesOfClause_36 (lv_at hl 0 rfl) ?_
          refine lv_goto (tgt := 42) hx hb dX3_valuesOfClause_38 (by decide) ?_
          refine lv_lor hx hb dX3_valuesOfClause_42 ?_
          refine lv_lstore_n (lv' := [(1, .long (x1 ||| v2)), (5, .long v2), (4, .int ((x0 >>> (((2 : Int32) * x3) &&& 31)) &&& (3 : Int32))), (0, .int x0), (3, .int x3)]) hx hb dX3_valuesOfClause_43 rfl hl (by decide) rfl (fun ls hl => ?_)
          refine lv_lload_n hx hb dX3_valuesOfClause_44 rfl (lv_at hl 0 rfl) ?_
          refine lv_iload hx hb dX3_valuesOfClause_45 (lv_at hl 2 rfl) ?_
          refine lv_iconst (v := 2) hx hb dX3_valuesOfClause_47 (by decide) ?_
          refine lv_iand hx hb dX3_valuesOfClause_48 ?_
          refine lv_if_eq (tgt := 61) hx hb dX3_valuesOfClause_49 (by decide) (fun c6 => ?_) (fun c6 => ?_)
          · rw [if_pos c6] at hN
            refine lv_lconst (v := 0) hx hb dX3_valuesOfClause_61 (by decide) ?_
            refine lv_lor hx hb dX3_valuesOfClause_62 ?_
            refine lv_lstore_n (lv' := [(1, .long ((x1 ||| v2) ||| (0 : Int64))), (5, .long v2), (4, .int ((x0 >>> (((2 : Int32) * x3) &&& 31)) &&& (3 : Int32))), (0, .int x0), (3, .int x3)]) hx hb dX3_valuesOfClause_63 rfl hl (by decide) rfl (fun ls hl => ?_)
            refine lv_iinc (v := (x3 + 1)) (lv' := [(3, .int (x3 + 1)), (1, .long ((x1 ||| v2) ||| (0 : Int64))), (5, .long v2), (4, .int ((x0 >>> (((2 : Int32) * x3) &&& 31)) &&& (3 : Int32))), (0, .int x0)]) hx hb dX3_valuesOfClause_64 hl (k := 4) rfl rfl (by decide) rfl (fun ls hl => ?_)
            refine lv_goto (tgt := 4) hx hb dX3_valuesOfClause_67 (by decide) ?_
            exact ih x0 ((x1 ||| v2) ||| (0 : Int64)) (x3 + 1)  _ _ _ hP hS (lv_sub hl [4, 1, 0] rfl) hN
          · rw [if_neg c6] at hN
            refine lv_lload hx hb dX3_valuesOfClause_52 (lv_at hl 1 rfl) ?_
            refine lv_ldc2 (v := (-1)) hx hb hown (hts (.constantLong RX3 145 (-1)) (List.mem_of_getElem? (i := 2) rfl)) dX3_valuesOfClause_54 ?_
            refine lv_lxor hx hb dX3_valuesOfClause_57 ?_
            refine lv_goto (tgt := 62) hx hb dX3_valuesOfClause_58 (by decide) ?_
            refine lv_lor hx hb dX3_valuesOfClause_62 ?_
            refine lv_lstore_n (lv' := [(1, .long ((x1 ||| v2) ||| (v2 ^^^ ((-1) : Int64)))), (5, .long v2), (4, .int ((x0 >>> (((2 : Int32) * x3) &&& 31)) &&& (3 : Int32))), (0, .int x0), (3, .int x3)]) hx hb dX3_valuesOfClause_63 rfl hl (by decide) rfl (fun ls hl => ?_)
            refine lv_iinc (v := (x3 + 1)) (lv' := [(3, .int (x3 + 1)), (1, .long ((x1 ||| v2) ||| (v2 ^^^ ((-1) : Int64)))), (5, .long v2), (4, .int ((x0 >>> (((2 : Int32) * x3) &&& 31)) &&& (3 : Int32))), (0, .int x0)]) hx hb dX3_valuesOfClause_64 hl (k := 4) rfl rfl (by decide) rfl (fun ls hl => ?_)
            refine lv_goto (tgt := 4) hx hb dX3_valuesOfClause_67 (by decide) ?_
            exact ih x0 ((x1 ||| v2) ||| (v2 ^^^ ((-1) : Int64))) (x3 + 1)  _ _ _ hP hS (lv_sub hl [4, 1, 0] rfl) hN
  have hl := lv_entry ([.int p0]) (n := 7) (Nat.le_of_ble_eq_true rfl)
  rw [lg_entry_eq]
  generalize (lg_sl ([.int p0]) ++ List.replicate (7 - (lg_sl ([.int p0])).length) Slot.unset).toArray = ls at hl ⊢
  have hl : lv_has ls 7 [(0, .int p0)] := hl
  have hN := hF
  unfold F_X3_valuesOfClause at hN
  refine lv_lconst (v := 0) hx hb dX3_valuesOfClause_0 (by decide) ?_
  refine lv_lstore_n (lv' := [(1, .long (0 : Int64)), (0, .int p0)]) hx hb dX3_valuesOfClause_1 rfl hl (by decide) rfl (fun ls hl => ?_)
  refine lv_iconst (v := 0) hx hb dX3_valuesOfClause_2 (by decide) ?_
  refine lv_istore_n (lv' := [(3, .int (0 : Int32)), (1, .long (0 : Int64)), (0, .int p0)]) hx hb dX3_valuesOfClause_3 rfl hl (by decide) rfl (fun ls hl => ?_)
  exact lp4 fuel p0 (0 : Int64) (0 : Int32)  _ _ _ hP hS (lv_sub hl [2, 1, 0] rfl) hN
set_option maxHeartbeats 4000000 in
set_option maxRecDepth 100000 in
theorem c_X3_holdsAlways (l : Launch) (g : Gm) (L : List Nat) {A : Nat → Prop} (hL : kL L A) (G : Nat → va_E) (p0 : Int32) (v : Int32) (hF : F_X3_holdsAlways p0 = some v) : Met l yX3_holdsAlways wsX3_holdsAlways ({ frames := 0, cells := 0, slots := 0, locals := 0 } : Room) (va_Pc [.int p0] (kB g L A G)) (va_Qi (fun x9 (G9 : Nat → va_E) => x9 = v ∧ G9 = G) (kE g L) A) 0 0 A := by
  refine Met.ofW (cc := cX3_holdsAlways) (maxL := 1) (ret := (some .boolean)) (by decide) rfl ?_
  intro p e s m args below meth c s₁ B hml hv
  obtain ⟨rfl, hP, hC⟩ := hv
  have hx := B.exec
  have hb := B.bytes
  have hr := B.returns
  have hts := atoms_spec (ws := wsX3_holdsAlways) B.pre
  have hown : s.vm.findClass RX3 = some m.cls := findClass_of_methodNamed B.named
  have hlk := B.notSynchronized
  have hS : va_S A s.heap s.heap [] := va_S.rf
  have hl := lv_entry ([.int p0]) (n := 1) (Nat.le_of_ble_eq_true rfl)
  rw [lg_entry_eq]
  generalize (lg_sl ([.int p0]) ++ List.replicate (1 - (lg_sl ([.int p0])).length) Slot.unset).toArray = ls at hl ⊢
  have hl : lv_has ls 1 [(0, .int p0)] := hl
  have hN := hF
  unfold F_X3_holdsAlways at hN
  refine lv_iload_n hx hb dX3_holdsAlways_0 rfl (lv_at hl 0 rfl) ?_
  refine lv_iload_n hx hb dX3_holdsAlways_1 rfl (lv_at hl 0 rfl) ?_
  refine lv_iconst (v := 1) hx hb dX3_holdsAlways_2 (by decide) ?_
  refine lv_ishr hx hb dX3_holdsAlways_3 ?_
  refine lv_iand hx hb dX3_holdsAlways_4 ?_
  refine lv_sipush (v := 1365) hx hb dX3_holdsAlways_5 (by decide) ?_
  refine lv_iand hx hb dX3_holdsAlways_8 ?_
  refine lv_if_eq (tgt := 16) hx hb dX3_holdsAlways_9 (by decide) (fun c1 => ?_) (fun c1 => ?_)
  · rw [if_pos c1] at hN
    refine lv_iconst (v := 0) hx hb dX3_holdsAlways_16 (by decide) ?_
    exact k_zretR hx hb hr (by decide) (Option.some.inj hN) hP hS hlk dX3_holdsAlways_17
  · rw [if_neg c1] at hN
    refine lv_iconst (v := 1) hx hb dX3_holdsAlways_12 (by decide) ?_
    refine lv_goto (tgt := 17) hx hb dX3_holdsAlways_13 (by decide) ?_
    exact k_zretR hx hb hr (by decide) (Option.some.inj hN) hP hS hlk dX3_holdsAlways_17
set_option maxHeartbeats 4000000 in
set_option maxRecDepth 100000 in
theorem c_J6_bitCount_0f7a4 (l : Launch) (g : Gm) (L : List Nat) {A : Nat → Prop} (hL : kL L A) (G : Nat → va_E) (p0 : Int32) (v : Int32) (hF : F_J6_bitCount_0f7a4 p0 = some v) : Met l yJ6_bitCount_0f7a4 wsJ6_bitCount_0f7a4 ({ frames := 0, cells := 0, slots := 0, locals := 0 } : Room) (va_Pc [.int p0] (kB g L A G)) (va_Qi (fun x9 (G9 : Nat → va_E) => x9 = v ∧ G9 = G) (kE g L) A) 0 0 A := by
  refine Met.ofW (cc := cJ6_bitCount_0f7a4) (maxL := 1) (ret := (some .int)) (by decide) rfl ?_
  intro p e s m args below meth c s₁ B hml hv
  obtain ⟨rfl, hP, hC⟩ := hv
  have hx := B.exec
  have hb := B.bytes
  have hr := B.returns
  have hts := atoms_spec (ws := wsJ6_bitCount_0f7a4) B.pre
  have hown : s.vm.findClass RJ6 = some m.cls := findClass_of_methodNamed B.named
  have hlk := B.notSynchronized
  have hS : va_S A s.heap s.heap [] := va_S.rf
  have hl := lv_entry ([.int p0]) (n := 1) (Nat.le_of_ble_eq_true rfl)
  rw [lg_entry_eq]
  generalize (lg_sl ([.int p0]) ++ List.replicate (1 - (lg_sl ([.int p0])).length) Slot.unset).toArray = ls at hl ⊢
  have hl : lv_has ls 1 [(0, .int p0)] := hl
  have hN := hF
  unfold F_J6_bitCount_0f7a4 at hN
  refine lv_iload_n hx hb dJ6_bitCount_0f7a4_0 rfl (lv_at hl 0 rfl) ?_
  refine lv_iload_n hx hb dJ6_bitCount_0f7a4_1 rfl (lv_at hl 0 rfl) ?_
  refine lv_iconst (v := 1) hx hb dJ6_bitCount_0f7a4_2 (by decide) ?_
  refine lv_iushr hx hb dJ6_bitCount_0f7a4_3 rfl ?_
  refine lv_ldcw (v := 1431655765) hx hb hown (hts (.constant RJ6 265 (1431655765)) (List.mem_of_getElem? (i := 1) rfl)) dJ6_bitCount_0f7a4_4 ?_
  refine lv_iand hx hb dJ6_bitCount_0f7a4_7 ?_
  refine lv_isub hx hb dJ6_bitCount_0f7a4_8 ?_
  refine lv_istore_n (lv' := [(0, .int (p0 - (((Int32.toUInt32 p0 >>> (Int32.toUInt32 (1 : Int32) &&& Int32.toUInt32 31)).toInt32) &&& (1431655765 : Int32))))]) hx hb dJ6_bitCount_0f7a4_9 rfl hl (by decide) rfl (fun ls hl => ?_)
  refine lv_iload_n hx hb dJ6_bitCount_0f7a4_10 rfl (lv_at hl 0 rfl) ?_
  refine lv_ldcw (v := 858993459) hx hb hown (hts (.constant RJ6 266 (858993459)) (List.mem_of_getElem? (i := 2) rfl)) dJ6_bitCount_0f7a4_11 ?_
  refine lv_iand hx hb dJ6_bitCount_0f7a4_14 ?_
  refine lv_iload_n hx hb dJ6_bitCount_0f7a4_15 rfl (lv_at hl 0 rfl) ?_
  refine lv_iconst (v := 2) hx hb dJ6_bitCount_0f7a4_16 (by decide) ?_
  refine lv_iushr hx hb dJ6_bitCount_0f7a4_17 rfl ?_
  refine lv_ldcw (v := 858993459) hx hb hown (hts (.constant RJ6 266 (858993459)) (List.mem_of_getElem? (i := 2) rfl)) dJ6_bitCount_0f7a4_18 ?_
  refine lv_iand hx hb dJ6_bitCount_0f7a4_21 ?_
  refine lv_iadd hx hb dJ6_bitCount_0f7a4_22 ?_
  refine lv_istore_n (lv' := [(0, .int (((p0 - (((Int32.toUInt32 p0 >>> (Int32.toUInt32 (1 : Int32) &&& Int32.toUInt32 31)).toInt32) &&& (1431655765 : Int32))) &&& (858993459 : Int32)) + (((Int32.toUInt32 (p0 - (((Int32.toUInt32 p0 >>> (Int32.toUInt32 (1 : Int32) &&& Int32.toUInt32 31)).toInt32) &&& (1431655765 : Int32))) >>> (Int32.toUInt32 (2 : Int32) &&& Int32.toUInt32 31)).toInt32) &&& (858993459 : Int32))))]) hx hb dJ6_bitCount_0f7a4_23 rfl hl (by decide) rfl (fun ls hl => ?_)
  refine lv_iload_n hx hb dJ6_bitCount_0f7a4_24 rfl (lv_at hl 0 rfl) ?_
  refine lv_iload_n hx hb dJ6_bitCount_0f7a4_25 rfl (lv_at hl 0 rfl) ?_
  refine lv_iconst (v := 4) hx hb dJ6_bitCount_0f7a4_26 (by decide) ?_
  refine lv_iushr hx hb dJ6_bitCount_0f7a4_27 rfl ?_
  refine lv_iadd hx hb dJ6_bitCount_0f7a4_28 ?_
  refine lv_ldcw (v := 252645135) hx hb hown (hts (.constant RJ6 267 (252645135)) (List.mem_of_getElem? (i := 3) rfl)) dJ6_bitCount_0f7a4_29 ?_
  refine lv_iand hx hb dJ6_bitCount_0f7a4_32 ?_
  refine lv_istore_n (lv' := [(0, .int (((((p0 - (((Int32.toUInt32 p0 >>> (Int32.toUInt32 (1 : Int32) &&& Int32.toUInt32 31)).toInt32) &&& (1431655765 : Int32))) &&& (858993459 : Int32)) + (((Int32.toUInt32 (p0 - (((Int32.toUInt32 p0 >>> (Int32.toUInt32 (1 : Int32) &&& Int32.toUInt32 31)).toInt32) &&& (1431655765 : Int32))) >>> (Int32.toUInt32 (2 : Int32) &&& Int32.toUInt32 31)).toInt32) &&& (858993459 : Int32))) + ((Int32.toUInt32 (((p0 - (((Int32.toUInt32 p0 >>> (Int32.toUInt32 (1 : Int32) &&& Int32.toUInt32 31)).toInt32) &&& (1431655765 : Int32))) &&& (858993459 : Int32)) + (((Int32.toUInt32 (p0 - (((Int32.toUInt32 p0 >>> (Int32.toUInt32 (1 : Int32) &&& Int32.toUInt32 31)).toInt32) &&& (1431655765 : Int32))) >>> (Int32.toUInt32 (2 : Int32) &&& Int32.toUInt32 31)).toInt32) &&& (858993459 : Int32))) >>> (Int32.toUInt32 (4 : Int32) &&& Int32.toUInt32 31)).toInt32)) &&& (252645135 : Int32)))]) hx hb dJ6_bitCount_0f7a4_33 rfl hl (by decide) rfl (fun ls hl => ?_)
  refine lv_iload_n hx hb dJ6_bitCount_0f7a4_34 rfl (lv_at hl 0 rfl) ?_
  refine lv_iload_n hx hb dJ6_bitCount_0f7a4_35 rfl (lv_at hl 0 rfl) ?_
  refine lv_bipush (v := 8) hx hb dJ6_bitCount_0f7a4_36 (by decide) ?_
  refine lv_iushr hx hb dJ6_bitCount_0f7a4_38 rfl ?_
  refine lv_iadd hx hb dJ6_bitCount_0f7a4_39 ?_
  refine lv_istore_n (lv' := [(0, .int ((((((p0 - (((Int32.toUInt32 p0 >>> (Int32.toUInt32 (1 : Int32) &&& Int32.toUInt32 31)).toInt32) &&& (1431655765 : Int32))) &&& (858993459 : Int32)) + (((Int32.toUInt32 (p0 - (((Int32.toUInt32 p0 >>> (Int32.toUInt32 (1 : Int32) &&& Int32.toUInt32 31)).toInt32) &&& (1431655765 : Int32))) >>> (Int32.toUInt32 (2 : Int32) &&& Int32.toUInt32 31)).toInt32) &&& (858993459 : Int32))) + ((Int32.toUInt32 (((p0 - (((Int32.toUInt32 p0 >>> (Int32.toUInt32 (1 : Int32) &&& Int32.toUInt32 31)).toInt32) &&& (1431655765 : Int32))) &&& (858993459 : Int32)) + (((Int32.toUInt32 (p0 - (((Int32.toUInt32 p0 >>> (Int32.toUInt32 (1 : Int32) &&& Int32.toUInt32 31)).toInt32) &&& (1431655765 : Int32))) >>> (Int32.toUInt32 (2 : Int32) &&& Int32.toUInt32 31)).toInt32) &&& (858993459 : Int32))) >>> (Int32.toUInt32 (4 : Int32) &&& Int32.toUInt32 31)).toInt32)) &&& (252645135 : Int32)) + ((Int32.toUInt32 (((((p0 - (((Int32.toUInt32 p0 >>> (Int32.toUInt32 (1 : Int32) &&& Int32.toUInt32 31)).toInt32) &&& (1431655765 : Int32))) &&& (858993459 : Int32)) + (((Int32.toUInt32 (p0 - (((Int32.toUInt32 p0 >>> (Int32.toUInt32 (1 : Int32) &&& Int32.toUInt32 31)).toInt32) &&& (1431655765 : Int32))) >>> (Int32.toUInt32 (2 : Int32) &&& Int32.toUInt32 31)).toInt32) &&& (858993459 : Int32))) + ((Int32.toUInt32 (((p0 - (((Int32.toUInt32 p0 >>> (Int32.toUInt32 (1 : Int32) &&& Int32.toUInt32 31)).toInt32) &&& (1431655765 : Int32))) &&& (858993459 : Int32)) + (((Int32.toUInt32 (p0 - (((Int32.toUInt32 p0 >>> (Int32.toUInt32 (1 : Int32) &&& Int32.toUInt32 31)).toInt32) &&& (1431655765 : Int32))) >>> (Int32.toUInt32 (2 : Int32) &&& Int32.toUInt32 31)).toInt32) &&& (858993459 : Int32))) >>> (Int32.toUInt32 (4 : Int32) &&& Int32.toUInt32 31)).toInt32)) &&& (252645135 : Int32)) >>> (Int32.toUInt32 (8 : Int32) &&& Int32.toUInt32 31)).toInt32)))]) hx hb dJ6_bitCount_0f7a4_40 rfl hl (by decide) rfl (fun ls hl => ?_)
  refine lv_iload_n hx hb dJ6_bitCount_0f7a4_41 rfl (lv_at hl 0 rfl) ?_
  refine lv_iload_n hx hb dJ6_bitCount_0f7a4_42 rfl (lv_at hl 0 rfl) ?_
  refine lv_bipush (v := 16) hx hb dJ6_bitCount_0f7a4_43 (by decide) ?_
  refine lv_iushr hx hb dJ6_bitCount_0f7a4_45 rfl ?_
  refine lv_iadd hx hb dJ6_bitCount_0f7a4_46 ?_
  refine lv_istore_n (lv' := [(0, .int (((((((p0 - (((Int32.toUInt32 p0 >>> (Int32.toUInt32 (1 : Int32) &&& Int32.toUInt32 31)).toInt32) &&& (1431655765 : Int32))) &&& (858993459 : Int32)) + (((Int32.toUInt32 (p0 - (((Int32.toUInt32 p0 >>> (Int32.toUInt32 (1 : Int32) &&& Int32.toUInt32 31)).toInt32) &&& (1431655765 : Int32))) >>> (Int32.toUInt32 (2 : Int32) &&& Int32.toUInt32 31)).toInt32) &&& (858993459 : Int32))) + ((Int32.toUInt32 (((p0 - (((Int32.toUInt32 p0 >>> (Int32.toUInt32 (1 : Int32) &&& Int32.toUInt32 31)).toInt32) &&& (1431655765 : Int32))) &&& (858993459 : Int32)) + (((Int32.toUInt32 (p0 - (((Int32.toUInt32 p0 >>> (Int32.toUInt32 (1 : Int32) &&& Int32.toUInt32 31)).toInt32) &&& (1431655765 : Int32))) >>> (Int32.toUInt32 (2 : Int32) &&& Int32.toUInt32 31)).toInt32) &&& (858993459 : Int32))) >>> (Int32.toUInt32 (4 : Int32) &&& Int32.toUInt32 31)).toInt32)) &&& (252645135 : Int32)) + ((Int32.toUInt32 (((((p0 - (((Int32.toUInt32 p0 >>> (Int32.toUInt32 (1 : Int32) &&& Int32.toUInt32 31)).toInt32) &&& (1431655765 : Int32))) &&& (858993459 : Int32)) + (((Int32.toUInt32 (p0 - (((Int32.toUInt32 p0 >>> (Int32.toUInt32 (1 : Int32) &&& Int32.toUInt32 31)).toInt32) &&& (1431655765 : Int32))) >>> (Int32.toUInt32 (2 : Int32) &&& Int32.toUInt32 31)).toInt32) &&& (858993459 : Int32))) + ((Int32.toUInt32 (((p0 - (((Int32.toUInt32 p0 >>> (Int32.toUInt32 (1 : Int32) &&& Int32.toUInt32 31)).toInt32) &&& (1431655765 : Int32))) &&& (858993459 : Int32)) + (((Int32.toUInt32 (p0 - (((Int32.toUInt32 p0 >>> (Int32.toUInt32 (1 : Int32) &&& Int32.toUInt32 31)).toInt32) &&& (1431655765 : Int32))) >>> (Int32.toUInt32 (2 : Int32) &&& Int32.toUInt32 31)).toInt32) &&& (858993459 : Int32))) >>> (Int32.toUInt32 (4 : Int32) &&& Int32.toUInt32 31)).toInt32)) &&& (252645135 : Int32)) >>> (Int32.toUInt32 (8 : Int32) &&& Int32.toUInt32 31)).toInt32)) + ((Int32.toUInt32 ((((((p0 - (((Int32.toUInt32 p0 >>> (Int32.toUInt32 (1 : Int32) &&& Int32.toUInt32 31)).toInt32) &&& (1431655765 : Int32))) &&& (858993459 : Int32)) + (((Int32.toUInt32 (p0 - (((Int32.toUInt32 p0 >>> (Int32.toUInt32 (1 : Int32) &&& Int32.toUInt32 31)).toInt32) &&& (1431655765 : Int32))) >>> (Int32.toUInt32 (2 : Int32) &&& Int32.toUInt32 31)).toInt32) &&& (858993459 : Int32))) + ((Int32.toUInt32 (((p0 - (((Int32.toUInt32 p0 >>> (Int32.toUInt32 (1 : Int32) &&& Int32.toUInt32 31)).toInt32) &&& (1431655765 : Int32))) &&& (858993459 : Int32)) + (((Int32.toUInt32 (p0 - (((Int32.toUInt32 p0 >>> (Int32.toUInt32 (1 : Int32) &&& Int32.toUInt32 31)).toInt32) &&& (1431655765 : Int32))) >>> (Int32.toUInt32 (2 : Int32) &&& Int32.toUInt32 31)).toInt32) &&& (858993459 : Int32))) >>> (Int32.toUInt32 (4 : Int32) &&& Int32.toUInt32 31)).toInt32)) &&& (252645135 : Int32)) + ((Int32.toUInt32 (((((p0 - (((Int32.toUInt32 p0 >>> (Int32.toUInt32 (1 : Int32) &&& Int32.toUInt32 31)).toInt32) &&& (1431655765 : Int32))) &&& (858993459 : Int32)) + (((Int32.toUInt32 (p0 - (((Int32.toUInt32 p0 >>> (Int32.toUInt32 (1 : Int32) &&& Int32.toUInt32 31)).toInt32) &&& (1431655765 : Int32))) >>> (Int32.toUInt32 (2 : Int32) &&& Int32.toUInt32 31)).toInt32) &&& (858993459 : Int32))) + ((Int32.toUInt32 (((p0 - (((Int32.toUInt32 p0 >>> (Int32.toUInt32 (1 : Int32) &&& Int32.toUInt32 31)).toInt32) &&& (1431655765 : Int32))) &&& (858993459 : Int32)) + (((Int32.toUInt32 (p0 - (((Int32.toUInt32 p0 >>> (Int32.toUInt32 (1 : Int32) &&& Int32.toUInt32 31)).toInt32) &&& (1431655765 : Int32))) >>> (Int32.toUInt32 (2 : Int32) &&& Int32.toUInt32 31)).toInt32) &&& (858993459 : Int32))) >>> (Int32.toUInt32 (4 : Int32) &&& Int32.toUInt32 31)).toInt32)) &&& (252645135 : Int32)) >>> (Int32.toUInt32 (8 : Int32) &&& Int32.toUInt32 31)).toInt32)) >>> (Int32.toUInt32 (16 : Int32) &&& Int32.toUInt32 31)).toInt32)))]) hx hb dJ6_bitCount_0f7a4_47 rfl hl (by decide) rfl (fun ls hl => ?_)
  refine lv_iload_n hx hb dJ6_bitCount_0f7a4_48 rfl (lv_at hl 0 rfl) ?_
  refine lv_bipush (v := 63) hx hb dJ6_bitCount_0f7a4_49 (by decide) ?_
  refine lv_iand hx hb dJ6_bitCount_0f7a4_51 ?_
  exact k_iretR hx hb hr (Option.some.inj hN) hP hS hlk dJ6_bitCount_0f7a4_52
set_option maxHeartbeats 4000000 in
set_option maxRecDepth 100000 in
theorem c_X3_setOf (l : Launch) (g : Gm) (L : List Nat) {A : Nat → Prop} (hL : kL L A) (G : Nat → va_E) (p0 : Int32) (v : Int64) (hF : F_X3_setOf p0 = some v) : Met l yX3_setOf wsX3_setOf ({ frames := 0, cells := 0, slots := 0, locals := 0 } : Room) (va_Pc [.int p0] (kB g L A G)) (va_Ql (fun x9 (G9 : Nat → va_E) => x9 = v ∧ G9 = G) (kE g L) A) 0 0 A := by
  refine Met.ofW (cc := cX3_setOf) (maxL := 1) (ret := (some .long)) (by decide) rfl ?_
  intro p e s m args below meth c s₁ B hml hv
  obtain ⟨rfl, hP, hC⟩ := hv
  have hx := B.exec
  have hb := B.bytes
  have hr := B.returns
  have hts := atoms_spec (ws := wsX3_setOf) B.pre
  have hown : s.vm.findClass RX3 = some m.cls := findClass_of_methodNamed B.named
  have hlk := B.notSynchronized
  have hS : va_S A s.heap s.heap [] := va_S.rf
  have hl := lv_entry ([.int p0]) (n := 1) (Nat.le_of_ble_eq_true rfl)
  rw [lg_entry_eq]
  generalize (lg_sl ([.int p0]) ++ List.replicate (1 - (lg_sl ([.int p0])).length) Slot.unset).toArray = ls at hl ⊢
  have hl : lv_has ls 1 [(0, .int p0)] := hl
  have hN := hF
  unfold F_X3_setOf at hN
  refine lv_iload_n hx hb dX3_setOf_0 rfl (lv_at hl 0 rfl) ?_
  refine lv_if_ge (tgt := 8) hx hb dX3_setOf_1 (by decide) (fun c1 => ?_) (fun c1 => ?_)
  · rw [if_pos c1] at hN
    refine lv_lconst (v := 1) hx hb dX3_setOf_8 (by decide) ?_
    refine lv_iload_n hx hb dX3_setOf_9 rfl (lv_at hl 0 rfl) ?_
    refine lv_lshl hx hb dX3_setOf_10 rfl ?_
    exact k_lretR hx hb hr (Option.some.inj hN) hP hS hlk dX3_setOf_11
  · rw [if_neg c1] at hN
    refine lv_lconst (v := 0) hx hb dX3_setOf_4 (by decide) ?_
    refine lv_goto (tgt := 11) hx hb dX3_setOf_5 (by decide) ?_
    exact k_lretR hx hb hr (Option.some.inj hN) hP hS hlk dX3_setOf_11
set_option maxHeartbeats 4000000 in
set_option maxRecDepth 100000 in
theorem c_X3_foundOrNot (l : Launch) (g : Gm) (L : List Nat) {A : Nat → Prop} (hL : kL L A) (G : Nat → va_E) (p0 : Int32) (v : Int32) (hF : F_X3_foundOrNot p0 = some v) : Met l yX3_foundOrNot wsX3_foundOrNot ({ frames := 0, cells := 0, slots := 0, locals := 0 } : Room) (va_Pc [.int p0] (kB g L A G)) (va_Qi (fun x9 (G9 : Nat → va_E) => x9 = v ∧ G9 = G) (kE g L) A) 0 0 A := by
  refine Met.ofW (cc := cX3_foundOrNot) (maxL := 1) (ret := (some .int)) (by decide) rfl ?_
  intro p e s m args below meth c s₁ B hml hv
  obtain ⟨rfl, hP, hC⟩ := hv
  have hx := B.exec
  have hb := B.bytes
  have hr := B.returns
  have hts := atoms_spec (ws := wsX3_foundOrNot) B.pre
  have hown : s.vm.findClass RX3 = some m.cls := findClass_of_methodNamed B.named
  have hlk := B.notSynchronized
  have hS : va_S A s.heap s.heap [] := va_S.rf
  have hl := lv_entry ([.int p0]) (n := 1) (Nat.le_of_ble_eq_true rfl)
  rw [lg_entry_eq]
  generalize (lg_sl ([.int p0]) ++ List.replicate (1 - (lg_sl ([.int p0])).length) Slot.unset).toArray = ls at hl ⊢
  have hl : lv_has ls 1 [(0, .int p0)] := hl
  have hN := hF
  unfold F_X3_foundOrNot at hN
  refine lv_iload_n hx hb dX3_foundOrNot_0 rfl (lv_at hl 0 rfl) ?_
  refine lv_if_ge (tgt := 9) hx hb dX3_foundOrNot_1 (by decide) (fun c1 => ?_) (fun c1 => ?_)
  · rw [if_pos c1] at hN
    refine lv_iload_n hx hb dX3_foundOrNot_9 rfl (lv_at hl 0 rfl) ?_
    exact k_iretR hx hb hr (Option.some.inj hN) hP hS hlk dX3_foundOrNot_10
  · rw [if_neg c1] at hN
    refine lv_ldc (v := (-1000004)) hx hb hown (hts (.constant RX3 133 (-1000004)) (List.mem_of_getElem? (i := 1) rfl)) dX3_foundOrNot_4 ?_
    refine lv_goto (tgt := 10) hx hb dX3_foundOrNot_6 (by decide) ?_
    exact k_iretR hx hb hr (Option.some.inj hN) hP hS hlk dX3_foundOrNot_10
set_option maxHeartbeats 4000000 in
set_option maxRecDepth 100000 in
theorem c_J13_bitCount_95d88 (l : Launch) (g : Gm) (L : List Nat) {A : Nat → Prop} (hL : kL L A) (G : Nat → va_E) (p0 : Int64) (v : Int32) (hF : F_J13_bitCount_95d88 p0 = some v) : Met l yJ13_bitCount_95d88 wsJ13_bitCount_95d88 ({ frames := 0, cells := 0, slots := 0, locals := 0 } : Room) (va_Pc [.long p0] (kB g L A G)) (va_Qi (fun x9 (G9 : Nat → va_E) => x9 = v ∧ G9 = G) (kE g L) A) 0 0 A := by
  refine Met.ofW (cc := cJ13_bitCount_95d88) (maxL := 2) (ret := (some .int)) (by decide) rfl ?_
  intro p e s m args below meth c s₁ B hml hv
  obtain ⟨rfl, hP, hC⟩ := hv
  have hx := B.exec
  have hb := B.bytes
  have hr := B.returns
  have hts := atoms_spec (ws := wsJ13_bitCount_95d88) B.pre
  have hown : s.vm.findClass RJ13 = some m.cls := findClass_of_methodNamed B.named
  have hlk := B.notSynchronized
  have hS : va_S A s.heap s.heap [] := va_S.rf
  have hl := lv_entry ([.long p0]) (n := 2) (Nat.le_of_ble_eq_true rfl)
  rw [lg_entry_eq]
  generalize (lg_sl ([.long p0]) ++ List.replicate (2 - (lg_sl ([.long p0])).length) Slot.unset).toArray = ls at hl ⊢
  have hl : lv_has ls 2 [(0, .long p0)] := hl
  have hN := hF
  unfold F_J13_bitCount_95d88 at hN
  refine lv_lload_n hx hb dJ13_bitCount_95d88_0 rfl (lv_at hl 0 rfl) ?_
  refine lv_lload_n hx hb dJ13_bitCount_95d88_1 rfl (lv_at hl 0 rfl) ?_
  refine lv_iconst (v := 1) hx hb dJ13_bitCount_95d88_2 (by decide) ?_
  refine lv_lushr hx hb dJ13_bitCount_95d88_3 rfl ?_
  refine lv_ldc2 (v := 6148914691236517205) hx hb hown (hts (.constantLong RJ13 314 (6148914691236517205)) (List.mem_of_getElem? (i := 1) rfl)) dJ13_bitCount_95d88_4 ?_
  refine lv_land hx hb dJ13_bitCount_95d88_7 ?_
  refine lv_lsub hx hb dJ13_bitCount_95d88_8 ?_
  refine lv_lstore_n (lv' := [(0, .long (p0 - (((Int64.toUInt64 p0 >>> ((Int32.toInt64 (1 : Int32)).toUInt64 &&& Int64.toUInt64 63)).toInt64) &&& (6148914691236517205 : Int64))))]) hx hb dJ13_bitCount_95d88_9 rfl hl (by decide) rfl (fun ls hl => ?_)
  refine lv_lload_n hx hb dJ13_bitCount_95d88_10 rfl (lv_at hl 0 rfl) ?_
  refine lv_ldc2 (v := 3689348814741910323) hx hb hown (hts (.constantLong RJ13 316 (3689348814741910323)) (List.mem_of_getElem? (i := 2) rfl)) dJ13_bitCount_95d88_11 ?_
  refine lv_land hx hb dJ13_bitCount_95d88_14 ?_
  refine lv_lload_n hx hb dJ13_bitCount_95d88_15 rfl (lv_at hl 0 rfl) ?_
  refine lv_iconst (v := 2) hx hb dJ13_bitCount_95d88_16 (by decide) ?_
  refine lv_lushr hx hb dJ13_bitCount_95d88_17 rfl ?_
  refine lv_ldc2 (v := 3689348814741910323) hx hb hown (hts (.constantLong RJ13 316 (3689348814741910323)) (List.mem_of_getElem? (i := 2) rfl)) dJ13_bitCount_95d88_18 ?_
  refine lv_land hx hb dJ13_bitCount_95d88_21 ?_
  refine lv_ladd hx hb dJ13_bitCount_95d88_22 ?_
  refine lv_lstore_n (lv' := [(0, .long (((p0 - (((Int64.toUInt64 p0 >>> ((Int32.toInt64 (1 : Int32)).toUInt64 &&& Int64.toUInt64 63)).toInt64) &&& (6148914691236517205 : Int64))) &&& (3689348814741910323 : Int64)) + (((Int64.toUInt64 (p0 - (((Int64.toUInt64 p0 >>> ((Int32.toInt64 (1 : Int32)).toUInt64 &&& Int64.toUInt64 63)).toInt64) &&& (6148914691236517205 : Int64))) >>> ((Int32.toInt64 (2 : Int32)).toUInt64 &&& Int64.toUInt64 63)).toInt64) &&& (3689348814741910323 : Int64))))]) hx hb dJ13_bitCount_95d88_23 rfl hl (by decide) rfl (fun ls hl => ?_)
  refine lv_lload_n hx hb dJ13_bitCount_95d88_24 rfl (lv_at hl 0 rfl) ?_
  refine lv_lload_n hx hb dJ13_bitCount_95d88_25 rfl (lv_at hl 0 rfl) ?_
  refine lv_iconst (v := 4) hx hb dJ13_bitCount_95d88_26 (by decide) ?_
  refine lv_lushr hx hb dJ13_bitCount_95d88_27 rfl ?_
  refine lv_ladd hx hb dJ13_bitCount_95d88_28 ?_
  refine lv_ldc2 (v := 1085102592571150095) hx hb hown (hts (.constantLong RJ13 318 (1085102592571150095)) (List.mem_of_getElem? (i := 3) rfl)) dJ13_bitCount_95d88_29 ?_
  refine lv_land hx hb dJ13_bitCount_95d88_32 ?_
  refine lv_lstore_n (lv' := [(0, .long (((((p0 - (((Int64.toUInt64 p0 >>> ((Int32.toInt64 (1 : Int32)).toUInt64 &&& Int64.toUInt64 63)).toInt64) &&& (6148914691236517205 : Int64))) &&& (3689348814741910323 : Int64)) + (((Int64.toUInt64 (p0 - (((Int64.toUInt64 p0 >>> ((Int32.toInt64 (1 : Int32)).toUInt64 &&& Int64.toUInt64 63)).toInt64) &&& (6148914691236517205 : Int64))) >>> ((Int32.toInt64 (2 : Int32)).toUInt64 &&& Int64.toUInt64 63)).toInt64) &&& (3689348814741910323 : Int64))) + ((Int64.toUInt64 (((p0 - (((Int64.toUInt64 p0 >>> ((Int32.toInt64 (1 : Int32)).toUInt64 &&& Int64.toUInt64 63)).toInt64) &&& (6148914691236517205 : Int64))) &&& (3689348814741910323 : Int64)) + (((Int64.toUInt64 (p0 - (((Int64.toUInt64 p0 >>> ((Int32.toInt64 (1 : Int32)).toUInt64 &&& Int64.toUInt64 63)).toInt64) &&& (6148914691236517205 : Int64))) >>> ((Int32.toInt64 (2 : Int32)).toUInt64 &&& Int64.toUInt64 63)).toInt64) &&& (3689348814741910323 : Int64))) >>> ((Int32.toInt64 (4 : Int32)).toUInt64 &&& Int64.toUInt64 63)).toInt64)) &&& (1085102592571150095 : Int64)))]) hx hb dJ13_bitCount_95d88_33 rfl hl (by decide) rfl (fun ls hl => ?_)
  refine lv_lload_n hx hb dJ13_bitCount_95d88_34 rfl (lv_at hl 0 rfl) ?_
  refine lv_lload_n hx hb dJ13_bitCount_95d88_35 rfl (lv_at hl 0 rfl) ?_
  refine lv_bipush (v := 8) hx hb dJ13_bitCount_95d88_36 (by decide) ?_
  refine lv_lushr hx hb dJ13_bitCount_95d88_38 rfl ?_
  refine lv_ladd hx hb dJ13_bitCount_95d88_39 ?_
  refine lv_lstore_n (lv' := [(0, .long ((((((p0 - (((Int64.toUInt64 p0 >>> ((Int32.toInt64 (1 : Int32)).toUInt64 &&& Int64.toUInt64 63)).toInt64) &&& (6148914691236517205 : Int64))) &&& (3689348814741910323 : Int64)) + (((Int64.toUInt64 (p0 - (((Int64.toUInt64 p0 >>> ((Int32.toInt64 (1 : Int32)).toUInt64 &&& Int64.toUInt64 63)).toInt64) &&& (6148914691236517205 : Int64))) >>> ((Int32.toInt64 (2 : Int32)).toUInt64 &&& Int64.toUInt64 63)).toInt64) &&& (3689348814741910323 : Int64))) + ((Int64.toUInt64 (((p0 - (((Int64.toUInt64 p0 >>> ((Int32.toInt64 (1 : Int32)).toUInt64 &&& Int64.toUInt64 63)).toInt64) &&& (6148914691236517205 : Int64))) &&& (3689348814741910323 : Int64)) + (((Int64.toUInt64 (p0 - (((Int64.toUInt64 p0 >>> ((Int32.toInt64 (1 : Int32)).toUInt64 &&& Int64.toUInt64 63)).toInt64) &&& (6148914691236517205 : Int64))) >>> ((Int32.toInt64 (2 : Int32)).toUInt64 &&& Int64.toUInt64 63)).toInt64) &&& (3689348814741910323 : Int64))) >>> ((Int32.toInt64 (4 : Int32)).toUInt64 &&& Int64.toUInt64 63)).toInt64)) &&& (1085102592571150095 : Int64)) + ((Int64.toUInt64 (((((p0 - (((Int64.toUInt64 p0 >>> ((Int32.toInt64 (1 : Int32)).toUInt64 &&& Int64.toUInt64 63)).toInt64) &&& (6148914691236517205 : Int64))) &&& (3689348814741910323 : Int64)) + (((Int64.toUInt64 (p0 - (((Int64.toUInt64 p0 >>> ((Int32.toInt64 (1 : Int32)).toUInt64 &&& Int64.toUInt64 63)).toInt64) &&& (6148914691236517205 : Int64))) >>> ((Int32.toInt64 (2 : Int32)).toUInt64 &&& Int64.toUInt64 63)).toInt64) &&& (3689348814741910323 : Int64))) + ((Int64.toUInt64 (((p0 - (((Int64.toUInt64 p0 >>> ((Int32.toInt64 (1 : Int32)).toUInt64 &&& Int64.toUInt64 63)).toInt64) &&& (6148914691236517205 : Int64))) &&& (3689348814741910323 : Int64)) + (((Int64.toUInt64 (p0 - (((Int64.toUInt64 p0 >>> ((Int32.toInt64 (1 : Int32)).toUInt64 &&& Int64.toUInt64 63)).toInt64) &&& (6148914691236517205 : Int64))) >>> ((Int32.toInt64 (2 : Int32)).toUInt64 &&& Int64.toUInt64 63)).toInt64) &&& (3689348814741910323 : Int64))) >>> ((Int32.toInt64 (4 : Int32)).toUInt64 &&& Int64.toUInt64 63)).toInt64)) &&& (1085102592571150095 : Int64)) >>> ((Int32.toInt64 (8 : Int32)).toUInt64 &&& Int64.toUInt64 63)).toInt64)))]) hx hb dJ13_bitCount_95d88_40 rfl hl (by decide) rfl (fun ls hl => ?_)
  refine lv_lload_n hx hb dJ13_bitCount_95d88_41 rfl (lv_at hl 0 rfl) ?_
  refine lv_lload_n hx hb dJ13_bitCount_95d88_42 rfl (lv_at hl 0 rfl) ?_
  refine lv_bipush (v := 16) hx hb dJ13_bitCount_95d88_43 (by decide) ?_
  refine lv_lushr hx hb dJ13_bitCount_95d88_45 rfl ?_
  refine lv_ladd hx hb dJ13_bitCount_95d88_46 ?_
  refine lv_lstore_n (lv' := [(0, .long (((((((p0 - (((Int64.toUInt64 p0 >>> ((Int32.toInt64 (1 : Int32)).toUInt64 &&& Int64.toUInt64 63)).toInt64) &&& (6148914691236517205 : Int64))) &&& (3689348814741910323 : Int64)) + (((Int64.toUInt64 (p0 - (((Int64.toUInt64 p0 >>> ((Int32.toInt64 (1 : Int32)).toUInt64 &&& Int64.toUInt64 63)).toInt64) &&& (6148914691236517205 : Int64))) >>> ((Int32.toInt64 (2 : Int32)).toUInt64 &&& Int64.toUInt64 63)).toInt64) &&& (3689348814741910323 : Int64))) + ((Int64.toUInt64 (((p0 - (((Int64.toUInt64 p0 >>> ((Int32.toInt64 (1 : Int32)).toUInt64 &&& Int64.toUInt64 63)).toInt64) &&& (6148914691236517205 : Int64))) &&& (3689348814741910323 : Int64)) + (((Int64.toUInt64 (p0 - (((Int64.toUInt64 p0 >>> ((Int32.toInt64 (1 : Int32)).toUInt64 &&& Int64.toUInt64 63)).toInt64) &&& (6148914691236517205 : Int64))) >>> ((Int32.toInt64 (2 : Int32)).toUInt64 &&& Int64.toUInt64 63)).toInt64) &&& (3689348814741910323 : Int64))) >>> ((Int32.toInt64 (4 : Int32)).toUInt64 &&& Int64.toUInt64 63)).toInt64)) &&& (1085102592571150095 : Int64)) + ((Int64.toUInt64 (((((p0 - (((Int64.toUInt64 p0 >>> ((Int32.toInt64 (1 : Int32)).toUInt64 &&& Int64.toUInt64 63)).toInt64) &&& (6148914691236517205 : Int64))) &&& (3689348814741910323 : Int64)) + (((Int64.toUInt64 (p0 - (((Int64.toUInt64 p0 >>> ((Int32.toInt64 (1 : Int32)).toUInt64 &&& Int64.toUInt64 63)).toInt64) &&& (6148914691236517205 : Int64))) >>> ((Int32.toInt64 (2 : Int32)).toUInt64 &&& Int64.toUInt64 63)).toInt64) &&& (3689348814741910323 : Int64))) + ((Int64.toUInt64 (((p0 - (((Int64.toUInt64 p0 >>> ((Int32.toInt64 (1 : Int32)).toUInt64 &&& Int64.toUInt64 63)).toInt64) &&& (6148914691236517205 : Int64))) &&& (3689348814741910323 : Int64)) + (((Int64.toUInt64 (p0 - (((Int64.toUInt64 p0 >>> ((Int32.toInt64 (1 : Int32)).toUInt64 &&& Int64.toUInt64 63)).toInt64) &&& (6148914691236517205 : Int64))) >>> ((Int32.toInt64 (2 : Int32)).toUInt64 &&& Int64.toUInt64 63)).toInt64) &&& (3689348814741910323 : Int64))) >>> ((Int32.toInt64 (4 : Int32)).toUInt64 &&& Int64.toUInt64 63)).toInt64)) &&& (1085102592571150095 : Int64)) >>> ((Int32.toInt64 (8 : Int32)).toUInt64 &&& Int64.toUInt64 63)).toInt64)) + ((Int64.toUInt64 ((((((p0 - (((Int64.toUInt64 p0 >>> ((Int32.toInt64 (1 : Int32)).toUInt64 &&& Int64.toUInt64 63)).toInt64) &&& (6148914691236517205 : Int64))) &&& (3689348814741910323 : Int64)) + (((Int64.toUInt64 (p0 - (((Int64.toUInt64 p0 >>> ((Int32.toInt64 (1 : Int32)).toUInt64 &&& Int64.toUInt64 63)).toInt64) &&& (6148914691236517205 : Int64))) >>> ((Int32.toInt64 (2 : Int32)).toUInt64 &&& Int64.toUInt64 63)).toInt64) &&& (3689348814741910323 : Int64))) + ((Int64.toUInt64 (((p0 - (((Int64.toUInt64 p0 >>> ((Int32.toInt64 (1 : Int32)).toUInt64 &&& Int64.toUInt64 63)).toInt64) &&& (6148914691236517205 : Int64))) &&& (3689348814741910323 : Int64)) + (((Int64.toUInt64 (p0 - (((Int64.toUInt64 p0 >>> ((Int32.toInt64 (1 : Int32)).toUInt64 &&& Int64.toUInt64 63)).toInt64) &&& (6148914691236517205 : Int64))) >>> ((Int32.toInt64 (2 : Int32)).toUInt64 &&& Int64.toUInt64 63)).toInt64) &&& (3689348814741910323 : Int64))) >>> ((Int32.toInt64 (4 : Int32)).toUInt64 &&& Int64.toUInt64 63)).toInt64)) &&& (1085102592571150095 : Int64)) + ((Int64.toUInt64 (((((p0 - (((Int64.toUInt64 p0 >>> ((Int32.toInt64 (1 : Int32)).toUInt64 &&& Int64.toUInt64 63)).toInt64) &&& (6148914691236517205 : Int64))) &&& (3689348814741910323 : Int64)) + (((Int64.toUInt64 (p0 - (((Int64.toUInt64 p0 >>> ((Int32.toInt64 (1 : Int32)).toUInt64 &&& Int64.toUInt64 63)).toInt64) &&& (6148914691236517205 : Int64))) >>> ((Int32.toInt64 (2 : Int32)).toUInt64 &&& Int64.toUInt64 63)).toInt64) &&& (3689348814741910323 : Int64))) + ((Int64.toUInt64 (((p0 - (((Int64.toUInt64 p0 >>> ((Int32.toInt64 (1 : Int32)).toUInt64 &&& Int64.toUInt64 63)).toInt64) &&& (6148914691236517205 : Int64))) &&& (3689348814741910323 : Int64)) + (((Int64.toUInt64 (p0 - (((Int64.toUInt64 p0 >>> ((Int32.toInt64 (1 : Int32)).toUInt64 &&& Int64.toUInt64 63)).toInt64) &&& (6148914691236517205 : Int64))) >>> ((Int32.toInt64 (2 : Int32)).toUInt64 &&& Int64.toUInt64 63)).toInt64) &&& (3689348814741910323 : Int64))) >>> ((Int32.toInt64 (4 : Int32)).toUInt64 &&& Int64.toUInt64 63)).toInt64)) &&& (1085102592571150095 : Int64)) >>> ((Int32.toInt64 (8 : Int32)).toUInt64 &&& Int64.toUInt64 63)).toInt64)) >>> ((Int32.toInt64 (16 : Int32)).toUInt64 &&& Int64.toUInt64 63)).toInt64)))]) hx hb dJ13_bitCount_95d88_47 rfl hl (by decide) rfl (fun ls hl => ?_)
  refine lv_lload_n hx hb dJ13_bitCount_95d88_48 rfl (lv_at hl 0 rfl) ?_
  refine lv_lload_n hx hb dJ13_bitCount_95d88_49 rfl (lv_at hl 0 rfl) ?_
  refine lv_bipush (v := 32) hx hb dJ13_bitCount_95d88_50 (by decide) ?_
  refine lv_lushr hx hb dJ13_bitCount_95d88_52 rfl ?_
  refine lv_ladd hx hb dJ13_bitCount_95d88_53 ?_
  refine lv_lstore_n (lv' := [(0, .long ((((((((p0 - (((Int64.toUInt64 p0 >>> ((Int32.toInt64 (1 : Int32)).toUInt64 &&& Int64.toUInt64 63)).toInt64) &&& (6148914691236517205 : Int64))) &&& (3689348814741910323 : Int64)) + (((Int64.toUInt64 (p0 - (((Int64.toUInt64 p0 >>> ((Int32.toInt64 (1 : Int32)).toUInt64 &&& Int64.toUInt64 63)).toInt64) &&& (6148914691236517205 : Int64))) >>> ((Int32.toInt64 (2 : Int32)).toUInt64 &&& Int64.toUInt64 63)).toInt64) &&& (3689348814741910323 : Int64))) + ((Int64.toUInt64 (((p0 - (((Int64.toUInt64 p0 >>> ((Int32.toInt64 (1 : Int32)).toUInt64 &&& Int64.toUInt64 63)).toInt64) &&& (6148914691236517205 : Int64))) &&& (3689348814741910323 : Int64)) + (((Int64.toUInt64 (p0 - (((Int64.toUInt64 p0 >>> ((Int32.toInt64 (1 : Int32)).toUInt64 &&& Int64.toUInt64 63)).toInt64) &&& (6148914691236517205 : Int64))) >>> ((Int32.toInt64 (2 : Int32)).toUInt64 &&& Int64.toUInt64 63)).toInt64) &&& (3689348814741910323 : Int64))) >>> ((Int32.toInt64 (4 : Int32)).toUInt64 &&& Int64.toUInt64 63)).toInt64)) &&& (1085102592571150095 : Int64)) + ((Int64.toUInt64 (((((p0 - (((Int64.toUInt64 p0 >>> ((Int32.toInt64 (1 : Int32)).toUInt64 &&& Int64.toUInt64 63)).toInt64) &&& (6148914691236517205 : Int64))) &&& (3689348814741910323 : Int64)) + (((Int64.toUInt64 (p0 - (((Int64.toUInt64 p0 >>> ((Int32.toInt64 (1 : Int32)).toUInt64 &&& Int64.toUInt64 63)).toInt64) &&& (6148914691236517205 : Int64))) >>> ((Int32.toInt64 (2 : Int32)).toUInt64 &&& Int64.toUInt64 63)).toInt64) &&& (3689348814741910323 : Int64))) + ((Int64.toUInt64 (((p0 - (((Int64.toUInt64 p0 >>> ((Int32.toInt64 (1 : Int32)).toUInt64 &&& Int64.toUInt64 63)).toInt64) &&& (6148914691236517205 : Int64))) &&& (3689348814741910323 : Int64)) + (((Int64.toUInt64 (p0 - (((Int64.toUInt64 p0 >>> ((Int32.toInt64 (1 : Int32)).toUInt64 &&& Int64.toUInt64 63)).toInt64) &&& (6148914691236517205 : Int64))) >>> ((Int32.toInt64 (2 : Int32)).toUInt64 &&& Int64.toUInt64 63)).toInt64) &&& (3689348814741910323 : Int64))) >>> ((Int32.toInt64 (4 : Int32)).toUInt64 &&& Int64.toUInt64 63)).toInt64)) &&& (1085102592571150095 : Int64)) >>> ((Int32.toInt64 (8 : Int32)).toUInt64 &&& Int64.toUInt64 63)).toInt64)) + ((Int64.toUInt64 ((((((p0 - (((Int64.toUInt64 p0 >>> ((Int32.toInt64 (1 : Int32)).toUInt64 &&& Int64.toUInt64 63)).toInt64) &&& (6148914691236517205 : Int64))) &&& (3689348814741910323 : Int64)) + (((Int64.toUInt64 (p0 - (((Int64.toUInt64 p0 >>> ((Int32.toInt64 (1 : Int32)).toUInt64 &&& Int64.toUInt64 63)).toInt64) &&& (6148914691236517205 : Int64))) >>> ((Int32.toInt64 (2 : Int32)).toUInt64 &&& Int64.toUInt64 63)).toInt64) &&& (3689348814741910323 : Int64))) + ((Int64.toUInt64 (((p0 - (((Int64.toUInt64 p0 >>> ((Int32.toInt64 (1 : Int32)).toUInt64 &&& Int64.toUInt64 63)).toInt64) &&& (6148914691236517205 : Int64))) &&& (3689348814741910323 : Int64)) + (((Int64.toUInt64 (p0 - (((Int64.toUInt64 p0 >>> ((Int32.toInt64 (1 : Int32)).toUInt64 &&& Int64.toUInt64 63)).toInt64) &&& (6148914691236517205 : Int64))) >>> ((Int32.toInt64 (2 : Int32)).toUInt64 &&& Int64.toUInt64 63)).toInt64) &&& (3689348814741910323 : Int64))) >>> ((Int32.toInt64 (4 : Int32)).toUInt64 &&& Int64.toUInt64 63)).toInt64)) &&& (1085102592571150095 : Int64)) + ((Int64.toUInt64 (((((p0 - (((Int64.toUInt64 p0 >>> ((Int32.toInt64 (1 : Int32)).toUInt64 &&& Int64.toUInt64 63)).toInt64) &&& (6148914691236517205 : Int64))) &&& (3689348814741910323 : Int64)) + (((Int64.toUInt64 (p0 - (((Int64.toUInt64 p0 >>> ((Int32.toInt64 (1 : Int32)).toUInt64 &&& Int64.toUInt64 63)).toInt64) &&& (6148914691236517205 : Int64))) >>> ((Int32.toInt64 (2 : Int32)).toUInt64 &&& Int64.toUInt64 63)).toInt64) &&& (3689348814741910323 : Int64))) + ((Int64.toUInt64 (((p0 - (((Int64.toUInt64 p0 >>> ((Int32.toInt64 (1 : Int32)).toUInt64 &&& Int64.toUInt64 63)).toInt64) &&& (6148914691236517205 : Int64))) &&& (3689348814741910323 : Int64)) + (((Int64.toUInt64 (p0 - (((Int64.toUInt64 p0 >>> ((Int32.toInt64 (1 : Int32)).toUInt64 &&& Int64.toUInt64 63)).toInt64) &&& (6148914691236517205 : Int64))) >>> ((Int32.toInt64 (2 : Int32)).toUInt64 &&& Int64.toUInt64 63)).toInt64) &&& (3689348814741910323 : Int64))) >>> ((Int32.toInt64 (4 : Int32)).toUInt64 &&& Int64.toUInt64 63)).toInt64)) &&& (1085102592571150095 : Int64)) >>> ((Int32.toInt64 (8 : Int32)).toUInt64 &&& Int64.toUInt64 63)).toInt64)) >>> ((Int32.toInt64 (16 : Int32)).toUInt64 &&& Int64.toUInt64 63)).toInt64)) + ((Int64.toUInt64 (((((((p0 - (((Int64.toUInt64 p0 >>> ((Int32.toInt64 (1 : Int32)).toUInt64 &&& Int64.toUInt64 63)).toInt64) &&& (6148914691236517205 : Int64))) &&& (3689348814741910323 : Int64)) + (((Int64.toUInt64 (p0 - (((Int64.toUInt64 p0 >>> ((Int32.toInt64 (1 : Int32)).toUInt64 &&& Int64.toUInt64 63)).toInt64) &&& (6148914691236517205 : Int64))) >>> ((Int32.toInt64 (2 : Int32)).toUInt64 &&& Int64.toUInt64 63)).toInt64) &&& (3689348814741910323 : Int64))) + ((Int64.toUInt64 (((p0 - (((Int64.toUInt64 p0 >>> ((Int32.toInt64 (1 : Int32)).toUInt64 &&& Int64.toUInt64 63)).toInt64) &&& (6148914691236517205 : Int64))) &&& (3689348814741910323 : Int64)) + (((Int64.toUInt64 (p0 - (((Int64.toUInt64 p0 >>> ((Int32.toInt64 (1 : Int32)).toUInt64 &&& Int64.toUInt64 63)).toInt64) &&& (6148914691236517205 : Int64))) >>> ((Int32.toInt64 (2 : Int32)).toUInt64 &&& Int64.toUInt64 63)).toInt64) &&& (3689348814741910323 : Int64))) >>> ((Int32.toInt64 (4 : Int32)).toUInt64 &&& Int64.toUInt64 63)).toInt64)) &&& (1085102592571150095 : Int64)) + ((Int64.toUInt64 (((((p0 - (((Int64.toUInt64 p0 >>> ((Int32.toInt64 (1 : Int32)).toUInt64 &&& Int64.toUInt64 63)).toInt64) &&& (6148914691236517205 : Int64))) &&& (3689348814741910323 : Int64)) + (((Int64.toUInt64 (p0 - (((Int64.toUInt64 p0 >>> ((Int32.toInt64 (1 : Int32)).toUInt64 &&& Int64.toUInt64 63)).toInt64) &&& (6148914691236517205 : Int64))) >>> ((Int32.toInt64 (2 : Int32)).toUInt64 &&& Int64.toUInt64 63)).toInt64) &&& (3689348814741910323 : Int64))) + ((Int64.toUInt64 (((p0 - (((Int64.toUInt64 p0 >>> ((Int32.toInt64 (1 : Int32)).toUInt64 &&& Int64.toUInt64 63)).toInt64) &&& (6148914691236517205 : Int64))) &&& (3689348814741910323 : Int64)) + (((Int64.toUInt64 (p0 - (((Int64.toUInt64 p0 >>> ((Int32.toInt64 (1 : Int32)).toUInt64 &&& Int64.toUInt64 63)).toInt64) &&& (6148914691236517205 : Int64))) >>> ((Int32.toInt64 (2 : Int32)).toUInt64 &&& Int64.toUInt64 63)).toInt64) &&& (3689348814741910323 : Int64))) >>> ((Int32.toInt64 (4 : Int32)).toUInt64 &&& Int64.toUInt64 63)).toInt64)) &&& (1085102592571150095 : Int64)) >>> ((Int32.toInt64 (8 : Int32)).toUInt64 &&& Int64.toUInt64 63)).toInt64)) + ((Int64.toUInt64 ((((((p0 - (((Int64.toUInt64 p0 >>> ((Int32.toInt64 (1 : Int32)).toUInt64 &&& Int64.toUInt64 63)).toInt64) &&& (6148914691236517205 : Int64))) &&& (3689348814741910323 : Int64)) + (((Int64.toUInt64 (p0 - (((Int64.toUInt64 p0 >>> ((Int32.toInt64 (1 : Int32)).toUInt64 &&& Int64.toUInt64 63)).toInt64) &&& (6148914691236517205 : Int64))) >>> ((Int32.toInt64 (2 : Int32)).toUInt64 &&& Int64.toUInt64 63)).toInt64) &&& (3689348814741910323 : Int64))) + ((Int64.toUInt64 (((p0 - (((Int64.toUInt64 p0 >>> ((Int32.toInt64 (1 : Int32)).toUInt64 &&& Int64.toUInt64 63)).toInt64) &&& (6148914691236517205 : Int64))) &&& (3689348814741910323 : Int64)) + (((Int64.toUInt64 (p0 - (((Int64.toUInt64 p0 >>> ((Int32.toInt64 (1 : Int32)).toUInt64 &&& Int64.toUInt64 63)).toInt64) &&& (6148914691236517205 : Int64))) >>> ((Int32.toInt64 (2 : Int32)).toUInt64 &&& Int64.toUInt64 63)).toInt64) &&& (3689348814741910323 : Int64))) >>> ((Int32.toInt64 (4 : Int32)).toUInt64 &&& Int64.toUInt64 63)).toInt64)) &&& (1085102592571150095 : Int64)) + ((Int64.toUInt64 (((((p0 - (((Int64.toUInt64 p0 >>> ((Int32.toInt64 (1 : Int32)).toUInt64 &&& Int64.toUInt64 63)).toInt64) &&& (6148914691236517205 : Int64))) &&& (3689348814741910323 : Int64)) + (((Int64.toUInt64 (p0 - (((Int64.toUInt64 p0 >>> ((Int32.toInt64 (1 : Int32)).toUInt64 &&& Int64.toUInt64 63)).toInt64) &&& (6148914691236517205 : Int64))) >>> ((Int32.toInt64 (2 : Int32)).toUInt64 &&& Int64.toUInt64 63)).toInt64) &&& (3689348814741910323 : Int64))) + ((Int64.toUInt64 (((p0 - (((Int64.toUInt64 p0 >>> ((Int32.toInt64 (1 : Int32)).toUInt64 &&& Int64.toUInt64 63)).toInt64) &&& (6148914691236517205 : Int64))) &&& (3689348814741910323 : Int64)) + (((Int64.toUInt64 (p0 - (((Int64.toUInt64 p0 >>> ((Int32.toInt64 (1 : Int32)).toUInt64 &&& Int64.toUInt64 63)).toInt64) &&& (6148914691236517205 : Int64))) >>> ((Int32.toInt64 (2 : Int32)).toUInt64 &&& Int64.toUInt64 63)).toInt64) &&& (3689348814741910323 : Int64))) >>> ((Int32.toInt64 (4 : Int32)).toUInt64 &&& Int64.toUInt64 63)).toInt64)) &&& (1085102592571150095 : Int64)) >>> ((Int32.toInt64 (8 : Int32)).toUInt64 &&& Int64.toUInt64 63)).toInt64)) >>> ((Int32.toInt64 (16 : Int32)).toUInt64 &&& Int64.toUInt64 63)).toInt64)) >>> ((Int32.toInt64 (32 : Int32)).toUInt64 &&& Int64.toUInt64 63)).toInt64)))]) hx hb dJ13_bitCount_95d88_54 rfl hl (by decide) rfl (fun ls hl => ?_)
  refine lv_lload_n hx hb dJ13_bitCount_95d88_55 rfl (lv_at hl 0 rfl) ?_
  refine lv_l2i hx hb dJ13_bitCount_95d88_56 rfl ?_
  refine lv_bipush (v := 127) hx hb dJ13_bitCount_95d88_57 (by decide) ?_
  refine lv_iand hx hb dJ13_bitCount_95d88_59 ?_
  exact k_iretR hx hb hr (Option.some.inj hN) hP hS hlk dJ13_bitCount_95d88_60
set_option maxHeartbeats 4000000 in
set_option maxRecDepth 100000 in
theorem c_X3_floatBitsOf64ths (l : Launch) (g : Gm) (L : List Nat) {A : Nat → Prop} (hL : kL L A) (G : Nat → va_E) (p0 : Int32) (v : Int32) (hF : F_X3_floatBitsOf64ths p0 = some v) : Met l yX3_floatBitsOf64ths wsX3_floatBitsOf64ths ({ frames := 0, cells := 0, slots := 0, locals := 0 } : Room) (va_Pc [.int p0] (kB g L A G)) (va_Qi (fun x9 (G9 : Nat → va_E) => x9 = v ∧ G9 = G) (kE g L) A) 0 0 A := by
  refine Met.ofW (cc := cX3_floatBitsOf64ths) (maxL := 3) (ret := (some .int)) (by decide) rfl ?_
  intro p e s m args below meth c s₁ B hml hv
  obtain ⟨rfl, hP, hC⟩ := hv
  have hx := B.exec
  have hb := B.bytes
  have hr := B.returns
  have hts := atoms_spec (ws := wsX3_floatBitsOf64ths) B.pre
  have hown : s.vm.findClass RX3 = some m.cls := findClass_of_methodNamed B.named
  have hlk := B.notSynchronized
  have hS : va_S A s.heap s.heap [] := va_S.rf
  have lp10 : ∀ (n : Nat) (x0 : Int32) (x1 : Int32) (x2 : Int32) (H : Heap) (locs : List Loc) (ls : Array Slot), va_P g.1 vwCl (va_pl L G) H → va_S A s.heap H locs → lv_has ls 3 [(0, .int x0), (1, .int x1), (2, .int x2)] → FL_X3_floatBitsOf64ths_10  n x0 x1 x2 = some v → W p l e (headSpec wsX3_floatBitsOf64ths ({ frames := 0, cells := 0, slots := 0, locals := 0 } : Room)).room s m ([.int p0] : List Value).toArray below meth c H locs 0 0 (MQ below (va_Qi (fun x9 (G9 : Nat → va_E) => x9 = v ∧ G9 = G) (kE g L) A) ([.int p0] : List Value).toArray s 0 0 A) (F0 m 10 ls []) := by
    intro n
    induction n with
    | zero =>
      intro x0 x1 x2 H locs ls hP hS hl hN
      exact absurd hN (by simp [FL_X3_floatBitsOf64ths_10])
    | succ n ih =>
      intro x0 x1 x2 H locs ls hP hS hl hN
      rw [FL_X3_floatBitsOf64ths_10] at hN
      refine lv_iload_n hx hb dX3_floatBitsOf64ths_10 rfl (lv_at hl 2 rfl) ?_
      refine lv_bipush (v := 6) hx hb dX3_floatBitsOf64ths_11 (by decide) ?_
      refine lv_icmp_gt (tgt := 34) hx hb dX3_floatBitsOf64ths_13 (by decide) (fun c2 => ?_) (fun c2 => ?_)
      · rw [if_pos c2] at hN
        refine lv_bipush (v := 127) hx hb dX3_floatBitsOf64ths_34 (by decide) ?_
        refine lv_iload_n hx hb dX3_floatBitsOf64ths_36 rfl (lv_at hl 1 rfl) ?_
        refine lv_iadd hx hb dX3_floatBitsOf64ths_37 ?_
        refine lv_bipush (v := 6) hx hb dX3_floatBitsOf64ths_38 (by decide) ?_
        refine lv_isub hx hb dX3_floatBitsOf64ths_40 ?_
        refine lv_istore_n (lv' := [(2, .int (((127 : Int32) + x1) - (6 : Int32))), (0, .int x0), (1, .int x1)]) hx hb dX3_floatBitsOf64ths_41 rfl hl (by decide) rfl (fun ls hl => ?_)
        refine lv_iload_n hx hb dX3_floatBitsOf64ths_42 rfl (lv_at hl 0 rfl) ?_
        refine lv_bipush (v := 23) hx hb dX3_floatBitsOf64ths_43 (by decide) ?_
        refine lv_ishl hx hb dX3_floatBitsOf64ths_45 ?_
        refine lv_iload_n hx hb dX3_floatBitsOf64ths_46 rfl (lv_at hl 1 rfl) ?_
        refine lv_bipush (v := 23) hx hb dX3_floatBitsOf64ths_47 (by decide) ?_
        refine lv_iload_n hx hb dX3_floatBitsOf64ths_49 rfl (lv_at hl 2 rfl) ?_
        refine lv_isub hx hb dX3_floatBitsOf64ths_50 ?_
        refine lv_ishl hx hb dX3_floatBitsOf64ths_51 ?_
        refine lv_ldc (v := 8388607) hx hb hown (hts (.constant RX3 212 (8388607)) (List.mem_of_getElem? (i := 1) rfl)) dX3_floatBitsOf64ths_52 ?_
        refine lv_iand hx hb dX3_floatBitsOf64ths_54 ?_
        refine lv_ior hx hb dX3_floatBitsOf64ths_55 ?_
        exact k_iretR hx hb hr (Option.some.inj hN) hP hS hlk dX3_floatBitsOf64ths_56
      · rw [if_neg c2] at hN
        refine lv_iload_n hx hb dX3_floatBitsOf64ths_16 rfl (lv_at hl 0 rfl) ?_
        refine lv_iload_n hx hb dX3_floatBitsOf64ths_17 rfl (lv_at hl 2 rfl) ?_
        refine lv_ishr hx hb dX3_floatBitsOf64ths_18 ?_
        refine lv_if_eq (tgt := 26) hx hb dX3_floatBitsOf64ths_19 (by decide) (fun c3 => ?_) (fun c3 => ?_)
        · rw [if_pos c3] at hN
          refine lv_iload_n hx hb dX3_floatBitsOf64ths_26 rfl (lv_at hl 1 rfl) ?_
          refine lv_istore_n (lv' := [(1, .int x1), (0, .int x0), (2, .int x2)]) hx hb dX3_floatBitsOf64ths_27 rfl hl (by decide) rfl (fun ls hl => ?_)
          refine lv_iinc (v := (x2 + 1)) (lv' := [(2, .int (x2 + 1)), (1, .int x1), (0, .int x0)]) hx hb dX3_floatBitsOf64ths_28 hl (k := 2) rfl rfl (by decide) rfl (fun ls hl => ?_)
          refine lv_goto (tgt := 10) hx hb dX3_floatBitsOf64ths_31 (by decide) ?_
          exact ih x0 x1 (x2 + 1)  _ _ _ hP hS (lv_sub hl [2, 1, 0] rfl) hN
        · rw [if_neg c3] at hN
          refine lv_iload_n hx hb dX3_floatBitsOf64ths_22 rfl (lv_at hl 2 rfl) ?_
          refine lv_goto (tgt := 27) hx hb dX3_floatBitsOf64ths_23 (by decide) ?_
          refine lv_istore_n (lv' := [(1, .int x2), (0, .int x0), (2, .int x2)]) hx hb dX3_floatBitsOf64ths_27 rfl hl (by decide) rfl (fun ls hl => ?_)
          refine lv_iinc (v := (x2 + 1)) (lv' := [(2, .int (x2 + 1)), (1, .int x2), (0, .int x0)]) hx hb dX3_floatBitsOf64ths_28 hl (k := 2) rfl rfl (by decide) rfl (fun ls hl => ?_)
          refine lv_goto (tgt := 10) hx hb dX3_floatBitsOf64ths_31 (by decide) ?_
          exact ih x0 x2 (x2 + 1)  _ _ _ hP hS (lv_sub hl [2, 1, 0] rfl) hN
  have hl := lv_entry ([.int p0]) (n := 3) (Nat.le_of_ble_eq_true rfl)
  rw [lg_entry_eq]
  generalize (lg_sl ([.int p0]) ++ List.replicate (3 - (lg_sl ([.int p0])).length) Slot.unset).toArray = ls at hl ⊢
  have hl : lv_has ls 3 [(0, .int p0)] := hl
  have hN := hF
  unfold F_X3_floatBitsOf64ths at hN
  refine lv_iload_n hx hb dX3_floatBitsOf64ths_0 rfl (lv_at hl 0 rfl) ?_
  refine lv_if_gt (tgt := 6) hx hb dX3_floatBitsOf64ths_1 (by decide) (fun c1 => ?_) (fun c1 => ?_)
  · rw [if_pos c1] at hN
    refine lv_iconst (v := 0) hx hb dX3_floatBitsOf64ths_6 (by decide) ?_
    refine lv_istore_n (lv' := [(1, .int (0 : Int32)), (0, .int p0)]) hx hb dX3_floatBitsOf64ths_7 rfl hl (by decide) rfl (fun ls hl => ?_)
    refine lv_iconst (v := 1) hx hb dX3_floatBitsOf64ths_8 (by decide) ?_
    refine lv_istore_n (lv' := [(2, .int (1 : Int32)), (1, .int (0 : Int32)), (0, .int p0)]) hx hb dX3_floatBitsOf64ths_9 rfl hl (by decide) rfl (fun ls hl => ?_)
    exact lp10 fuel p0 (0 : Int32) (1 : Int32)  _ _ _ hP hS (lv_sub hl [2, 1, 0] rfl) hN
  · rw [if_neg c1] at hN
    refine lv_iconst (v := 0) hx hb dX3_floatBitsOf64ths_4 (by decide) ?_
    exact k_iretR hx hb hr (Option.some.inj hN) hP hS hlk dX3_floatBitsOf64ths_5
