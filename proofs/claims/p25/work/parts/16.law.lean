/-! THE CLAIM OUT OF ONE WALK OF THE LAW'S BODY. Your part is whole_start (and what it stands on); all else here is the same for every law, but numbers. -/
def R_law : String := "OrderedClausesLaw"
def lw_P (b : Addr) (xs : List Int32) (args : Array Value) (s : State) : Prop := args = #[.ref b] ∧ s.IntsAt b xs ∧ xs.length ≤ 260 ∧ (Jvm.Cond.and given_1 narrow_1).before args s = true
def lw_Q (_ : Array Value) (s : State) (o : Outcome) (t : State) : Prop := o = .returned (some (.int 1)) ∧ Framed s o t [] 600000 7302250
def lw_Z (below : List Frame) (a : Array Value) (s : State) : State → Prop := fun t => ∃ o, t.status = .running ∧ Ended t below o ∧ lw_Q a s o t
/-- the law's own end, with 1 on the stack, nothing written that was there before, its room as the claim has it -/
theorem lw_ret {p : Program} {l : Launch} {e : Env} {s : State} {m : MethodId} {below : List Frame} {meth : Method} {c : Code} {b : Nat} (hx : p.tables.exec = Jvm.exec) (hb : c.code = code) (hr : meth.sig.returnType = ret) (hlocks : meth.locks = false) {pc : Nat} {H : Heap} {ls : Array Slot} (hdg : decode code pc = .ok (.ireturn, 1)) : W p l e room_1 s m #[Value.ref b] below meth c H [] 600000 7302250 (lw_Z below #[Value.ref b] s) (F0 m pc ls [.int 1]) := by
  intro T hT X
  obtain ⟨fs, hret, hrun, hended, hW, hframe⟩ := X.leave (v := some (.int 1)) (hlocks := hlocks) (fun h => by rw [hr] at h; cases h)
  have hmeth' : T.vm.method? m = some meth := X.method'
  refine ⟨T.setFrames fs, ?_, .returned (some (.int 1)), hrun, hended, rfl, ⟨_, rfl⟩, hW, hframe⟩
  jvm_step X.here [X.here.top, hx, hb, hdg, hmeth', hr, ret, narrow_b1]
  (try refine ⟨rfl, ?_⟩); (try refine ⟨rfl, ?_⟩)
  first | (intro acts; rw [hret _ acts rfl rfl rfl]) | rw [hret _ _ rfl rfl rfl]
  exact Steps.refl _
/-- what holds at the law's entry: the machine, the code, the tables' words (any of lw_tbl by 'hts w (by decide +kernel)'), the script of L ints xs at the cell b, what the Statement gives of the start (any of its parts by flat_of_before) -/
def lw_At (p : Program) (s : State) (m : MethodId) (meth : Method) (c : Code) (b L : Nat) (xs : Nat → Int32) : Prop :=
  p.tables.exec = Jvm.exec ∧ c.code = code ∧ meth.sig.returnType = ret ∧ c.maxLocals = 11 ∧ s.vm.findClass R_law = some m.cls ∧ (∀ w ∈ lw_tbl, w.before #[Value.ref b] s = true) ∧ va_X b L xs s s.heap ∧ b < s.heap.size ∧ meth.locks = false ∧ (Jvm.Cond.and given_1 narrow_1).before #[Value.ref b] s = true
/-! The law: one object, one script, one loop -/
/-- what lot answers, by the script of N ints xs; none of a negative index -/
def lotF (N : Nat) (xs : Nat → Int32) (i : Int32) : Option Int32 := if i < 0 then none else if Int32.ofNat N ≤ i then some (((-1177819801) * (i + 2857)) + 2659) else some (xs i.toNatClampNeg)
theorem lotF_some {N : Nat} {xs : Nat → Int32} : ∀ i : Int32, ¬ i < 0 → ∃ v, lotF N xs i = some v := fun i hi => by
  unfold lotF
  rw [if_neg hi]
  by_cases h : Int32.ofNat N ≤ i
  · exact ⟨_, if_pos h⟩
  · exact ⟨_, if_neg h⟩
theorem lot_in {N : Nat} (hN : N ≤ 260) {i : Int32} (h0 : ¬ i < 0) (h : ¬ Int32.ofNat N ≤ i) : vp_in i N := by
  have h1 : 0 ≤ i.toInt := by
    have := fun q => h0 (Int32.lt_iff_toInt_lt.mpr q)
    simpa using this
  have h2 : ¬ (Int32.ofNat N).toInt ≤ i.toInt := fun q => h (Int32.le_iff_toInt_le.mpr q)
  have h3 : (Int32.ofNat N).toInt = (N : Int) := nI_toInt (by omega)
  rw [h3] at h2
  refine vp_in_iff.mpr ⟨h1, ?_⟩
  omega
set_option maxHeartbeats 4000000 in
set_option maxRecDepth 100000 in
theorem c_L_lot (l : Launch) (b N : Nat) (xs : Nat → Int32) (hN : N ≤ 260) (i v : Int32) (hv : lotF N xs i = some v) : Met l yL_lot wsL_lot ({ frames := 0, cells := 0, slots := 0, locals := 0 } : Room) (va_Pc [.ref b, .int i] (fun U => va_X b N xs U U.heap ∧ b < U.heap.size)) (va_Qi (fun x (_ : Unit) => x = v) (fun _ _ => True) (fun _ => False)) 0 0 (fun _ => False) := by
  refine Met.ofW (cc := cL_lot) (maxL := 2) (ret := some .int) (by decide) rfl ?_
  intro p e s m args below meth c s₁ B hml hv9
  obtain ⟨rfl, hX0, hbl⟩ := hv9
  have hx := B.exec
  have hb := B.bytes
  have hr := B.returns
  have hts := atoms_spec (ws := wsL_lot) B.pre
  have hown : s.vm.findClass RL = some m.cls := findClass_of_methodNamed B.named
  have hlk := B.notSynchronized
  have hS : va_S (fun _ : Nat => False) s.heap s.heap [] := va_S.rf
  have hbA : ¬ (fun _ : Nat => False) b := fun h => h
  have hl := lv_entry ([.ref b, .int i]) (n := 2) (Nat.le_of_ble_eq_true rfl)
  rw [lg_entry_eq]
  generalize (lg_sl ([.ref b, .int i]) ++ List.replicate (2 - (lg_sl ([.ref b, .int i])).length) Slot.unset).toArray = ls at hl ⊢
  have hl : lv_has ls 2 [(0, .ref b), (1, .int i)] := hl
  unfold lotF at hv
  by_cases c0 : i < 0
  · rw [if_pos c0] at hv
    cases hv
  rw [if_neg c0] at hv
  refine lv_iload_n hx hb dL_lot_0 rfl (lv_at hl 1 rfl) ?_
  refine lv_aload_n hx hb dL_lot_1 rfl (lv_at hl 0 rfl) ?_
  refine va_slen hx hb hX0 hbl hbA hS dL_lot_2 ?_
  refine lv_icmp_ge (tgt := 12) hx hb dL_lot_3 (by decide) (fun c1 => ?_) (fun c1 => ?_)
  · rw [if_pos c1] at hv
    refine lv_ldc (v := (-1177819801)) hx hb hown (hts (.constant RL 7 (-1177819801)) (List.mem_of_getElem? (i := 1) rfl)) dL_lot_12 ?_
    refine lv_iload_n hx hb dL_lot_14 rfl (lv_at hl 1 rfl) ?_
    refine lv_sipush (v := 2857) hx hb dL_lot_15 (by decide) ?_
    refine lv_iadd hx hb dL_lot_18 ?_
    refine lv_imul hx hb dL_lot_19 ?_
    refine lv_sipush (v := 2659) hx hb dL_lot_20 (by decide) ?_
    refine lv_iadd hx hb dL_lot_23 ?_
    exact W.iret hx hb hr (fun t ht _ => ⟨⟨_, (), rfl, Option.some.inj hv, trivial⟩, hS.F ht⟩) hS.2.2 dL_lot_24 hlk
  · rw [if_neg c1] at hv
    refine lv_aload_n hx hb dL_lot_6 rfl (lv_at hl 0 rfl) ?_
    refine lv_iload_n hx hb dL_lot_7 rfl (lv_at hl 1 rfl) ?_
    refine va_sld hx hb hX0 hbl hbA hS (lot_in hN c0 c1) dL_lot_8 ?_
    refine lv_goto (tgt := 24) hx hb dL_lot_9 (by decide) ?_
    exact W.iret hx hb hr (fun t ht _ => ⟨⟨_, (), rfl, Option.some.inj hv, trivial⟩, hS.F ht⟩) hS.2.2 dL_lot_24 hlk
section KL
variable {p : Program} {l : Launch} {e : Env} {R : Room} {s : State} {m : MethodId} {args : Array Value} {below : List Frame} {meth : Method} {c : Code} {H : Heap} {locs : List Loc} {cells slots : Nat} {Q : State → Prop} {cc : ByteArray} {pc : Nat} {ls : Array Slot} {rest st0 : List Value} {a : Array Value} {g : Gm} {L : List Nat} {A : Nat → Prop} {G : Nat → va_E}
theorem k_lotc {rv : Int32} (hS : va_S A s.heap H locs) (hP : va_P g.1 vwCl (va_pl L G) H) (hr : va_Run p l e R s m args below meth c H locs cells slots 0 0 (F0 m pc ls st0) rest (va_Qi (fun x (_ : Unit) => x = rv) (fun _ _ => True) (fun _ => False) a) (fun _ => False)) (kk : ∀ (H1 : Heap) (locs1 : List Loc), va_P g.1 vwCl (va_pl L G) H1 → va_S A s.heap H1 locs1 → W p l e R s m args below meth c H1 locs1 cells slots Q (F0 m (pc + 3) ls (.int rv :: rest))) : W p l e R s m args below meth c H locs cells slots Q (F0 m pc ls st0) :=
  va_calli hr hS (fun q _ h => h.elim) (fun q h => h.elim) (fun r u t H1 locs1 ht _ hp hb _ hk hS1 => by
    obtain rfl := hp
    exact kk H1 locs1 (va_P.kept hP (fun k q hq => hk _ (hP k q hq).lt (fun h => h))) hS1)
theorem lot_pre {b N : Nat} {xs : Nat → Int32} {i : Int32} (hX0 : va_X b N xs s s.heap) (hbl : b < s.heap.size) (hbA : ¬ A b) (hS : va_S A s.heap H locs) : PreS s H (va_Pc [.ref b, .int i] (fun U => va_X b N xs U U.heap ∧ b < U.heap.size)) [.ref b, .int i] :=
  ⟨fun a U gg mk q => ⟨q.1, va_X.moved (u := U) (U := U.calling gg mk a) (Vm.Alike.refl U.vm) q.2.1, q.2.2⟩, fun U hU hW => ⟨rfl, by rw [hU]; exact va_X.moved hW.alike (va_X.kept hX0 (hS.2.1 b hbl hbA)), by rw [hU]; exact Nat.lt_of_lt_of_le hbl hS.1⟩⟩
end KL

def FJ_L_law_267 (lt : Int32 → Option Int32) (kk : XS → Int32 → Int32 → Option Int32) (x : XS) (x2 : Int32) (x3 : Int32) : Option (Int32) := kk (x.1, x.2.1, x.2.2.1, x.2.2.2.1, x.2.2.2.2) x2 (x3 + 1)
def FJ_L_law_221 (lt : Int32 → Option Int32) (kk : XS → Int32 → Int32 → Option Int32) (x : XS) (x2 : Int32) (x3 : Int32) : Option (Int32) := if x2 = 0 then FJ_L_law_267 lt kk (x.1, x.2.1, x.2.2.1, x.2.2.2.1, x.2.2.2.2) x2 x3 else oB (iRem x3 (5 : Int32)) fun v30 => if v30 = (4 : Int32) then oB (F_X3_count (x.1, x.2.1, x.2.2.1, x.2.2.2.1, x.2.2.2.2) (8 : Int32)) fun v32 => oB2 (F_X3_undo (x.1, x.2.1, x.2.2.1, x.2.2.2.1, x.2.2.2.2)) fun v34 w35 => if v32 = 0 then if v34 = ((-1000002) : Int32) then FJ_L_law_267 lt kk (w35.1, w35.2.1, w35.2.2.1, w35.2.2.2.1, w35.2.2.2.2) (1 : Int32) x3 else FJ_L_law_267 lt kk (w35.1, w35.2.1, w35.2.2.1, w35.2.2.2.1, w35.2.2.2.2) (0 : Int32) x3 else if v34 = (v32 - (1 : Int32)) then FJ_L_law_267 lt kk (w35.1, w35.2.1, w35.2.2.1, w35.2.2.2.1, w35.2.2.2.2) (1 : Int32) x3 else FJ_L_law_267 lt kk (w35.1, w35.2.1, w35.2.2.1, w35.2.2.2.1, w35.2.2.2.2) (0 : Int32) x3 else FJ_L_law_267 lt kk (x.1, x.2.1, x.2.2.1, x.2.2.2.1, x.2.2.2.2) x2 x3
def FJ_L_law_171 (lt : Int32 → Option Int32) (kk : XS → Int32 → Int32 → Option Int32) (x : XS) (x2 : Int32) (x3 : Int32) (x5 : Int32) (x6 : Int64) (x8 : Int32) (x9 : Int32) : Option (Int32) := if x2 = 0 then FJ_L_law_221 lt kk (x.1, x.2.1, x.2.2.1, x.2.2.2.1, x.2.2.2.2) x2 x3 else if x9 = (x8 + (1 : Int32)) then oB (F_L_low (x5 >>> ((8 : Int32) &&& 31)) (2 : Int32)) fun v41 => if v41 = 0 then oB2 (F_X3_undo (x.1, x.2.1, x.2.2.1, x.2.2.2.1, x.2.2.2.2)) fun v44 w45 => if v44 = x8 then oB (F_L_digest (w45.1, w45.2.1, w45.2.2.1, w45.2.2.2.1, w45.2.2.2.2)) fun v48 => if (lg_cmp v48 x6) = 0 then FJ_L_law_221 lt kk (w45.1, w45.2.1, w45.2.2.1, w45.2.2.2.1, w45.2.2.2.2) (1 : Int32) x3 else FJ_L_law_221 lt kk (w45.1, w45.2.1, w45.2.2.1, w45.2.2.2.1, w45.2.2.2.2) (0 : Int32) x3 else FJ_L_law_221 lt kk (w45.1, w45.2.1, w45.2.2.1, w45.2.2.2.1, w45.2.2.2.2) (0 : Int32) x3 else FJ_L_law_221 lt kk (x.1, x.2.1, x.2.2.1, x.2.2.2.1, x.2.2.2.2) x2 x3 else FJ_L_law_221 lt kk (x.1, x.2.1, x.2.2.1, x.2.2.2.1, x.2.2.2.2) x2 x3
def FJ_L_law_121 (lt : Int32 → Option Int32) (kk : XS → Int32 → Int32 → Option Int32) (x : XS) (x2 : Int32) (x3 : Int32) (x5 : Int32) (x6 : Int64) (x8 : Int32) : Option (Int32) := oB (F_X3_count (x.1, x.2.1, x.2.2.1, x.2.2.2.1, x.2.2.2.2) (8 : Int32)) fun v25 => if x2 = 0 then FJ_L_law_171 lt kk (x.1, x.2.1, x.2.2.1, x.2.2.2.1, x.2.2.2.2) (0 : Int32) x3 x5 x6 x8 v25 else if v25 = x8 then if x8 = (4 : Int32) then FJ_L_law_171 lt kk (x.1, x.2.1, x.2.2.1, x.2.2.2.1, x.2.2.2.2) (1 : Int32) x3 x5 x6 x8 v25 else oB (F_L_digest (x.1, x.2.1, x.2.2.1, x.2.2.2.1, x.2.2.2.2)) fun v54 => if (lg_cmp v54 x6) = 0 then FJ_L_law_171 lt kk (x.1, x.2.1, x.2.2.1, x.2.2.2.1, x.2.2.2.2) (1 : Int32) x3 x5 x6 x8 v25 else if v25 = (x8 + (1 : Int32)) then FJ_L_law_171 lt kk (x.1, x.2.1, x.2.2.1, x.2.2.2.1, x.2.2.2.2) (1 : Int32) x3 x5 x6 x8 v25 else FJ_L_law_171 lt kk (x.1, x.2.1, x.2.2.1, x.2.2.2.1, x.2.2.2.2) (0 : Int32) x3 x5 x6 x8 v25 else if v25 = (x8 + (1 : Int32)) then FJ_L_law_171 lt kk (x.1, x.2.1, x.2.2.1, x.2.2.2.1, x.2.2.2.2) (1 : Int32) x3 x5 x6 x8 v25 else FJ_L_law_171 lt kk (x.1, x.2.1, x.2.2.1, x.2.2.2.1, x.2.2.2.2) (0 : Int32) x3 x5 x6 x8 v25
def FL_L_law_32 (lt : Int32 → Option Int32) : Nat → XS → Int32 → Int32 → Option (Int32)
  | 0, _, _, _ => none
  | n + 1, x, x2, x3 => if (24 : Int32) ≤ x3 then if x2 = 0 then some (0 : Int32) else oB (F_L_holds (x.1, x.2.1, x.2.2.1, x.2.2.2.1, x.2.2.2.2)) fun v6 => if v6 = 0 then some (0 : Int32) else some (1 : Int32) else if x2 = 0 then if x2 = 0 then some (0 : Int32) else oB (F_L_holds (x.1, x.2.1, x.2.2.1, x.2.2.2.1, x.2.2.2.2)) fun v11 => if v11 = 0 then some (0 : Int32) else some (1 : Int32) else oB (lt ((2 : Int32) * x3)) fun v14 => oB (lt (((2 : Int32) * x3) + (1 : Int32))) fun v15 => oB (F_L_digest (x.1, x.2.1, x.2.2.1, x.2.2.2.1, x.2.2.2.2)) fun v16 => oB (F_X3_count (x.1, x.2.1, x.2.2.1, x.2.2.2.1, x.2.2.2.2) (8 : Int32)) fun v18 => if (6 : Int32) ≤ x3 then oB2 (F_L_acts (x.1, x.2.1, x.2.2.1, x.2.2.2.1, x.2.2.2.2) v14 v15) fun v21 w22 => if v21 = 0 then FJ_L_law_121 lt (FL_L_law_32 lt n) (w22.1, w22.2.1, w22.2.2.1, w22.2.2.2.1, w22.2.2.2.2) (0 : Int32) x3 v15 v16 v18 else oB (iRem x3 (4 : Int32)) fun v58 => if v58 = (3 : Int32) then oB (F_L_holds (w22.1, w22.2.1, w22.2.2.1, w22.2.2.2.1, w22.2.2.2.2)) fun v60 => if v60 = 0 then FJ_L_law_121 lt (FL_L_law_32 lt n) (w22.1, w22.2.1, w22.2.2.1, w22.2.2.2.1, w22.2.2.2.2) (0 : Int32) x3 v15 v16 v18 else FJ_L_law_121 lt (FL_L_law_32 lt n) (w22.1, w22.2.1, w22.2.2.1, w22.2.2.2.1, w22.2.2.2.2) (1 : Int32) x3 v15 v16 v18 else FJ_L_law_121 lt (FL_L_law_32 lt n) (w22.1, w22.2.1, w22.2.2.1, w22.2.2.2.1, w22.2.2.2.2) (1 : Int32) x3 v15 v16 v18 else oB2 (F_L_acts (x.1, x.2.1, x.2.2.1, x.2.2.2.1, x.2.2.2.2) (v14 &&& ((-16) : Int32)) v15) fun v63 w64 => if v63 = 0 then FJ_L_law_121 lt (FL_L_law_32 lt n) (w64.1, w64.2.1, w64.2.2.1, w64.2.2.2.1, w64.2.2.2.2) (0 : Int32) x3 v15 v16 v18 else oB (iRem x3 (4 : Int32)) fun v67 => if v67 = (3 : Int32) then oB (F_L_holds (w64.1, w64.2.1, w64.2.2.1, w64.2.2.2.1, w64.2.2.2.2)) fun v69 => if v69 = 0 then FJ_L_law_121 lt (FL_L_law_32 lt n) (w64.1, w64.2.1, w64.2.2.1, w64.2.2.2.1, w64.2.2.2.2) (0 : Int32) x3 v15 v16 v18 else FJ_L_law_121 lt (FL_L_law_32 lt n) (w64.1, w64.2.1, w64.2.2.1, w64.2.2.2.1, w64.2.2.2.2) (1 : Int32) x3 v15 v16 v18 else FJ_L_law_121 lt (FL_L_law_32 lt n) (w64.1, w64.2.1, w64.2.2.1, w64.2.2.2.1, w64.2.2.2.2) (1 : Int32) x3 v15 v16 v18
def F_L_law (lt : Int32 → Option Int32) (x : XS) : Option Int32 := oB (F_L_holds (x.1, x.2.1, x.2.2.1, x.2.2.2.1, x.2.2.2.2)) fun v1 => if v1 = 0 then FL_L_law_32 lt fuel (x.1, x.2.1, x.2.2.1, x.2.2.2.1, x.2.2.2.2) (0 : Int32) (0 : Int32) else oB2 (F_X3_undo (x.1, x.2.1, x.2.2.1, x.2.2.2.1, x.2.2.2.2)) fun v72 w73 => if v72 = ((-1000002) : Int32) then FL_L_law_32 lt fuel (w73.1, w73.2.1, w73.2.2.1, w73.2.2.2.1, w73.2.2.2.2) (1 : Int32) (0 : Int32) else FL_L_law_32 lt fuel (w73.1, w73.2.1, w73.2.2.1, w73.2.2.2.1, w73.2.2.2.2) (0 : Int32) (0 : Int32)
set_option maxHeartbeats 16000000 in
set_option maxRecDepth 100000 in
theorem law_body {p : Program} {l : Launch} {e : Env} {s : State} {m : MethodId} {below : List Frame} {meth : Method} {c : Code} {b N : Nat} {xs : Nat → Int32} (hN9 : N ≤ 260) (C0 : lw_At p s m meth c b N xs) {g : Gm} {L : List Nat} (hL : kL L (fun q : Nat => s.heap.size ≤ q)) (hC : Cx g (fun q : Nat => s.heap.size ≤ q) s s.heap) (ad : Nat → Nat) (lt : Int32 → Option Int32) (hlt : lt = lotF N xs) (x : XS) (hF : F_L_law lt x = some 1) (G : Nat → va_E) (hX : vX g L G ad x) (H : Heap) (locs : List Loc) (hP : va_P g.1 vwCl (va_pl L G) H) (hS : va_S (fun q : Nat => s.heap.size ≤ q) s.heap H locs) (ls : Array Slot) (hl : lv_has ls 11 [(1, .ref (ad 0)), (0, .ref b)]) : W p l e room_1 s m #[Value.ref b] below meth c H locs 600000 7302250 (lw_Z below #[Value.ref b] s) (F0 m 8 ls []) := by
  obtain ⟨hx, hb, hr, hml, hown0, hts0, hX0, hbl, hlocks, hgv⟩ := C0
  have hown : s.vm.findClass RL = some m.cls := hown0
  have hts : ∀ w ∈ wsL_law, w.before #[Value.ref b] s = true := fun w h => hts0 w (wsL_law_in w h)
  have hbA : ¬ (fun q : Nat => s.heap.size ≤ q) b := Nat.not_le.mpr hbl
  have lp32 : ∀ (n : Nat) (x : XS) (x2 : Int32) (x3 : Int32) (G1 : Nat → va_E) (H : Heap) (locs : List Loc) (ls : Array Slot), vX g L G1 ad x → va_P g.1 vwCl (va_pl L G1) H → va_S (fun q : Nat => s.heap.size ≤ q) s.heap H locs → lv_has ls 11 [(0, .ref b), (1, .ref (ad 0)), (2, .int x2), (3, .int x3)] → FL_L_law_32 lt n x x2 x3 = some 1 → W p l e room_1 s m #[Value.ref b] below meth c H locs 600000 7302250 (lw_Z below #[Value.ref b] s) (F0 m 32 ls []) := by
    intro n
    induction n with
    | zero =>
      intro x x2 x3 G1 H locs ls hX hP hS hl hN
      exact absurd hN (by simp [FL_L_law_32])
    | succ n ih =>
      have jn267 : ∀ (x : XS) (x2 : Int32) (x3 : Int32) (G1 : Nat → va_E) (H : Heap) (locs : List Loc) (ls : Array Slot), vX g L G1 ad x → va_P g.1 vwCl (va_pl L G1) H → va_S (fun q : Nat => s.heap.size ≤ q) s.heap H locs → lv_has ls 11 [(0, .ref b), (1, .ref (ad 0)), (2, .int x2), (3, .int x3)] → FJ_L_law_267 lt (FL_L_law_32 lt n) x x2 x3 = some 1 → W p l e room_1 s m #[Value.ref b] below meth c H locs 600000 7302250 (lw_Z below #[Value.ref b] s) (F0 m 267 ls []) := by
        intro x x2 x3 G1 H locs ls hX hP hS hl hN
        unfold FJ_L_law_267 at hN
        refine lv_iinc (v := (x3 + 1)) (lv' := [(3, .int (x3 + 1)), (0, .ref b), (1, .ref (ad 0)), (2, .int x2)]) hx hb dL_law_267 hl (k := 3) rfl rfl (by decide) rfl (fun ls hl => ?_)
        refine lv_goto (tgt := 32) hx hb dL_law_270 (by decide) ?_
        exact ih (x.1, x.2.1, x.2.2.1, x.2.2.2.1, x.2.2.2.2) x2 (x3 + 1)  _ _ _ _ hX hP hS (lv_sub hl [1, 2, 3, 0] rfl) hN
      have jn221 : ∀ (x : XS) (x2 : Int32) (x3 : Int32) (G1 : Nat → va_E) (H : Heap) (locs : List Loc) (ls : Array Slot), vX g L G1 ad x → va_P g.1 vwCl (va_pl L G1) H → va_S (fun q : Nat => s.heap.size ≤ q) s.heap H locs → lv_has ls 11 [(0, .ref b), (1, .ref (ad 0)), (2, .int x2), (3, .int x3)] → FJ_L_law_221 lt (FL_L_law_32 lt n) x x2 x3 = some 1 → W p l e room_1 s m #[Value.ref b] below meth c H locs 600000 7302250 (lw_Z below #[Value.ref b] s) (F0 m 221 ls []) := by
        intro x x2 x3 G1 H locs ls hX hP hS hl hN
        unfold FJ_L_law_221 at hN
        refine lv_iload_n hx hb dL_law_221 rfl (lv_at hl 2 rfl) ?_
        refine lv_if_eq (tgt := 267) hx hb dL_law_222 (by decide) (fun c29 => ?_) (fun c29 => ?_)
        · rw [if_pos c29] at hN
          exact jn267 (x.1, x.2.1, x.2.2.1, x.2.2.2.1, x.2.2.2.2) x2 x3 _ _ _ _ hX hP hS (lv_sub hl [0, 1, 2, 3] rfl) hN
        · rw [if_neg c29] at hN
          refine lv_iload_n hx hb dL_law_225 rfl (lv_at hl 3 rfl) ?_
          refine lv_iconst (v := 5) hx hb dL_law_226 (by decide) ?_
          obtain ⟨v30, hv30, hN⟩ := oB_spec hN
          refine lv_iremE hx hb dL_law_227 hv30 ?_
          refine lv_iconst (v := 4) hx hb dL_law_228 (by decide) ?_
          refine lv_icmp_ne (tgt := 267) hx hb dL_law_229 (by decide) (fun c31 => ?_) (fun c31 => ?_)
          · rw [if_neg c31] at hN
            exact jn267 (x.1, x.2.1, x.2.2.1, x.2.2.2.1, x.2.2.2.2) x2 x3 _ _ _ _ hX hP hS (lv_sub hl [0, 1, 2, 3] rfl) hN
          · rw [if_pos c31] at hN
            refine lv_aload_n hx hb dL_law_232 rfl (lv_at hl 1 rfl) ?_
            refine lv_bipush (v := 8) hx hb dL_law_233 (by decide) ?_
            obtain ⟨v32, hv32, hN⟩ := oB_spec hN
            refine k_iR hS (va_runV (As := [.int (8 : Int32)]) (rest := []) ⟨hx, hb, hml, hown, hts⟩ (c_X3_count l g L hL G1 ad (x.1, x.2.1, x.2.2.1, x.2.2.2.1, x.2.2.2.2) hX (8 : Int32) v32 hv32) (cwV 1 hts gL_law_X3_count rfl rfl rfl (by decide +kernel) ⟨Nat.le_of_ble_eq_true rfl, Nat.le_of_ble_eq_true rfl⟩) (k_preV (C := RX3) (T := TX3) (N := 3) hC hS hP (hX.m 0 (by omega)) hX.o0 rfl) rfl rfl hl.1 rfl (lv_room (Nat.le_of_ble_eq_true rfl)) dL_law_235 ⟨Nat.le_refl _, Nat.le_refl _⟩) (fun H locs hP hS => ?_)
            refine lv_istore (lv' := [(10, .int v32), (0, .ref b), (1, .ref (ad 0)), (2, .int x2), (3, .int x3)]) hx hb dL_law_238 hl (by decide) rfl (fun ls hl => ?_)
            refine lv_aload_n hx hb dL_law_240 rfl (lv_at hl 2 rfl) ?_
            obtain ⟨v34, w35, hv34, hN⟩ := oB2_spec hN
            refine k_iW hS (va_runV (As := []) (rest := []) ⟨hx, hb, hml, hown, hts⟩ (c_X3_undo l g L hL G1 ad (x.1, x.2.1, x.2.2.1, x.2.2.2.1, x.2.2.2.2) hX v34 w35 hv34) (cwV 0 hts gL_law_X3_undo rfl rfl rfl (by decide +kernel) ⟨Nat.le_of_ble_eq_true rfl, Nat.le_of_ble_eq_true rfl⟩) (k_preV (C := RX3) (T := TX3) (N := 3) hC hS hP (hX.m 0 (by omega)) hX.o0 rfl) rfl rfl hl.1 rfl (lv_room (Nat.le_of_ble_eq_true rfl)) dL_law_241 ⟨Nat.le_refl _, Nat.le_refl _⟩) (fun G36 H locs hq hP hS => ?_)
            have hX := hq
            refine lv_iload hx hb dL_law_244 (lv_at hl 0 rfl) ?_
            refine lv_if_ne (tgt := 254) hx hb dL_law_246 (by decide) (fun c37 => ?_) (fun c37 => ?_)
            · rw [if_neg c37] at hN
              refine lv_iload hx hb dL_law_254 (lv_at hl 0 rfl) ?_
              refine lv_iconst (v := 1) hx hb dL_law_256 (by decide) ?_
              refine lv_isub hx hb dL_law_257 ?_
              refine lv_icmp_ne (tgt := 265) hx hb dL_law_258 (by decide) (fun c38 => ?_) (fun c38 => ?_)
              · rw [if_neg c38] at hN
                refine lv_iconst (v := 0) hx hb dL_law_265 (by decide) ?_
                refine lv_istore_n (lv' := [(2, .int (0 : Int32)), (10, .int v32), (0, .ref b), (1, .ref (ad 0)), (3, .int x3)]) hx hb dL_law_266 rfl hl (by decide) rfl (fun ls hl => ?_)
                exact jn267 (w35.1, w35.2.1, w35.2.2.1, w35.2.2.2.1, w35.2.2.2.2) (0 : Int32) x3 _ _ _ _ hX hP hS (lv_sub hl [2, 3, 0, 4] rfl) hN
              · rw [if_pos c38] at hN
                refine lv_iconst (v := 1) hx hb dL_law_261 (by decide) ?_
                refine lv_goto (tgt := 266) hx hb dL_law_262 (by decide) ?_
                refine lv_istore_n (lv' := [(2, .int (1 : Int32)), (10, .int v32), (0, .ref b), (1, .ref (ad 0)), (3, .int x3)]) hx hb dL_law_266 rfl hl (by decide) rfl (fun ls hl => ?_)
                exact jn267 (w35.1, w35.2.1, w35.2.2.1, w35.2.2.2.1, w35.2.2.2.2) (1 : Int32) x3 _ _ _ _ hX hP hS (lv_sub hl [2, 3, 0, 4] rfl) hN
            · rw [if_pos c37] at hN
              refine lv_ldc (v := (-1000002)) hx hb hown (hts (.constant RL 68 (-1000002)) (List.mem_of_getElem? (i := 3) rfl)) dL_law_249 ?_
              refine lv_goto (tgt := 258) hx hb dL_law_251 (by decide) ?_
              refine lv_icmp_ne (tgt := 265) hx hb dL_law_258 (by decide) (fun c39 => ?_) (fun c39 => ?_)
              · rw [if_neg c39] at hN
                refine lv_iconst (v := 0) hx hb dL_law_265 (by decide) ?_
                refine lv_istore_n (lv' := [(2, .int (0 : Int32)), (10, .int v32), (0, .ref b), (1, .ref (ad 0)), (3, .int x3)]) hx hb dL_law_266 rfl hl (by decide) rfl (fun ls hl => ?_)
                exact jn267 (w35.1, w35.2.1, w35.2.2.1, w35.2.2.2.1, w35.2.2.2.2) (0 : Int32) x3 _ _ _ _ hX hP hS (lv_sub hl [2, 3, 0, 4] rfl) hN
              · rw [if_pos c39] at hN
                refine lv_iconst (v := 1) hx hb dL_law_261 (by decide) ?_
                refine lv_goto (tgt := 266) hx hb dL_law_262 (by decide) ?_
                refine lv_istore_n (lv' := [(2, .int (1 : Int32)), (10, .int v32), (0, .ref b), (1, .ref (ad 0)), (3, .int x3)]) hx hb dL_law_266 rfl hl (by decide) rfl (fun ls hl => ?_)
                exact jn267 (w35.1, w35.2.1, w35.2.2.1, w35.2.2.2.1, w35.2.2.2.2) (1 : Int32) x3 _ _ _ _ hX hP hS (lv_sub hl [2, 3, 0, 4] rfl) hN
      have jn171 : ∀ (x : XS) (x2 : Int32) (x3 : Int32) (x5 : Int32) (x6 : Int64) (x8 : Int32) (x9 : Int32) (G1 : Nat → va_E) (H : Heap) (locs : List Loc) (ls : Array Slot), vX g L G1 ad x → va_P g.1 vwCl (va_pl L G1) H → va_S (fun q : Nat => s.heap.size ≤ q) s.heap H locs → lv_has ls 11 [(0, .ref b), (1, .ref (ad 0)), (2, .int x2), (3, .int x3), (5, .int x5), (6, .long x6), (8, .int x8), (9, .int x9)] → FJ_L_law_171 lt (FL_L_law_32 lt n) x x2 x3 x5 x6 x8 x9 = some 1 → W p l e room_1 s m #[Value.ref b] below meth c H locs 600000 7302250 (lw_Z below #[Value.ref b] s) (F0 m 171 ls []) := by
        intro x x2 x3 x5 x6 x8 x9 G1 H locs ls hX hP hS hl hN
        unfold FJ_L_law_171 at hN
        refine lv_iload_n hx hb dL_law_171 rfl (lv_at hl 2 rfl) ?_
        refine lv_if_eq (tgt := 221) hx hb dL_law_172 (by decide) (fun c28 => ?_) (fun c28 => ?_)
        · rw [if_pos c28] at hN
          exact jn221 (x.1, x.2.1, x.2.2.1, x.2.2.2.1, x.2.2.2.2) x2 x3 _ _ _ _ hX hP hS (lv_sub hl [0, 1, 2, 3] rfl) hN
        · rw [if_neg c28] at hN
          refine lv_iload hx hb dL_law_175 (lv_at hl 7 rfl) ?_
          refine lv_iload hx hb dL_law_177 (lv_at hl 6 rfl) ?_
          refine lv_iconst (v := 1) hx hb dL_law_179 (by decide) ?_
          refine lv_iadd hx hb dL_law_180 ?_
          refine lv_icmp_ne (tgt := 221) hx hb dL_law_181 (by decide) (fun c40 => ?_) (fun c40 => ?_)
          · rw [if_neg c40] at hN
            exact jn221 (x.1, x.2.1, x.2.2.1, x.2.2.2.1, x.2.2.2.2) x2 x3 _ _ _ _ hX hP hS (lv_sub hl [0, 1, 2, 3] rfl) hN
          · rw [if_pos c40] at hN
            refine lv_iload hx hb dL_law_184 (lv_at hl 4 rfl) ?_
            refine lv_bipush (v := 8) hx hb dL_law_186 (by decide) ?_
            refine lv_ishr hx hb dL_law_188 ?_
            refine lv_iconst (v := 2) hx hb dL_law_189 (by decide) ?_
            obtain ⟨v41, hv41, hN⟩ := oB_spec hN
            refine k_iR hS (va_runS (As := [.int (x5 >>> ((8 : Int32) &&& 31)), .int (2 : Int32)]) (rest := []) ⟨hx, hb, hml, hown, hts⟩ (c_L_low l g L hL G1 (x5 >>> ((8 : Int32) &&& 31)) (2 : Int32) v41 hv41) (va_cwS 2 hts gL_law_L_low rfl rfl rfl (by decide +kernel) ⟨Nat.le_of_ble_eq_true rfl, Nat.le_of_ble_eq_true rfl⟩) (k_pre hC hS hP) rfl rfl hl.1 rfl (lv_room (Nat.le_of_ble_eq_true rfl)) dL_law_190 ⟨Nat.le_refl _, Nat.le_refl _⟩) (fun H locs hP hS => ?_)
            refine lv_if_ne (tgt := 221) hx hb dL_law_193 (by decide) (fun c43 => ?_) (fun c43 => ?_)
            · rw [if_neg c43] at hN
              exact jn221 (x.1, x.2.1, x.2.2.1, x.2.2.2.1, x.2.2.2.2) x2 x3 _ _ _ _ hX hP hS (lv_sub hl [0, 1, 2, 3] rfl) hN
            · rw [if_pos c43] at hN
              refine lv_aload_n hx hb dL_law_196 rfl (lv_at hl 1 rfl) ?_
              obtain ⟨v44, w45, hv44, hN⟩ := oB2_spec hN
              refine k_iW hS (va_runV (As := []) (rest := []) ⟨hx, hb, hml, hown, hts⟩ (c_X3_undo l g L hL G1 ad (x.1, x.2.1, x.2.2.1, x.2.2.2.1, x.2.2.2.2) hX v44 w45 hv44) (cwV 0 hts gL_law_X3_undo rfl rfl rfl (by decide +kernel) ⟨Nat.le_of_ble_eq_true rfl, Nat.le_of_ble_eq_true rfl⟩) (k_preV (C := RX3) (T := TX3) (N := 3) hC hS hP (hX.m 0 (by omega)) hX.o0 rfl) rfl rfl hl.1 rfl (lv_room (Nat.le_of_ble_eq_true rfl)) dL_law_197 ⟨Nat.le_refl _, Nat.le_refl _⟩) (fun G46 H locs hq hP hS => ?_)
              have hX := hq
              refine lv_iload hx hb dL_law_200 (lv_at hl 6 rfl) ?_
              refine lv_icmp_ne (tgt := 219) hx hb dL_law_202 (by decide) (fun c47 => ?_) (fun c47 => ?_)
              · rw [if_neg c47] at hN
                refine lv_iconst (v := 0) hx hb dL_law_219 (by decide) ?_
                refine lv_istore_n (lv' := [(2, .int (0 : Int32)), (0, .ref b), (1, .ref (ad 0)), (3, .int x3), (5, .int x5), (6, .long x6), (8, .int x8), (9, .int x9)]) hx hb dL_law_220 rfl hl (by decide) rfl (fun ls hl => ?_)
                exact jn221 (w45.1, w45.2.1, w45.2.2.1, w45.2.2.2.1, w45.2.2.2.2) (0 : Int32) x3 _ _ _ _ hX hP hS (lv_sub hl [1, 2, 0, 3] rfl) hN
              · rw [if_pos c47] at hN
                refine lv_aload_n hx hb dL_law_205 rfl (lv_at hl 1 rfl) ?_
                obtain ⟨v48, hv48, hN⟩ := oB_spec hN
                refine k_lR hS (va_runS (As := [.ref (ad 0)]) (rest := []) ⟨hx, hb, hml, hown, hts⟩ (c_L_digest l g L hL G46 ad (w45.1, w45.2.1, w45.2.2.1, w45.2.2.2.1, w45.2.2.2.2) hX v48 hv48) (va_cwS 1 hts gL_law_L_digest rfl rfl rfl (by decide +kernel) ⟨Nat.le_of_ble_eq_true rfl, Nat.le_of_ble_eq_true rfl⟩) (k_pre hC hS hP) rfl rfl hl.1 rfl (lv_room (Nat.le_of_ble_eq_true rfl)) dL_law_206 ⟨Nat.le_refl _, Nat.le_refl _⟩) (fun H locs hP hS => ?_)
                refine lv_lload hx hb dL_law_209 (lv_at hl 5 rfl) ?_
                refine W.lcmp hx hb dL_law_211 ?_
                refine lv_if_ne (tgt := 219) hx hb dL_law_212 (by decide) (fun c50 => ?_) (fun c50 => ?_)
                · rw [if_neg c50] at hN
                  refine lv_iconst (v := 0) hx hb dL_law_219 (by decide) ?_
                  refine lv_istore_n (lv' := [(2, .int (0 : Int32)), (0, .ref b), (1, .ref (ad 0)), (3, .int x3), (5, .int x5), (6, .long x6), (8, .int x8), (9, .int x9)]) hx hb dL_law_220 rfl hl (by decide) rfl (fun ls hl => ?_)
                  exact jn221 (w45.1, w45.2.1, w45.2.2.1, w45.2.2.2.1, w45.2.2.2.2) (0 : Int32) x3 _ _ _ _ hX hP hS (lv_sub hl [1, 2, 0, 3] rfl) hN
                · rw [if_pos c50] at hN
                  refine lv_iconst (v := 1) hx hb dL_law_215 (by decide) ?_
                  refine lv_goto (tgt := 220) hx hb dL_law_216 (by decide) ?_
                  refine lv_istore_n (lv' := [(2, .int (1 : Int32)), (0, .ref b), (1, .ref (ad 0)), (3, .int x3), (5, .int x5), (6, .long x6), (8, .int x8), (9, .int x9)]) hx hb dL_law_220 rfl hl (by decide) rfl (fun ls hl => ?_)
                  exact jn221 (w45.1, w45.2.1, w45.2.2.1, w45.2.2.2.1, w45.2.2.2.2) (1 : Int32) x3 _ _ _ _ hX hP hS (lv_sub hl [1, 2, 0, 3] rfl) hN
      have jn121 : ∀ (x : XS) (x2 : Int32) (x3 : Int32) (x5 : Int32) (x6 : Int64) (x8 : Int32) (G1 : Nat → va_E) (H : Heap) (locs : List Loc) (ls : Array Slot), vX g L G1 ad x → va_P g.1 vwCl (va_pl L G1) H → va_S (fun q : Nat => s.heap.size ≤ q) s.heap H locs → lv_has ls 11 [(0, .ref b), (1, .ref (ad 0)), (2, .int x2), (3, .int x3), (5, .int x5), (6, .long x6), (8, .int x8)] → FJ_L_law_121 lt (FL_L_law_32 lt n) x x2 x3 x5 x6 x8 = some 1 → W p l e room_1 s m #[Value.ref b] below meth c H locs 600000 7302250 (lw_Z below #[Value.ref b] s) (F0 m 121 ls []) := by
        intro x x2 x3 x5 x6 x8 G1 H locs ls hX hP hS hl hN
        unfold FJ_L_law_121 at hN
        refine lv_aload_n hx hb dL_law_121 rfl (lv_at hl 1 rfl) ?_
        refine lv_bipush (v := 8) hx hb dL_law_122 (by decide) ?_
        obtain ⟨v25, hv25, hN⟩ := oB_spec hN
        refine k_iR hS (va_runV (As := [.int (8 : Int32)]) (rest := []) ⟨hx, hb, hml, hown, hts⟩ (c_X3_count l g L hL G1 ad (x.1, x.2.1, x.2.2.1, x.2.2.2.1, x.2.2.2.2) hX (8 : Int32) v25 hv25) (cwV 1 hts gL_law_X3_count rfl rfl rfl (by decide +kernel) ⟨Nat.le_of_ble_eq_true rfl, Nat.le_of_ble_eq_true rfl⟩) (k_preV (C := RX3) (T := TX3) (N := 3) hC hS hP (hX.m 0 (by omega)) hX.o0 rfl) rfl rfl hl.1 rfl (lv_room (Nat.le_of_ble_eq_true rfl)) dL_law_124 ⟨Nat.le_refl _, Nat.le_refl _⟩) (fun H locs hP hS => ?_)
        refine lv_istore (lv' := [(9, .int v25), (0, .ref b), (1, .ref (ad 0)), (2, .int x2), (3, .int x3), (5, .int x5), (6, .long x6), (8, .int x8)]) hx hb dL_law_127 hl (by decide) rfl (fun ls hl => ?_)
        refine lv_iload_n hx hb dL_law_129 rfl (lv_at hl 3 rfl) ?_
        refine lv_if_eq (tgt := 169) hx hb dL_law_130 (by decide) (fun c27 => ?_) (fun c27 => ?_)
        · rw [if_pos c27] at hN
          refine lv_iconst (v := 0) hx hb dL_law_169 (by decide) ?_
          refine lv_istore_n (lv' := [(2, .int (0 : Int32)), (9, .int v25), (0, .ref b), (1, .ref (ad 0)), (3, .int x3), (5, .int x5), (6, .long x6), (8, .int x8)]) hx hb dL_law_170 rfl hl (by decide) rfl (fun ls hl => ?_)
          exact jn171 (x.1, x.2.1, x.2.2.1, x.2.2.2.1, x.2.2.2.2) (0 : Int32) x3 x5 x6 x8 v25 _ _ _ _ hX hP hS (lv_sub hl [2, 3, 0, 4, 5, 6, 7, 1] rfl) hN
        · rw [if_neg c27] at hN
          refine lv_iload hx hb dL_law_133 (lv_at hl 0 rfl) ?_
          refine lv_iload hx hb dL_law_135 (lv_at hl 7 rfl) ?_
          refine lv_icmp_ne (tgt := 156) hx hb dL_law_137 (by decide) (fun c51 => ?_) (fun c51 => ?_)
          · rw [if_neg c51] at hN
            refine lv_iload hx hb dL_law_156 (lv_at hl 0 rfl) ?_
            refine lv_iload hx hb dL_law_158 (lv_at hl 7 rfl) ?_
            refine lv_iconst (v := 1) hx hb dL_law_160 (by decide) ?_
            refine lv_iadd hx hb dL_law_161 ?_
            refine lv_icmp_ne (tgt := 169) hx hb dL_law_162 (by decide) (fun c52 => ?_) (fun c52 => ?_)
            · rw [if_neg c52] at hN
              refine lv_iconst (v := 0) hx hb dL_law_169 (by decide) ?_
              refine lv_istore_n (lv' := [(2, .int (0 : Int32)), (9, .int v25), (0, .ref b), (1, .ref (ad 0)), (3, .int x3), (5, .int x5), (6, .long x6), (8, .int x8)]) hx hb dL_law_170 rfl hl (by decide) rfl (fun ls hl => ?_)
              exact jn171 (x.1, x.2.1, x.2.2.1, x.2.2.2.1, x.2.2.2.2) (0 : Int32) x3 x5 x6 x8 v25 _ _ _ _ hX hP hS (lv_sub hl [2, 3, 0, 4, 5, 6, 7, 1] rfl) hN
            · rw [if_pos c52] at hN
              refine lv_iconst (v := 1) hx hb dL_law_165 (by decide) ?_
              refine lv_goto (tgt := 170) hx hb dL_law_166 (by decide) ?_
              refine lv_istore_n (lv' := [(2, .int (1 : Int32)), (9, .int v25), (0, .ref b), (1, .ref (ad 0)), (3, .int x3), (5, .int x5), (6, .long x6), (8, .int x8)]) hx hb dL_law_170 rfl hl (by decide) rfl (fun ls hl => ?_)
              exact jn171 (x.1, x.2.1, x.2.2.1, x.2.2.2.1, x.2.2.2.2) (1 : Int32) x3 x5 x6 x8 v25 _ _ _ _ hX hP hS (lv_sub hl [2, 3, 0, 4, 5, 6, 7, 1] rfl) hN
          · rw [if_pos c51] at hN
            refine lv_iload hx hb dL_law_140 (lv_at hl 7 rfl) ?_
            refine lv_iconst (v := 4) hx hb dL_law_142 (by decide) ?_
            refine lv_icmp_eq (tgt := 165) hx hb dL_law_143 (by decide) (fun c53 => ?_) (fun c53 => ?_)
            · rw [if_pos c53] at hN
              refine lv_iconst (v := 1) hx hb dL_law_165 (by decide) ?_
              refine lv_goto (tgt := 170) hx hb dL_law_166 (by decide) ?_
              refine lv_istore_n (lv' := [(2, .int (1 : Int32)), (9, .int v25), (0, .ref b), (1, .ref (ad 0)), (3, .int x3), (5, .int x5), (6, .long x6), (8, .int x8)]) hx hb dL_law_170 rfl hl (by decide) rfl (fun ls hl => ?_)
              exact jn171 (x.1, x.2.1, x.2.2.1, x.2.2.2.1, x.2.2.2.2) (1 : Int32) x3 x5 x6 x8 v25 _ _ _ _ hX hP hS (lv_sub hl [2, 3, 0, 4, 5, 6, 7, 1] rfl) hN
            · rw [if_neg c53] at hN
              refine lv_aload_n hx hb dL_law_146 rfl (lv_at hl 2 rfl) ?_
              obtain ⟨v54, hv54, hN⟩ := oB_spec hN
              refine k_lR hS (va_runS (As := [.ref (ad 0)]) (rest := []) ⟨hx, hb, hml, hown, hts⟩ (c_L_digest l g L hL G1 ad (x.1, x.2.1, x.2.2.1, x.2.2.2.1, x.2.2.2.2) hX v54 hv54) (va_cwS 1 hts gL_law_L_digest rfl rfl rfl (by decide +kernel) ⟨Nat.le_of_ble_eq_true rfl, Nat.le_of_ble_eq_true rfl⟩) (k_pre hC hS hP) rfl rfl hl.1 rfl (lv_room (Nat.le_of_ble_eq_true rfl)) dL_law_147 ⟨Nat.le_refl _, Nat.le_refl _⟩) (fun H locs hP hS => ?_)
              refine lv_lload hx hb dL_law_150 (lv_at hl 6 rfl) ?_
              refine W.lcmp hx hb dL_law_152 ?_
              refine lv_if_eq (tgt := 165) hx hb dL_law_153 (by decide) (fun c56 => ?_) (fun c56 => ?_)
              · rw [if_pos c56] at hN
                refine lv_iconst (v := 1) hx hb dL_law_165 (by decide) ?_
                refine lv_goto (tgt := 170) hx hb dL_law_166 (by decide) ?_
                refine lv_istore_n (lv' := [(2, .int (1 : Int32)), (9, .int v25), (0, .ref b), (1, .ref (ad 0)), (3, .int x3), (5, .int x5), (6, .long x6), (8, .int x8)]) hx hb dL_law_170 rfl hl (by decide) rfl (fun ls hl => ?_)
                exact jn171 (x.1, x.2.1, x.2.2.1, x.2.2.2.1, x.2.2.2.2) (1 : Int32) x3 x5 x6 x8 v25 _ _ _ _ hX hP hS (lv_sub hl [2, 3, 0, 4, 5, 6, 7, 1] rfl) hN
              · rw [if_neg c56] at hN
                refine lv_iload hx hb dL_law_156 (lv_at hl 0 rfl) ?_
                refine lv_iload hx hb dL_law_158 (lv_at hl 7 rfl) ?_
                refine lv_iconst (v := 1) hx hb dL_law_160 (by decide) ?_
                refine lv_iadd hx hb dL_law_161 ?_
                refine lv_icmp_ne (tgt := 169) hx hb dL_law_162 (by decide) (fun c57 => ?_) (fun c57 => ?_)
                · rw [if_neg c57] at hN
                  refine lv_iconst (v := 0) hx hb dL_law_169 (by decide) ?_
                  refine lv_istore_n (lv' := [(2, .int (0 : Int32)), (9, .int v25), (0, .ref b), (1, .ref (ad 0)), (3, .int x3), (5, .int x5), (6, .long x6), (8, .int x8)]) hx hb dL_law_170 rfl hl (by decide) rfl (fun ls hl => ?_)
                  exact jn171 (x.1, x.2.1, x.2.2.1, x.2.2.2.1, x.2.2.2.2) (0 : Int32) x3 x5 x6 x8 v25 _ _ _ _ hX hP hS (lv_sub hl [2, 3, 0, 4, 5, 6, 7, 1] rfl) hN
                · rw [if_pos c57] at hN
                  refine lv_iconst (v := 1) hx hb dL_law_165 (by decide) ?_
                  refine lv_goto (tgt := 170) hx hb dL_law_166 (by decide) ?_
                  refine lv_istore_n (lv' := [(2, .int (1 : Int32)), (9, .int v25), (0, .ref b), (1, .ref (ad 0)), (3, .int x3), (5, .int x5), (6, .long x6), (8, .int x8)]) hx hb dL_law_170 rfl hl (by decide) rfl (fun ls hl => ?_)
                  exact jn171 (x.1, x.2.1, x.2.2.1, x.2.2.2.1, x.2.2.2.2) (1 : Int32) x3 x5 x6 x8 v25 _ _ _ _ hX hP hS (lv_sub hl [2, 3, 0, 4, 5, 6, 7, 1] rfl) hN
      intro x x2 x3 G1 H locs ls hX hP hS hl hN
      rw [FL_L_law_32] at hN
      refine lv_iload_n hx hb dL_law_32 rfl (lv_at hl 3 rfl) ?_
      refine lv_bipush (v := 24) hx hb dL_law_33 (by decide) ?_
      refine lv_icmp_ge (tgt := 273) hx hb dL_law_35 (by decide) (fun c4 => ?_) (fun c4 => ?_)
      · rw [if_pos c4] at hN
        refine lv_iload_n hx hb dL_law_273 rfl (lv_at hl 2 rfl) ?_
        refine lv_if_eq (tgt := 288) hx hb dL_law_274 (by decide) (fun c5 => ?_) (fun c5 => ?_)
        · rw [if_pos c5] at hN
          refine lv_iconst (v := 0) hx hb dL_law_288 (by decide) ?_
          exact absurd (Option.some.inj hN) (by decide)
        · rw [if_neg c5] at hN
          refine lv_aload_n hx hb dL_law_277 rfl (lv_at hl 1 rfl) ?_
          obtain ⟨v6, hv6, hN⟩ := oB_spec hN
          refine k_iR hS (va_runS (As := [.ref (ad 0)]) (rest := []) ⟨hx, hb, hml, hown, hts⟩ (c_L_holds l g L hL G1 ad (x.1, x.2.1, x.2.2.1, x.2.2.2.1, x.2.2.2.2) hX v6 hv6) (va_cwS 1 hts gL_law_L_holds rfl rfl rfl (by decide +kernel) ⟨Nat.le_of_ble_eq_true rfl, Nat.le_of_ble_eq_true rfl⟩) (k_pre hC hS hP) rfl rfl hl.1 rfl (lv_room (Nat.le_of_ble_eq_true rfl)) dL_law_278 ⟨Nat.le_refl _, Nat.le_refl _⟩) (fun H locs hP hS => ?_)
          refine lv_if_eq (tgt := 288) hx hb dL_law_281 (by decide) (fun c8 => ?_) (fun c8 => ?_)
          · rw [if_pos c8] at hN
            refine lv_iconst (v := 0) hx hb dL_law_288 (by decide) ?_
            exact absurd (Option.some.inj hN) (by decide)
          · rw [if_neg c8] at hN
            refine lv_iconst (v := 1) hx hb dL_law_284 (by decide) ?_
            refine lv_goto (tgt := 289) hx hb dL_law_285 (by decide) ?_
            refine va_forget (fun q hq => hS.2.2 q hq) ?_
            exact lw_ret hx hb hr hlocks dL_law_289
      · rw [if_neg c4] at hN
        refine lv_iload_n hx hb dL_law_38 rfl (lv_at hl 2 rfl) ?_
        refine lv_if_eq (tgt := 273) hx hb dL_law_39 (by decide) (fun c9 => ?_) (fun c9 => ?_)
        · rw [if_pos c9] at hN
          refine lv_iload_n hx hb dL_law_273 rfl (lv_at hl 2 rfl) ?_
          refine lv_if_eq (tgt := 288) hx hb dL_law_274 (by decide) (fun c10 => ?_) (fun c10 => ?_)
          · rw [if_pos c10] at hN
            refine lv_iconst (v := 0) hx hb dL_law_288 (by decide) ?_
            exact absurd (Option.some.inj hN) (by decide)
          · rw [if_neg c10] at hN
            refine lv_aload_n hx hb dL_law_277 rfl (lv_at hl 1 rfl) ?_
            obtain ⟨v11, hv11, hN⟩ := oB_spec hN
            refine k_iR hS (va_runS (As := [.ref (ad 0)]) (rest := []) ⟨hx, hb, hml, hown, hts⟩ (c_L_holds l g L hL G1 ad (x.1, x.2.1, x.2.2.1, x.2.2.2.1, x.2.2.2.2) hX v11 hv11) (va_cwS 1 hts gL_law_L_holds rfl rfl rfl (by decide +kernel) ⟨Nat.le_of_ble_eq_true rfl, Nat.le_of_ble_eq_true rfl⟩) (k_pre hC hS hP) rfl rfl hl.1 rfl (lv_room (Nat.le_of_ble_eq_true rfl)) dL_law_278 ⟨Nat.le_refl _, Nat.le_refl _⟩) (fun H locs hP hS => ?_)
            refine lv_if_eq (tgt := 288) hx hb dL_law_281 (by decide) (fun c13 => ?_) (fun c13 => ?_)
            · rw [if_pos c13] at hN
              refine lv_iconst (v := 0) hx hb dL_law_288 (by decide) ?_
              exact absurd (Option.some.inj hN) (by decide)
            · rw [if_neg c13] at hN
              refine lv_iconst (v := 1) hx hb dL_law_284 (by decide) ?_
              refine lv_goto (tgt := 289) hx hb dL_law_285 (by decide) ?_
              refine va_forget (fun q hq => hS.2.2 q hq) ?_
              exact lw_ret hx hb hr hlocks dL_law_289
        · rw [if_neg c9] at hN
          refine lv_aload_n hx hb dL_law_42 rfl (lv_at hl 0 rfl) ?_
          refine lv_iconst (v := 2) hx hb dL_law_43 (by decide) ?_
          refine lv_iload_n hx hb dL_law_44 rfl (lv_at hl 3 rfl) ?_
          refine lv_imul hx hb dL_law_45 ?_
          obtain ⟨v14, hv14, hN⟩ := oB_spec hN
          rw [hlt] at hv14
          refine k_lotc hS hP (va_runS (As := [.ref b, .int ((2 : Int32) * x3)]) (rest := []) ⟨hx, hb, hml, hown, hts⟩ (c_L_lot l b N xs hN9 ((2 : Int32) * x3) v14 hv14) (va_cwS 2 hts gL_law_L_lot rfl rfl rfl (by decide +kernel) ⟨Nat.le_of_ble_eq_true rfl, Nat.le_of_ble_eq_true rfl⟩) (lot_pre hX0 hbl hbA hS) rfl rfl hl.1 rfl (lv_room (Nat.le_of_ble_eq_true rfl)) dL_law_46 ⟨Nat.le_refl _, Nat.le_refl _⟩) (fun H locs hP hS => ?_)
          refine lv_istore (lv' := [(4, .int v14), (0, .ref b), (1, .ref (ad 0)), (2, .int x2), (3, .int x3)]) hx hb dL_law_49 hl (by decide) rfl (fun ls hl => ?_)
          refine lv_aload_n hx hb dL_law_51 rfl (lv_at hl 1 rfl) ?_
          refine lv_iconst (v := 2) hx hb dL_law_52 (by decide) ?_
          refine lv_iload_n hx hb dL_law_53 rfl (lv_at hl 4 rfl) ?_
          refine lv_imul hx hb dL_law_54 ?_
          refine lv_iconst (v := 1) hx hb dL_law_55 (by decide) ?_
          refine lv_iadd hx hb dL_law_56 ?_
          obtain ⟨v15, hv15, hN⟩ := oB_spec hN
          rw [hlt] at hv15
          refine k_lotc hS hP (va_runS (As := [.ref b, .int (((2 : Int32) * x3) + (1 : Int32))]) (rest := []) ⟨hx, hb, hml, hown, hts⟩ (c_L_lot l b N xs hN9 (((2 : Int32) * x3) + (1 : Int32)) v15 hv15) (va_cwS 2 hts gL_law_L_lot rfl rfl rfl (by decide +kernel) ⟨Nat.le_of_ble_eq_true rfl, Nat.le_of_ble_eq_true rfl⟩) (lot_pre hX0 hbl hbA hS) rfl rfl hl.1 rfl (lv_room (Nat.le_of_ble_eq_true rfl)) dL_law_57 ⟨Nat.le_refl _, Nat.le_refl _⟩) (fun H locs hP hS => ?_)
          refine lv_istore (lv' := [(5, .int v15), (4, .int v14), (0, .ref b), (1, .ref (ad 0)), (2, .int x2), (3, .int x3)]) hx hb dL_law_60 hl (by decide) rfl (fun ls hl => ?_)
          refine lv_aload_n hx hb dL_law_62 rfl (lv_at hl 3 rfl) ?_
          obtain ⟨v16, hv16, hN⟩ := oB_spec hN
          refine k_lR hS (va_runS (As := [.ref (ad 0)]) (rest := []) ⟨hx, hb, hml, hown, hts⟩ (c_L_digest l g L hL G1 ad (x.1, x.2.1, x.2.2.1, x.2.2.2.1, x.2.2.2.2) hX v16 hv16) (va_cwS 1 hts gL_law_L_digest rfl rfl rfl (by decide +kernel) ⟨Nat.le_of_ble_eq_true rfl, Nat.le_of_ble_eq_true rfl⟩) (k_pre hC hS hP) rfl rfl hl.1 rfl (lv_room (Nat.le_of_ble_eq_true rfl)) dL_law_63 ⟨Nat.le_refl _, Nat.le_refl _⟩) (fun H locs hP hS => ?_)
          refine lv_lstore (lv' := [(6, .long v16), (5, .int v15), (4, .int v14), (0, .ref b), (1, .ref (ad 0)), (2, .int x2), (3, .int x3)]) hx hb dL_law_66 hl (by decide) rfl (fun ls hl => ?_)
          refine lv_aload_n hx hb dL_law_68 rfl (lv_at hl 4 rfl) ?_
          refine lv_bipush (v := 8) hx hb dL_law_69 (by decide) ?_
          obtain ⟨v18, hv18, hN⟩ := oB_spec hN
          refine k_iR hS (va_runV (As := [.int (8 : Int32)]) (rest := []) ⟨hx, hb, hml, hown, hts⟩ (c_X3_count l g L hL G1 ad (x.1, x.2.1, x.2.2.1, x.2.2.2.1, x.2.2.2.2) hX (8 : Int32) v18 hv18) (cwV 1 hts gL_law_X3_count rfl rfl rfl (by decide +kernel) ⟨Nat.le_of_ble_eq_true rfl, Nat.le_of_ble_eq_true rfl⟩) (k_preV (C := RX3) (T := TX3) (N := 3) hC hS hP (hX.m 0 (by omega)) hX.o0 rfl) rfl rfl hl.1 rfl (lv_room (Nat.le_of_ble_eq_true rfl)) dL_law_71 ⟨Nat.le_refl _, Nat.le_refl _⟩) (fun H locs hP hS => ?_)
          refine lv_istore (lv' := [(8, .int v18), (6, .long v16), (5, .int v15), (4, .int v14), (0, .ref b), (1, .ref (ad 0)), (2, .int x2), (3, .int x3)]) hx hb dL_law_74 hl (by decide) rfl (fun ls hl => ?_)
          refine lv_aload_n hx hb dL_law_76 rfl (lv_at hl 5 rfl) ?_
          refine lv_iload_n hx hb dL_law_77 rfl (lv_at hl 7 rfl) ?_
          refine lv_bipush (v := 6) hx hb dL_law_78 (by decide) ?_
          refine lv_icmp_ge (tgt := 91) hx hb dL_law_80 (by decide) (fun c20 => ?_) (fun c20 => ?_)
          · rw [if_pos c20] at hN
            refine lv_iload hx hb dL_law_91 (lv_at hl 3 rfl) ?_
            refine lv_iload hx hb dL_law_93 (lv_at hl 2 rfl) ?_
            obtain ⟨v21, w22, hv21, hN⟩ := oB2_spec hN
            refine k_iW hS (va_runS (As := [.ref (ad 0), .int v14, .int v15]) (rest := []) ⟨hx, hb, hml, hown, hts⟩ (c_L_acts l g L hL G1 ad (x.1, x.2.1, x.2.2.1, x.2.2.2.1, x.2.2.2.2) hX v14 v15 v21 w22 hv21) (va_cwS 3 hts gL_law_L_acts rfl rfl rfl (by decide +kernel) ⟨Nat.le_of_ble_eq_true rfl, Nat.le_of_ble_eq_true rfl⟩) (k_pre hC hS hP) rfl rfl hl.1 rfl (lv_room (Nat.le_of_ble_eq_true rfl)) dL_law_95 ⟨Nat.le_refl _, Nat.le_refl _⟩) (fun G23 H locs hq hP hS => ?_)
            have hX := hq
            refine lv_if_eq (tgt := 119) hx hb dL_law_98 (by decide) (fun c24 => ?_) (fun c24 => ?_)
            · rw [if_pos c24] at hN
              refine lv_iconst (v := 0) hx hb dL_law_119 (by decide) ?_
              refine lv_istore_n (lv' := [(2, .int (0 : Int32)), (8, .int v18), (6, .long v16), (5, .int v15), (4, .int v14), (0, .ref b), (1, .ref (ad 0)), (3, .int x3)]) hx hb dL_law_120 rfl hl (by decide) rfl (fun ls hl => ?_)
              exact jn121 (w22.1, w22.2.1, w22.2.2.1, w22.2.2.2.1, w22.2.2.2.2) (0 : Int32) x3 v15 v16 v18 _ _ _ _ hX hP hS (lv_sub hl [5, 6, 0, 7, 3, 2, 1] rfl) hN
            · rw [if_neg c24] at hN
              refine lv_iload_n hx hb dL_law_101 rfl (lv_at hl 7 rfl) ?_
              refine lv_iconst (v := 4) hx hb dL_law_102 (by decide) ?_
              obtain ⟨v58, hv58, hN⟩ := oB_spec hN
              refine lv_iremE hx hb dL_law_103 hv58 ?_
              refine lv_iconst (v := 3) hx hb dL_law_104 (by decide) ?_
              refine lv_icmp_ne (tgt := 115) hx hb dL_law_105 (by decide) (fun c59 => ?_) (fun c59 => ?_)
              · rw [if_neg c59] at hN
                refine lv_iconst (v := 1) hx hb dL_law_115 (by decide) ?_
                refine lv_goto (tgt := 120) hx hb dL_law_116 (by decide) ?_
                refine lv_istore_n (lv' := [(2, .int (1 : Int32)), (8, .int v18), (6, .long v16), (5, .int v15), (4, .int v14), (0, .ref b), (1, .ref (ad 0)), (3, .int x3)]) hx hb dL_law_120 rfl hl (by decide) rfl (fun ls hl => ?_)
                exact jn121 (w22.1, w22.2.1, w22.2.2.1, w22.2.2.2.1, w22.2.2.2.2) (1 : Int32) x3 v15 v16 v18 _ _ _ _ hX hP hS (lv_sub hl [5, 6, 0, 7, 3, 2, 1] rfl) hN
              · rw [if_pos c59] at hN
                refine lv_aload_n hx hb dL_law_108 rfl (lv_at hl 5 rfl) ?_
                obtain ⟨v60, hv60, hN⟩ := oB_spec hN
                refine k_iR hS (va_runS (As := [.ref (ad 0)]) (rest := []) ⟨hx, hb, hml, hown, hts⟩ (c_L_holds l g L hL G23 ad (w22.1, w22.2.1, w22.2.2.1, w22.2.2.2.1, w22.2.2.2.2) hX v60 hv60) (va_cwS 1 hts gL_law_L_holds rfl rfl rfl (by decide +kernel) ⟨Nat.le_of_ble_eq_true rfl, Nat.le_of_ble_eq_true rfl⟩) (k_pre hC hS hP) rfl rfl hl.1 rfl (lv_room (Nat.le_of_ble_eq_true rfl)) dL_law_109 ⟨Nat.le_refl _, Nat.le_refl _⟩) (fun H locs hP hS => ?_)
                refine lv_if_eq (tgt := 119) hx hb dL_law_112 (by decide) (fun c62 => ?_) (fun c62 => ?_)
                · rw [if_pos c62] at hN
                  refine lv_iconst (v := 0) hx hb dL_law_119 (by decide) ?_
                  refine lv_istore_n (lv' := [(2, .int (0 : Int32)), (8, .int v18), (6, .long v16), (5, .int v15), (4, .int v14), (0, .ref b), (1, .ref (ad 0)), (3, .int x3)]) hx hb dL_law_120 rfl hl (by decide) rfl (fun ls hl => ?_)
                  exact jn121 (w22.1, w22.2.1, w22.2.2.1, w22.2.2.2.1, w22.2.2.2.2) (0 : Int32) x3 v15 v16 v18 _ _ _ _ hX hP hS (lv_sub hl [5, 6, 0, 7, 3, 2, 1] rfl) hN
                · rw [if_neg c62] at hN
                  refine lv_iconst (v := 1) hx hb dL_law_115 (by decide) ?_
                  refine lv_goto (tgt := 120) hx hb dL_law_116 (by decide) ?_
                  refine lv_istore_n (lv' := [(2, .int (1 : Int32)), (8, .int v18), (6, .long v16), (5, .int v15), (4, .int v14), (0, .ref b), (1, .ref (ad 0)), (3, .int x3)]) hx hb dL_law_120 rfl hl (by decide) rfl (fun ls hl => ?_)
                  exact jn121 (w22.1, w22.2.1, w22.2.2.1, w22.2.2.2.1, w22.2.2.2.2) (1 : Int32) x3 v15 v16 v18 _ _ _ _ hX hP hS (lv_sub hl [5, 6, 0, 7, 3, 2, 1] rfl) hN
          · rw [if_neg c20] at hN
            refine lv_iload hx hb dL_law_83 (lv_at hl 3 rfl) ?_
            refine lv_bipush (v := (-16)) hx hb dL_law_85 (by decide) ?_
            refine lv_iand hx hb dL_law_87 ?_
            refine lv_goto (tgt := 93) hx hb dL_law_88 (by decide) ?_
            refine lv_iload hx hb dL_law_93 (lv_at hl 2 rfl) ?_
            obtain ⟨v63, w64, hv63, hN⟩ := oB2_spec hN
            refine k_iW hS (va_runS (As := [.ref (ad 0), .int (v14 &&& ((-16) : Int32)), .int v15]) (rest := []) ⟨hx, hb, hml, hown, hts⟩ (c_L_acts l g L hL G1 ad (x.1, x.2.1, x.2.2.1, x.2.2.2.1, x.2.2.2.2) hX (v14 &&& ((-16) : Int32)) v15 v63 w64 hv63) (va_cwS 3 hts gL_law_L_acts rfl rfl rfl (by decide +kernel) ⟨Nat.le_of_ble_eq_true rfl, Nat.le_of_ble_eq_true rfl⟩) (k_pre hC hS hP) rfl rfl hl.1 rfl (lv_room (Nat.le_of_ble_eq_true rfl)) dL_law_95 ⟨Nat.le_refl _, Nat.le_refl _⟩) (fun G65 H locs hq hP hS => ?_)
            have hX := hq
            refine lv_if_eq (tgt := 119) hx hb dL_law_98 (by decide) (fun c66 => ?_) (fun c66 => ?_)
            · rw [if_pos c66] at hN
              refine lv_iconst (v := 0) hx hb dL_law_119 (by decide) ?_
              refine lv_istore_n (lv' := [(2, .int (0 : Int32)), (8, .int v18), (6, .long v16), (5, .int v15), (4, .int v14), (0, .ref b), (1, .ref (ad 0)), (3, .int x3)]) hx hb dL_law_120 rfl hl (by decide) rfl (fun ls hl => ?_)
              exact jn121 (w64.1, w64.2.1, w64.2.2.1, w64.2.2.2.1, w64.2.2.2.2) (0 : Int32) x3 v15 v16 v18 _ _ _ _ hX hP hS (lv_sub hl [5, 6, 0, 7, 3, 2, 1] rfl) hN
            · rw [if_neg c66] at hN
              refine lv_iload_n hx hb dL_law_101 rfl (lv_at hl 7 rfl) ?_
              refine lv_iconst (v := 4) hx hb dL_law_102 (by decide) ?_
              obtain ⟨v67, hv67, hN⟩ := oB_spec hN
              refine lv_iremE hx hb dL_law_103 hv67 ?_
              refine lv_iconst (v := 3) hx hb dL_law_104 (by decide) ?_
              refine lv_icmp_ne (tgt := 115) hx hb dL_law_105 (by decide) (fun c68 => ?_) (fun c68 => ?_)
              · rw [if_neg c68] at hN
                refine lv_iconst (v := 1) hx hb dL_law_115 (by decide) ?_
                refine lv_goto (tgt := 120) hx hb dL_law_116 (by decide) ?_
                refine lv_istore_n (lv' := [(2, .int (1 : Int32)), (8, .int v18), (6, .long v16), (5, .int v15), (4, .int v14), (0, .ref b), (1, .ref (ad 0)), (3, .int x3)]) hx hb dL_law_120 rfl hl (by decide) rfl (fun ls hl => ?_)
                exact jn121 (w64.1, w64.2.1, w64.2.2.1, w64.2.2.2.1, w64.2.2.2.2) (1 : Int32) x3 v15 v16 v18 _ _ _ _ hX hP hS (lv_sub hl [5, 6, 0, 7, 3, 2, 1] rfl) hN
              · rw [if_pos c68] at hN
                refine lv_aload_n hx hb dL_law_108 rfl (lv_at hl 5 rfl) ?_
                obtain ⟨v69, hv69, hN⟩ := oB_spec hN
                refine k_iR hS (va_runS (As := [.ref (ad 0)]) (rest := []) ⟨hx, hb, hml, hown, hts⟩ (c_L_holds l g L hL G65 ad (w64.1, w64.2.1, w64.2.2.1, w64.2.2.2.1, w64.2.2.2.2) hX v69 hv69) (va_cwS 1 hts gL_law_L_holds rfl rfl rfl (by decide +kernel) ⟨Nat.le_of_ble_eq_true rfl, Nat.le_of_ble_eq_true rfl⟩) (k_pre hC hS hP) rfl rfl hl.1 rfl (lv_room (Nat.le_of_ble_eq_true rfl)) dL_law_109 ⟨Nat.le_refl _, Nat.le_refl _⟩) (fun H locs hP hS => ?_)
                refine lv_if_eq (tgt := 119) hx hb dL_law_112 (by decide) (fun c71 => ?_) (fun c71 => ?_)
                · rw [if_pos c71] at hN
                  refine lv_iconst (v := 0) hx hb dL_law_119 (by decide) ?_
                  refine lv_istore_n (lv' := [(2, .int (0 : Int32)), (8, .int v18), (6, .long v16), (5, .int v15), (4, .int v14), (0, .ref b), (1, .ref (ad 0)), (3, .int x3)]) hx hb dL_law_120 rfl hl (by decide) rfl (fun ls hl => ?_)
                  exact jn121 (w64.1, w64.2.1, w64.2.2.1, w64.2.2.2.1, w64.2.2.2.2) (0 : Int32) x3 v15 v16 v18 _ _ _ _ hX hP hS (lv_sub hl [5, 6, 0, 7, 3, 2, 1] rfl) hN
                · rw [if_neg c71] at hN
                  refine lv_iconst (v := 1) hx hb dL_law_115 (by decide) ?_
                  refine lv_goto (tgt := 120) hx hb dL_law_116 (by decide) ?_
                  refine lv_istore_n (lv' := [(2, .int (1 : Int32)), (8, .int v18), (6, .long v16), (5, .int v15), (4, .int v14), (0, .ref b), (1, .ref (ad 0)), (3, .int x3)]) hx hb dL_law_120 rfl hl (by decide) rfl (fun ls hl => ?_)
                  exact jn121 (w64.1, w64.2.1, w64.2.2.1, w64.2.2.2.1, w64.2.2.2.2) (1 : Int32) x3 v15 v16 v18 _ _ _ _ hX hP hS (lv_sub hl [5, 6, 0, 7, 3, 2, 1] rfl) hN
  have hN := hF
  unfold F_L_law at hN
  refine lv_aload_n hx hb dL_law_8 rfl (lv_at hl 0 rfl) ?_
  obtain ⟨v1, hv1, hN⟩ := oB_spec hN
  refine k_iR hS (va_runS (As := [.ref (ad 0)]) (rest := []) ⟨hx, hb, hml, hown, hts⟩ (c_L_holds l g L hL G ad (x.1, x.2.1, x.2.2.1, x.2.2.2.1, x.2.2.2.2) hX v1 hv1) (va_cwS 1 hts gL_law_L_holds rfl rfl rfl (by decide +kernel) ⟨Nat.le_of_ble_eq_true rfl, Nat.le_of_ble_eq_true rfl⟩) (k_pre hC hS hP) rfl rfl hl.1 rfl (lv_room (Nat.le_of_ble_eq_true rfl)) dL_law_9 ⟨Nat.le_refl _, Nat.le_refl _⟩) (fun H locs hP hS => ?_)
  refine lv_if_eq (tgt := 28) hx hb dL_law_12 (by decide) (fun c3 => ?_) (fun c3 => ?_)
  · rw [if_pos c3] at hN
    refine lv_iconst (v := 0) hx hb dL_law_28 (by decide) ?_
    refine lv_istore_n (lv' := [(2, .int (0 : Int32)), (1, .ref (ad 0)), (0, .ref b)]) hx hb dL_law_29 rfl hl (by decide) rfl (fun ls hl => ?_)
    refine lv_iconst (v := 0) hx hb dL_law_30 (by decide) ?_
    refine lv_istore_n (lv' := [(3, .int (0 : Int32)), (2, .int (0 : Int32)), (1, .ref (ad 0)), (0, .ref b)]) hx hb dL_law_31 rfl hl (by decide) rfl (fun ls hl => ?_)
    exact lp32 fuel (x.1, x.2.1, x.2.2.1, x.2.2.2.1, x.2.2.2.2) (0 : Int32) (0 : Int32)  _ _ _ _ hX hP hS (lv_sub hl [3, 2, 1, 0] rfl) hN
  · rw [if_neg c3] at hN
    refine lv_aload_n hx hb dL_law_15 rfl (lv_at hl 0 rfl) ?_
    obtain ⟨v72, w73, hv72, hN⟩ := oB2_spec hN
    refine k_iW hS (va_runV (As := []) (rest := []) ⟨hx, hb, hml, hown, hts⟩ (c_X3_undo l g L hL G ad (x.1, x.2.1, x.2.2.1, x.2.2.2.1, x.2.2.2.2) hX v72 w73 hv72) (cwV 0 hts gL_law_X3_undo rfl rfl rfl (by decide +kernel) ⟨Nat.le_of_ble_eq_true rfl, Nat.le_of_ble_eq_true rfl⟩) (k_preV (C := RX3) (T := TX3) (N := 3) hC hS hP (hX.m 0 (by omega)) hX.o0 rfl) rfl rfl hl.1 rfl (lv_room (Nat.le_of_ble_eq_true rfl)) dL_law_16 ⟨Nat.le_refl _, Nat.le_refl _⟩) (fun G74 H locs hq hP hS => ?_)
    have hX := hq
    refine lv_ldc (v := (-1000002)) hx hb hown (hts (.constant RL 68 (-1000002)) (List.mem_of_getElem? (i := 3) rfl)) dL_law_19 ?_
    refine lv_icmp_ne (tgt := 28) hx hb dL_law_21 (by decide) (fun c75 => ?_) (fun c75 => ?_)
    · rw [if_neg c75] at hN
      refine lv_iconst (v := 0) hx hb dL_law_28 (by decide) ?_
      refine lv_istore_n (lv' := [(2, .int (0 : Int32)), (1, .ref (ad 0)), (0, .ref b)]) hx hb dL_law_29 rfl hl (by decide) rfl (fun ls hl => ?_)
      refine lv_iconst (v := 0) hx hb dL_law_30 (by decide) ?_
      refine lv_istore_n (lv' := [(3, .int (0 : Int32)), (2, .int (0 : Int32)), (1, .ref (ad 0)), (0, .ref b)]) hx hb dL_law_31 rfl hl (by decide) rfl (fun ls hl => ?_)
      exact lp32 fuel (w73.1, w73.2.1, w73.2.2.1, w73.2.2.2.1, w73.2.2.2.2) (0 : Int32) (0 : Int32)  _ _ _ _ hX hP hS (lv_sub hl [3, 2, 1, 0] rfl) hN
    · rw [if_pos c75] at hN
      refine lv_iconst (v := 1) hx hb dL_law_24 (by decide) ?_
      refine lv_goto (tgt := 29) hx hb dL_law_25 (by decide) ?_
      refine lv_istore_n (lv' := [(2, .int (1 : Int32)), (1, .ref (ad 0)), (0, .ref b)]) hx hb dL_law_29 rfl hl (by decide) rfl (fun ls hl => ?_)
      refine lv_iconst (v := 0) hx hb dL_law_30 (by decide) ?_
      refine lv_istore_n (lv' := [(3, .int (0 : Int32)), (2, .int (1 : Int32)), (1, .ref (ad 0)), (0, .ref b)]) hx hb dL_law_31 rfl hl (by decide) rfl (fun ls hl => ?_)
      exact lp32 fuel (w73.1, w73.2.1, w73.2.2.1, w73.2.2.2.1, w73.2.2.2.2) (1 : Int32) (0 : Int32)  _ _ _ _ hX hP hS (lv_sub hl [3, 2, 1, 0] rfl) hN
set_option maxHeartbeats 16000000 in
set_option maxRecDepth 100000 in
theorem law_start (hF : ∀ lt : Int32 → Option Int32, (∀ i : Int32, ¬ i < 0 → ∃ v, lt i = some v) → F_L_law lt xI = some 1) {p : Program} {e : Env} {s : State} {m : MethodId} {below : List Frame} {meth : Method} {c : Code} (l : Launch) {b L : Nat} {xs : Nat → Int32} (hL : L ≤ 260) (C0 : lw_At p s m meth c b L xs) : W p l e room_1 s m #[Value.ref b] below meth c s.heap [] 0 0 (lw_Z below #[Value.ref b] s) (entryFrame m ([Value.ref b] : List Value).toArray 11) := by
  obtain ⟨hx, hb, hr, hml, hown0, hts0, hX0, hbl, hlocks, hgv⟩ := id C0
  have hown : s.vm.findClass RL = some m.cls := hown0
  have hts : ∀ w ∈ wsL_law, w.before #[Value.ref b] s = true := fun w h => hts0 w (wsL_law_in w h)
  have hA9 : ∀ a : Nat, a < s.heap.size → ¬ (fun q : Nat => s.heap.size ≤ q) a := fun a ha q => absurd ha (Nat.not_lt.mpr q)
  obtain ⟨c0, i0, hK0⟩ := u_known (C := RX0) (T := TX0) (N := 2) (n := 2) hts inlX0 (hts (.instantiable RX0 2) (List.mem_of_getElem? (i := 15) rfl))
  obtain ⟨c1, i1, hK1⟩ := u_known (C := RX1) (T := TX1) (N := 13) (n := 13) hts inlX1 (hts (.instantiable RX1 13) (List.mem_of_getElem? (i := 11) rfl))
  obtain ⟨c2, i2, hK2⟩ := u_known (C := RX2) (T := TX2) (N := 2) (n := 2) hts inlX2 (hts (.instantiable RX2 2) (List.mem_of_getElem? (i := 19) rfl))
  obtain ⟨c3, i3, hK3⟩ := u_known (C := RX3) (T := TX3) (N := 3) (n := 3) hts inlX3 (hts (.instantiable RX3 3) (List.mem_of_getElem? (i := 1) rfl))
  obtain ⟨cI, kI, pI, f1, f2, f3⟩ := Cond.arrayClass_spec (hts0 _ ai_in)
  obtain ⟨cJ, kJ, pJ, f4, f5, f6⟩ := Cond.arrayClass_spec (hts0 _ aj_in)
  have hAO : va_AO RX1 s := va_AO.of (hts0 _ ao_in)
  obtain ⟨pR, cR, kR, g1, g2, g3, g4, g5⟩ := Cond.arrayOver_spec hAO
  have hflat := flat_of_before _ hgv
  have hz : ∃ t : Nat, (Term.static "OrderedClauses" "VALUES_WITH_ATOM" "[J").eval #[Value.ref b] s none [] s = some (.ref t) ∧ va_T .long t 6 (fun j => .long (tabv j)) (fun q : Nat => s.heap.size ≤ q) s s.heap := by
    refine va_Tof (by decide) (hflat (Cond.arrayOf (Term.static "OrderedClauses" "VALUES_WITH_ATOM" "[J") .long) (by decide +kernel)) (va_eqt (hflat (Cond.eq (.length (Term.static "OrderedClauses" "VALUES_WITH_ATOM" "[J")) (.int 6)) (by decide +kernel))) (fun j hj => ?_) hA9
    rcases (show j = 0 ∨ j = 1 ∨ j = 2 ∨ j = 3 ∨ j = 4 ∨ j = 5 by omega) with rfl | rfl | rfl | rfl | rfl | rfl
    · exact va_eqtl (hflat (Cond.eq (.elem (Term.static "OrderedClauses" "VALUES_WITH_ATOM" "[J") (.int 0)) (.long (-6148914691236517206))) (by decide +kernel))
    · exact va_eqtl (hflat (Cond.eq (.elem (Term.static "OrderedClauses" "VALUES_WITH_ATOM" "[J") (.int 1)) (.long (-3689348814741910324))) (by decide +kernel))
    · exact va_eqtl (hflat (Cond.eq (.elem (Term.static "OrderedClauses" "VALUES_WITH_ATOM" "[J") (.int 2)) (.long (-1085102592571150096))) (by decide +kernel))
    · exact va_eqtl (hflat (Cond.eq (.elem (Term.static "OrderedClauses" "VALUES_WITH_ATOM" "[J") (.int 3)) (.long (-71777214294589696))) (by decide +kernel))
    · exact va_eqtl (hflat (Cond.eq (.elem (Term.static "OrderedClauses" "VALUES_WITH_ATOM" "[J") (.int 4)) (.long (-281470681808896))) (by decide +kernel))
    · exact va_eqtl (hflat (Cond.eq (.elem (Term.static "OrderedClauses" "VALUES_WITH_ATOM" "[J") (.int 5)) (.long (-4294967296))) (by decide +kernel))
  obtain ⟨tb, ht1, hT⟩ := hz
  have hZ : va_Z "OrderedClauses" "VALUES_WITH_ATOM" "[J" (.ref tb) (fun q : Nat => s.heap.size ≤ q) s s.heap := va_Zof (hts0 _ ls_in) (hts0 _ in3_in) ht1 hA9
  obtain ⟨g, hg⟩ : ∃ g : Gm, g = ((fun k => if k = 0 then c0 else if k = 1 then c1 else if k = 2 then c2 else c3, fun k => if k = 0 then i0 else if k = 1 then i1 else if k = 2 then i2 else i3), (cI, cJ, cR), tb) := ⟨_, rfl⟩
  have hK : va_K g.1 vwCl (tyl g) s := by
    rw [hg]
    refine ⟨fun k q hq => ?_, fun k q hq => ?_⟩
    · match k, hq with
      | 0, hq => cases hq; exact hK0
      | 1, hq => cases hq; exact hK1
      | 2, hq => cases hq; exact hK2
      | 3, hq => cases hq; exact hK3
      | k + 4, hq => simp [vwCl] at hq
    · match k, hq with
      | 0, hq => cases hq; exact ⟨fun n z => ⟨fun k h => (by cases h), kI, f2, pI, f3⟩, f1⟩
      | 1, hq => cases hq; exact ⟨fun n z => ⟨fun k h => (by cases h), kJ, f5, pJ, f6⟩, f4⟩
      | 2, hq => cases hq; exact ⟨fun n z => ⟨fun k h => (by cases h), kR, g3, pR, g4⟩, kR, pR, g3, g4, g1, g5⟩
      | k + 3, hq => simp [tyl] at hq
  have hN : nst s := ⟨fun q hq => va_Nw.of rfl (hts0 _ (nestF_in q hq)), fun q hq => va_Nw.of rfl (hts0 _ (nestM_in q hq))⟩
  have hC : Cx g (fun q : Nat => s.heap.size ≤ q) s s.heap := ⟨hK, hN, by rw [hg]; exact hZ, by rw [hg]; exact hT⟩
  have hO : kO (fun q : Nat => s.heap.size ≤ q) s := ⟨hAO, fun _ h => h⟩
  have hL0 : kL [] (fun q : Nat => s.heap.size ≤ q) := ⟨List.nodup_nil, fun _ h => absurd h List.not_mem_nil⟩
  have hP : va_P g.1 vwCl (va_pl [] (fun _ => .inr (0, []))) s.heap := fun k q h => by simp [va_pl] at h
  have hS : va_S (fun q : Nat => s.heap.size ≤ q) s.heap s.heap [] := va_S.rf
  have hl := lv_entry ([.ref b]) (n := 11) (Nat.le_of_ble_eq_true rfl)
  rw [lg_entry_eq]
  generalize (lg_sl ([.ref b]) ++ List.replicate (11 - (lg_sl ([.ref b])).length) Slot.unset).toArray = ls at hl ⊢
  have hl : lv_has ls 11 [(0, .ref b)] := hl
  refine n_obj (ci := 3) (fs := [.null, .null, .null]) (C := RX3) (T := TX3) (N := 3) hx hb hts inlX3 tyX3 tyX3_ok hown (hts (.classLink RL 14 RX3) (List.mem_of_getElem? (i := 0) rfl)) (hts (.instantiable RX3 3) (List.mem_of_getElem? (i := 1) rfl)) (hts (.initialized RX3) (List.mem_of_getElem? (i := 2) rfl)) hL0 hC hO hP hS rfl (fun j hj => by rcases (show j = 0 ∨ j = 1 ∨ j = 2 by omega) with rfl | rfl | rfl <;> rfl) (Nat.le_of_ble_eq_true rfl) (Nat.le_of_ble_eq_true rfl) dL_law_0 (fun q3 G3 H hq3 hL3 hG3 hk3 hP hS => ?_)
  refine W.widen (k := 1) (n := 3) (by omega) (by omega) ?_
  refine lv_dup hx hb dL_law_3 rfl ?_
  refine n_init hS (va_runI (As := []) (rest := [.ref q3]) ⟨hx, hb, hml, hown, hts⟩ (c_X3_init l g ([] ++ [q3]) hL3 G3 q3 (n_last _ _) hG3) (cwI 0 hts gL_law_X3_init rfl rfl rfl (hts (.initialized RX3) (List.mem_of_getElem? (i := 2) rfl)) (hts (.methodLink RL 100 yX3_init) (List.mem_of_getElem? (i := 4) rfl)) (hts (.instanceMethod yX3_init) (List.mem_of_getElem? (i := 5) rfl)) rfl (by decide +kernel) ⟨Nat.le_of_ble_eq_true rfl, Nat.le_of_ble_eq_true rfl⟩) (k_preO hC hO hS hP) rfl rfl hl.1 rfl (lv_room (Nat.le_of_ble_eq_true rfl)) dL_law_4 ⟨Nat.le_of_ble_eq_true rfl, Nat.le_of_ble_eq_true rfl⟩) (fun L3 G3b H locs hp3 hP hS => ?_)
  refine W.widen (k := 600000) (n := 7302250) (Nat.le_of_ble_eq_true rfl) (Nat.le_of_ble_eq_true rfl) ?_
  obtain ⟨N3, ad, ha0, e3, hL3b, hvX, hk3b⟩ := hp3
  dsimp only at e3 hL3b hvX hk3b
  refine lv_astore_n (lv' := [(1, .ref q3), (0, .ref b)]) hx hb dL_law_7 rfl hl (by decide) rfl (fun ls hl => ?_)
  have hPz := hP
  have hSz := hS
  have hlz := hl
  subst ha0
  exact law_body hL C0 hL3b hC ad (lotF L xs) rfl xI (hF _ lotF_some) _ hvX H locs hPz hSz ls hlz
