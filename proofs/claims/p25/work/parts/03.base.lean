/-! The heap as a map from addresses to cells (a pool), and one row an instruction over it. -/
/-- the classes' ids and slots; the array classes of int, long, Store; the address of the table of values -/
abbrev Gm : Type := va_G × (ClassId × ClassId × ClassId) × Nat
abbrev gI (g : Gm) : ClassId := g.2.1.1
abbrev gJ (g : Gm) : ClassId := g.2.1.2.1
abbrev gR (g : Gm) : ClassId := g.2.1.2.2
abbrev gT (g : Gm) : Nat := g.2.2
abbrev tyl (g : Gm) : List (ClassId × FieldType) := [(gI g, .int), (gJ g, .long), (gR g, .object RX1)]
def tabv (j : Nat) : Int64 := match j with
  | 0 => -6148914691236517206
  | 1 => -3689348814741910324
  | 2 => -1085102592571150096
  | 3 => -71777214294589696
  | 4 => -281470681808896
  | _ => -4294967296
def nestF : List (String × Nat × String × String × String × String) := [(RX3, 67, RX1, "literals", "[I", RX3), (RX3, 75, RX1, "status", "[I", RX3), (RX3, 84, RX1, "holdingParent", "[I", RX3), (RX3, 87, RX1, "otherParent", "[I", RX3), (RX3, 90, RX1, "atomMadeBy", "[I", RX3), (RX3, 101, RX1, "depth", "[I", RX3), (RX3, 57, RX1, "clauses", "I", RX3), (RX3, 60, RX1, "steps", "I", RX3), (RX3, 47, RX1, "setting", "I", RX3), (RX3, 153, RX1, "heldAlways", "I", RX3), (RX3, 156, RX1, "hadAnotherWithin", "I", RX3), (RX3, 159, RX0, "kept", "I", RX3), (RX3, 190, RX2, "characters", "[I", RX3), (RX3, 162, RX2, "length", "I", RX3)]
def nestM : List (String × Nat × MethodName × String) := [(RX3, 9, yX1_init, RX3), (RX1, 53, yX3_put, RX3), (RX3, 18, yX0_init, RX3), (RX0, 21, yX1_init, RX3), (RX3, 25, yX2_init, RX3), (RX3, 150, yX1_howMany, RX3), (RX1, 65, yX3_at, RX3), (RX3, 165, yX1_rankOf, RX3), (RX3, 168, yX0_restoreLatest, RX3), (RX0, 26, yX1_copyFrom, RX3), (RX1, 57, yX3_copyRow, RX3), (RX1, 61, yX3_copyLongRow, RX3), (RX3, 63, yX1_has, RX3), (RX3, 78, yX1_greatestOf, RX3), (RX3, 98, yX1_howManyLessThan, RX3), (RX1, 76, yX3_isIn, RX3), (RX3, 117, yX1_toldClauses, RX3), (RX1, 139, yX3_setOf, RX3), (RX3, 121, yX1_valuesFulfilling, RX3), (RX1, 147, yX3_longAt, RX3), (RX3, 114, yX1_emptyClause, RX3), (RX3, 104, yX1_treeOf, RX3), (RX3, 137, yX1_fewestUnfulfillable, RX3), (RX3, 31, yX0_putAside, RX3), (RX3, 35, yX1_bring, RX3), (RX1, 88, yX3_holdsAlways, RX3), (RX1, 103, yX3_isWithin, RX3), (RX1, 112, yX3_valuesOfClause, RX3), (RX1, 116, yX3_putLong, RX3), (RX3, 184, yX0_takeBack, RX3), (RX3, 187, yX0_keep, RX3), (RX3, 43, yX1_changeRank, RX3), (RX3, 51, yX1_takeStep, RX3), (RX3, 172, yX2_add, RX3), (RX2, 19, yX3_put, RX3), (RX3, 175, yX2_whereItBreaksOff, RX3), (RX2, 23, yX3_at, RX3), (RX3, 178, yX2_startOfClause, RX3)]
def nst (U : State) : Prop := (∀ q ∈ nestF, va_Nw (.fieldLinkNest q.1 q.2.1 q.2.2.1 q.2.2.2.1 q.2.2.2.2.1 q.2.2.2.2.2) U) ∧ (∀ q ∈ nestM, va_Nw (.methodLinkNest q.1 q.2.1 q.2.2.1 q.2.2.2) U)
theorem nst.warm {s U : State} (hW : s.WarmedH U.vm) (h : nst s) : nst U := ⟨fun q hq => va_Nw.warmF hW (h.1 q hq), fun q hq => va_Nw.warmM hW (h.2 q hq)⟩
theorem nst.same {u U : State} (e : u.vm = U.vm) (h : nst u) : nst U := ⟨fun q hq => va_Nw.same rfl e (h.1 q hq), fun q hq => va_Nw.same rfl e (h.2 q hq)⟩
abbrev kL (L : List Nat) (A : Nat → Prop) : Prop := L.Nodup ∧ ∀ q, q ∈ L → A q
/-- what holds of the tables and of the table of values, whatever our own cells hold -/
def Cx (g : Gm) (A : Nat → Prop) (U : State) (H : Heap) : Prop :=
  va_K g.1 vwCl (tyl g) U ∧ nst U ∧ va_Z "OrderedClauses" "VALUES_WITH_ATOM" "[J" (.ref (gT g)) A U H ∧ va_T .long (gT g) 6 (fun j => .long (tabv j)) A U H
theorem Cx.go {g : Gm} {A : Nat → Prop} {s U : State} {H : Heap} {locs : List Loc} (hC : Cx g A s s.heap) (hS : va_S A s.heap H locs) (hU : U.heap = H) (hW : s.WarmedH U.vm) : Cx g A U U.heap :=
  ⟨va_K.moved hW.alike hC.1, nst.warm hW hC.2.1, by rw [hU]; exact va_Z.moved hW.alike (va_Z.kept hC.2.2.1 hS.2.1), by rw [hU]; exact va_T.moved hW.alike (va_T.kept hC.2.2.2 hS.2.1)⟩
abbrev kB (g : Gm) (L : List Nat) (A : Nat → Prop) (G : Nat → va_E) (U : State) : Prop := va_P g.1 vwCl (va_pl L G) U.heap ∧ Cx g A U U.heap
abbrev kE (g : Gm) (L : List Nat) (G : Nat → va_E) (t : State) : Prop := va_P g.1 vwCl (va_pl L G) t.heap
theorem k_blind {g : Gm} {L : List Nat} {A : Nat → Prop} {G : Nat → va_E} {As : List Value} : FrameBlind (va_Pc As (kB g L A G)) := fun a U gg mk q =>
  ⟨q.1, q.2.1, va_K.moved (u := U) (U := U.calling gg mk a) (Vm.Alike.refl U.vm) q.2.2.1, nst.same (u := U) (U := U.calling gg mk a) rfl q.2.2.2.1, va_Z.moved (u := U) (U := U.calling gg mk a) (Vm.Alike.refl U.vm) q.2.2.2.2.1, va_T.moved (u := U) (U := U.calling gg mk a) (Vm.Alike.refl U.vm) q.2.2.2.2.2⟩
theorem k_pre {g : Gm} {L : List Nat} {A : Nat → Prop} {G : Nat → va_E} {As : List Value} {s : State} {H : Heap} {locs : List Loc} (hC : Cx g A s s.heap) (hS : va_S A s.heap H locs) (hP : va_P g.1 vwCl (va_pl L G) H) : PreS s H (va_Pc As (kB g L A G)) As :=
  ⟨k_blind, fun U hU hW => ⟨rfl, by rw [hU]; exact hP, hC.go hS hU hW⟩⟩
theorem k_plget {L : List Nat} {G : Nat → va_E} {a : Nat} {e : va_E} (ha : a ∈ L) (hG : G a = e) : ∃ k : Nat, (va_pl L G)[k]? = some (a, e) := by
  obtain ⟨k, hk⟩ := va_pl_get (X := []) (f := G) ha
  exact ⟨k, by rw [← hG]; exact hk⟩
theorem k_plD {L : List Nat} {A : Nat → Prop} (hL : kL L A) (G : Nat → va_E) : va_D A (va_pl L G) := by
  have at' : ∀ (i : Nat) (p : Nat × va_E), (va_pl L G)[i]? = some p → L[i]? = some p.1 := by
    intro i p h
    simp only [va_pl, List.getElem?_map] at h
    cases hb : L[i]? with
    | none => rw [hb] at h; cases h
    | some b => rw [hb] at h; cases h; rfl
  refine ⟨fun i j p q hp hq e => ?_, fun k q h => hL.2 _ (List.mem_of_getElem? (at' k q h))⟩
  have h1 := at' i p hp
  have h2 := at' j q hq
  exact (List.getElem?_inj (List.getElem?_eq_some_iff.mp h1).1 hL.1).mp (by rw [h1, h2, e])
theorem k_plset {L : List Nat} {A : Nat → Prop} (hL : kL L A) {G : Nat → va_E} {a k : Nat} {e0 e : va_E} (ha : a ∈ L) (hG : G a = e0) (hk : (va_pl L G)[k]? = some (a, e0)) : (va_pl L G).set k (a, e) = va_pl L (va_up G a e) :=
  va_pl_set (X := []) (k_plD hL G) ha (by rw [hG]; exact hk)
theorem k_preV {g : Gm} {L : List Nat} {A : Nat → Prop} {G : Nat → va_E} {b : Nat} {As : List Value} {s : State} {H : Heap} {locs : List Loc} {ci : Nat} {fs : List Value} {C : String} {T : u_T} {N : Nat} (hC : Cx g A s s.heap) (hS : va_S A s.heap H locs) (hP : va_P g.1 vwCl (va_pl L G) H) (hb : b ∈ L) (hG : G b = .inr (ci, fs)) (hc : vwCl[ci]? = some (C, T, N)) : PreV s H C b (va_Pc (.ref b :: As) (kB g L A G)) As := by
  obtain ⟨k, hk⟩ := k_plget hb hG
  exact ⟨k_blind, va_recv hC.1 hP (q0 := k) hc hk, fun U hU hW => ⟨rfl, by rw [hU]; exact hP, hC.go hS hU hW⟩⟩
/-! reads of arrays, as partial functions -/
def aLd {α : Type} (f : Nat → α) (n : Nat) (i : Int32) : Option α := if i < 0 ∨ n ≤ i.toNatClampNeg then none else some (f i.toNatClampNeg)
theorem aLd_spec {α : Type} {f : Nat → α} {n : Nat} {i : Int32} {v : α} (h : aLd f n i = some v) : vp_in i n ∧ v = f i.toNatClampNeg := by
  unfold aLd at h
  split at h
  · cases h
  · rename_i h1
    exact ⟨h1, (Option.some.inj h).symm⟩
def aSt (f : Nat → Int32) (n : Nat) (i : Int32) (x : Int32) : Option (Nat → Int32) := if i < 0 ∨ n ≤ i.toNatClampNeg then none else some (upd f i.toNatClampNeg x)
theorem aSt_spec {f : Nat → Int32} {n : Nat} {i x : Int32} {v : Nat → Int32} (h : aSt f n i x = some v) : vp_in i n ∧ v = upd f i.toNatClampNeg x := by
  unfold aSt at h
  split at h
  · cases h
  · rename_i h1
    exact ⟨h1, (Option.some.inj h).symm⟩
def aStL (f : Nat → Int64) (n : Nat) (i : Int32) (x : Int64) : Option (Nat → Int64) := if i < 0 ∨ n ≤ i.toNatClampNeg then none else some (vp_updL f i.toNatClampNeg x)
theorem aStL_spec {f : Nat → Int64} {n : Nat} {i : Int32} {x : Int64} {v : Nat → Int64} (h : aStL f n i x = some v) : vp_in i n ∧ v = vp_updL f i.toNatClampNeg x := by
  unfold aStL at h
  split at h
  · cases h
  · rename_i h1
    exact ⟨h1, (Option.some.inj h).symm⟩
def oB {α β : Type} (o : Option α) (f : α → Option β) : Option β := match o with
  | none => none
  | some a => f a
theorem oB_spec {α β : Type} {o : Option α} {f : α → Option β} {r : β} (h : oB o f = some r) : ∃ a, o = some a ∧ f a = some r := by
  cases o with
  | none => cases h
  | some a => exact ⟨a, rfl, h⟩
def oB2 {α β γ : Type} (o : Option (α × β)) (f : α → β → Option γ) : Option γ := match o with
  | none => none
  | some (a, b) => f a b
theorem oB2_spec {α β γ : Type} {o : Option (α × β)} {f : α → β → Option γ} {r : γ} (h : oB2 o f = some r) : ∃ a b, o = some (a, b) ∧ f a b = some r := by
  cases o with
  | none => cases h
  | some a => exact ⟨a.1, a.2, rfl, h⟩
/-- what is returned as a boolean is 0 or 1 -/
def oZ {β : Type} (v : Int32) (o : Option β) : Option β := if v &&& 1 = v then o else none
theorem oZ_spec {β : Type} {v : Int32} {o : Option β} {r : β} (h : oZ v o = some r) : narrow .boolean (.int v) = .int v ∧ o = some r := by
  unfold oZ at h
  split at h
  · rename_i h1
    refine ⟨?_, h⟩
    simp [narrow, h1]
  · cases h
section KX
variable {p : Program} {l : Launch} {e : Env} {R : Room} {s : State} {m : MethodId} {args : Array Value} {below : List Frame} {meth : Method} {c : Code} {H : Heap} {locs : List Loc} {cells slots : Nat} {Q : State → Prop} {cc : ByteArray} {pc : Nat} {ls : Array Slot} {rest st0 : List Value} {a : Array Value} {g : Gm} {L : List Nat} {A : Nat → Prop} {G : Nat → va_E}
theorem k_i {post : Int32 → (Nat → va_E) → Prop} (hS : va_S A s.heap H locs) (hr : va_Run p l e R s m args below meth c H locs cells slots 0 0 (F0 m pc ls st0) rest (va_Qi post (kE g L) A a) A) (kk : ∀ (r : Int32) (G1 : Nat → va_E) (H1 : Heap) (locs1 : List Loc), post r G1 → va_P g.1 vwCl (va_pl L G1) H1 → va_S A s.heap H1 locs1 → W p l e R s m args below meth c H1 locs1 cells slots Q (F0 m (pc + 3) ls (.int r :: rest))) : W p l e R s m args below meth c H locs cells slots Q (F0 m pc ls st0) :=
  va_calli hr hS (fun _ _ h => h) (fun _ h => h) (fun r u t H1 locs1 ht _ hp hb _ _ hS1 => kk r u H1 locs1 hp (ht ▸ hb) hS1)
theorem k_l {post : Int64 → (Nat → va_E) → Prop} (hS : va_S A s.heap H locs) (hr : va_Run p l e R s m args below meth c H locs cells slots 0 0 (F0 m pc ls st0) rest (va_Ql post (kE g L) A a) A) (kk : ∀ (r : Int64) (G1 : Nat → va_E) (H1 : Heap) (locs1 : List Loc), post r G1 → va_P g.1 vwCl (va_pl L G1) H1 → va_S A s.heap H1 locs1 → W p l e R s m args below meth c H1 locs1 cells slots Q (F0 m (pc + 3) ls (.long r :: rest))) : W p l e R s m args below meth c H locs cells slots Q (F0 m pc ls st0) :=
  va_calll hr hS (fun _ _ h => h) (fun _ h => h) (fun r u t H1 locs1 ht _ hp hb _ _ hS1 => kk r u H1 locs1 hp (ht ▸ hb) hS1)
theorem k_v {post : (Nat → va_E) → Prop} (hS : va_S A s.heap H locs) (hr : va_Run p l e R s m args below meth c H locs cells slots 0 0 (F0 m pc ls st0) rest (va_Qv post (kE g L) A a) A) (kk : ∀ (G1 : Nat → va_E) (H1 : Heap) (locs1 : List Loc), post G1 → va_P g.1 vwCl (va_pl L G1) H1 → va_S A s.heap H1 locs1 → W p l e R s m args below meth c H1 locs1 cells slots Q (F0 m (pc + 3) ls rest)) : W p l e R s m args below meth c H locs cells slots Q (F0 m pc ls st0) :=
  va_callv hr hS (fun _ _ h => h) (fun _ h => h) (fun u t H1 locs1 ht _ hp hb _ _ hS1 => kk u H1 locs1 hp (ht ▸ hb) hS1)
theorem k_q {post : Option Nat → (Nat → va_E) → Prop} (hS : va_S A s.heap H locs) (hr : va_Run p l e R s m args below meth c H locs cells slots 0 0 (F0 m pc ls st0) rest (va_Qq post (kE g L) A a) A) (kk : ∀ (r : Option Nat) (G1 : Nat → va_E) (H1 : Heap) (locs1 : List Loc), post r G1 → va_P g.1 vwCl (va_pl L G1) H1 → va_S A s.heap H1 locs1 → W p l e R s m args below meth c H1 locs1 cells slots Q (F0 m (pc + 3) ls (va_rf r :: rest))) : W p l e R s m args below meth c H locs cells slots Q (F0 m pc ls st0) :=
  va_callq hr hS (fun _ _ h => h) (fun _ h => h) (fun r u t H1 locs1 ht _ hp hb _ _ hS1 => kk r u H1 locs1 hp (ht ▸ hb) hS1)
theorem k_get (hexec : p.tables.exec = Jvm.exec) (hb : c.code = cc) {own C : String} {T : u_T} {N ci index : Nat} {Ts : List Cond} (hts : ∀ w ∈ Ts, w.before args s = true) (hin : ∀ w ∈ u_ws C T N, w ∈ Ts) (hown : s.vm.findClass own = some m.cls) (hC : Cx g A s s.heap) (hP : va_P g.1 vwCl (va_pl L G) H) {b : Nat} {fs : List Value} (hbL : b ∈ L) (hG : G b = .inr (ci, fs)) (hc : vwCl[ci]? = some (C, T, N)) (k : Nat) (hk : k < N) (hlink : (Cond.fieldLink own index (T k).1 (T k).2.1 (T k).2.2.1).before args s = true) {v : Value} (hv : fs[k]? = some v) (hdg : decode cc pc = .ok (.getfield index, 3))
    (kk : W p l e R s m args below meth c H locs cells slots Q (F0 m (pc + 3) ls (v :: rest))) : W p l e R s m args below meth c H locs cells slots Q (F0 m pc ls (.ref b :: rest)) := by
  obtain ⟨q, hq⟩ := k_plget hbL hG
  exact va_get hexec hb hts hin hown hC.1 hP q hq hc k hk hlink (fun _ h => h) hv hdg kk
theorem k_getN (hexec : p.tables.exec = Jvm.exec) (hb : c.code = cc) {own C host : String} {T : u_T} {N ci index : Nat} {Ts : List Cond} (hts : ∀ w ∈ Ts, w.before args s = true) (hin : ∀ w ∈ u_ws C T N, w ∈ Ts) (hown : s.vm.findClass own = some m.cls) (hC : Cx g A s s.heap) (hP : va_P g.1 vwCl (va_pl L G) H) {b : Nat} {fs : List Value} (hbL : b ∈ L) (hG : G b = .inr (ci, fs)) (hc : vwCl[ci]? = some (C, T, N)) (k : Nat) (hk : k < N) (hlink : va_Nw (.fieldLinkNest own index (T k).1 (T k).2.1 (T k).2.2.1 host) s) {v : Value} (hv : fs[k]? = some v) (hdg : decode cc pc = .ok (.getfield index, 3))
    (kk : W p l e R s m args below meth c H locs cells slots Q (F0 m (pc + 3) ls (v :: rest))) : W p l e R s m args below meth c H locs cells slots Q (F0 m pc ls (.ref b :: rest)) := by
  obtain ⟨q, hq⟩ := k_plget hbL hG
  exact va_getN hexec hb hts hin hown hC.1 hP q hq hc k hk (va_Nw.use rfl hlink) (fun _ h => h) hv hdg kk
theorem k_put (hexec : p.tables.exec = Jvm.exec) (hb : c.code = cc) {own C : String} {T : u_T} {N ci index : Nat} {Ts : List Cond} (hts : ∀ w ∈ Ts, w.before args s = true) (hin : ∀ w ∈ u_ws C T N, w ∈ Ts) (ty0 : Nat → FieldType) (hty : ∀ k, k < N → parseFieldDescriptor (T k).2.2.1 = some (ty0 k)) (hnm : ∀ a, a < N → ∀ b, b < N → a ≠ b → (T a).2.1 ≠ (T b).2.1) (hown : s.vm.findClass own = some m.cls) (hL : kL L A) (hC : Cx g A s s.heap) (hP : va_P g.1 vwCl (va_pl L G) H) (hS : va_S A s.heap H locs) {b : Nat} {fs : List Value} (hbL : b ∈ L) (hG : G b = .inr (ci, fs)) (hc : vwCl[ci]? = some (C, T, N)) (k : Nat) (hk : k < N) (hlink : (Cond.fieldLink own index (T k).1 (T k).2.1 (T k).2.2.1).before args s = true) (hfin : (T k).2.2.2 = false) {ty : FieldType} {v : Value} (hd : parseFieldDescriptor (T k).2.2.1 = some ty) (hn : narrow ty v = v) (hfit : fits ty v = true) (hl : k < fs.length) (hdg : decode cc pc = .ok (.putfield index, 3))
    (kk : ∀ (H1 : Heap) (locs1 : List Loc), va_P g.1 vwCl (va_pl L (va_up G b (.inr (ci, fs.set k v)))) H1 → va_S A s.heap H1 locs1 → W p l e R s m args below meth c H1 locs1 cells slots Q (F0 m (pc + 3) ls rest)) : W p l e R s m args below meth c H locs cells slots Q (F0 m pc ls (v :: .ref b :: rest)) := by
  obtain ⟨q, hq⟩ := k_plget hbL hG
  exact va_put hexec hb hts hin ty0 hty hnm hown hC.1 hP (k_plD hL G) hS q hq hc k hk hlink (fun _ h => h) hfin hd hn hfit hl hdg (fun H1 locs1 h1 _ h3 => kk H1 locs1 (by rw [← k_plset hL hbL hG hq]; exact h1) h3)
theorem k_putN (hexec : p.tables.exec = Jvm.exec) (hb : c.code = cc) {own C host : String} {T : u_T} {N ci index : Nat} {Ts : List Cond} (hts : ∀ w ∈ Ts, w.before args s = true) (hin : ∀ w ∈ u_ws C T N, w ∈ Ts) (ty0 : Nat → FieldType) (hty : ∀ k, k < N → parseFieldDescriptor (T k).2.2.1 = some (ty0 k)) (hnm : ∀ a, a < N → ∀ b, b < N → a ≠ b → (T a).2.1 ≠ (T b).2.1) (hown : s.vm.findClass own = some m.cls) (hL : kL L A) (hC : Cx g A s s.heap) (hP : va_P g.1 vwCl (va_pl L G) H) (hS : va_S A s.heap H locs) {b : Nat} {fs : List Value} (hbL : b ∈ L) (hG : G b = .inr (ci, fs)) (hc : vwCl[ci]? = some (C, T, N)) (k : Nat) (hk : k < N) (hlink : va_Nw (.fieldLinkNest own index (T k).1 (T k).2.1 (T k).2.2.1 host) s) (hfin : (T k).2.2.2 = false) {ty : FieldType} {v : Value} (hd : parseFieldDescriptor (T k).2.2.1 = some ty) (hn : narrow ty v = v) (hfit : fits ty v = true) (hl : k < fs.length) (hdg : decode cc pc = .ok (.putfield index, 3))
    (kk : ∀ (H1 : Heap) (locs1 : List Loc), va_P g.1 vwCl (va_pl L (va_up G b (.inr (ci, fs.set k v)))) H1 → va_S A s.heap H1 locs1 → W p l e R s m args below meth c H1 locs1 cells slots Q (F0 m (pc + 3) ls rest)) : W p l e R s m args below meth c H locs cells slots Q (F0 m pc ls (v :: .ref b :: rest)) := by
  obtain ⟨q, hq⟩ := k_plget hbL hG
  exact va_putN hexec hb hts hin ty0 hty hnm hown hC.1 hP (k_plD hL G) hS q hq hc k hk (va_Nw.use rfl hlink) (fun _ h => h) hfin hd hn hfit hl hdg (fun H1 locs1 h1 _ h3 => kk H1 locs1 (by rw [← k_plset hL hbL hG hq]; exact h1) h3)
theorem k_ild (hexec : p.tables.exec = Jvm.exec) (hb : c.code = cc) (hC : Cx g A s s.heap) (hP : va_P g.1 vwCl (va_pl L G) H) {b n : Nat} {f : Nat → Int32} (hbL : b ∈ L) (hG : G b = .inl (gI g, n, .inl f)) {i : Int32} (hin : vp_in i n) (hdg : decode cc pc = .ok (.iaload, 1))
    (kk : W p l e R s m args below meth c H locs cells slots Q (F0 m (pc + 1) ls (.int (f i.toNatClampNeg) :: rest))) : W p l e R s m args below meth c H locs cells slots Q (F0 m pc ls (.int i :: .ref b :: rest)) := by
  obtain ⟨q, hq⟩ := k_plget hbL hG
  exact va_iald hexec hb hC.1 hP q 0 hq rfl hin hdg kk
theorem k_lld (hexec : p.tables.exec = Jvm.exec) (hb : c.code = cc) (hC : Cx g A s s.heap) (hP : va_P g.1 vwCl (va_pl L G) H) {b n : Nat} {f : Nat → Int64} (hbL : b ∈ L) (hG : G b = .inl (gJ g, n, .inr (.inl f))) {i : Int32} (hin : vp_in i n) (hdg : decode cc pc = .ok (.laload, 1))
    (kk : W p l e R s m args below meth c H locs cells slots Q (F0 m (pc + 1) ls (.long (f i.toNatClampNeg) :: rest))) : W p l e R s m args below meth c H locs cells slots Q (F0 m pc ls (.int i :: .ref b :: rest)) := by
  obtain ⟨q, hq⟩ := k_plget hbL hG
  exact va_lald hexec hb hC.1 hP q 1 hq rfl hin hdg kk
theorem k_ist (hexec : p.tables.exec = Jvm.exec) (hb : c.code = cc) (hL : kL L A) (hC : Cx g A s s.heap) (hP : va_P g.1 vwCl (va_pl L G) H) (hS : va_S A s.heap H locs) {b n : Nat} {f : Nat → Int32} (hbL : b ∈ L) (hG : G b = .inl (gI g, n, .inl f)) {i x : Int32} (hin : vp_in i n) (hdg : decode cc pc = .ok (.iastore, 1))
    (kk : ∀ (H1 : Heap) (locs1 : List Loc), va_P g.1 vwCl (va_pl L (va_up G b (.inl (gI g, n, .inl (upd f i.toNatClampNeg x))))) H1 → va_S A s.heap H1 locs1 → W p l e R s m args below meth c H1 locs1 cells slots Q (F0 m (pc + 1) ls rest)) : W p l e R s m args below meth c H locs cells slots Q (F0 m pc ls (.int x :: .int i :: .ref b :: rest)) := by
  obtain ⟨q, hq⟩ := k_plget hbL hG
  exact va_iast hexec hb hC.1 hP (k_plD hL G) hS q 0 hq rfl hin hdg (fun H1 locs1 h1 _ h3 => kk H1 locs1 (by rw [← k_plset hL hbL hG hq]; exact h1) h3)
theorem k_lst (hexec : p.tables.exec = Jvm.exec) (hb : c.code = cc) (hL : kL L A) (hC : Cx g A s s.heap) (hP : va_P g.1 vwCl (va_pl L G) H) (hS : va_S A s.heap H locs) {b n : Nat} {f : Nat → Int64} (hbL : b ∈ L) (hG : G b = .inl (gJ g, n, .inr (.inl f))) {i : Int32} {x : Int64} (hin : vp_in i n) (hdg : decode cc pc = .ok (.lastore, 1))
    (kk : ∀ (H1 : Heap) (locs1 : List Loc), va_P g.1 vwCl (va_pl L (va_up G b (.inl (gJ g, n, .inr (.inl (vp_updL f i.toNatClampNeg x)))))) H1 → va_S A s.heap H1 locs1 → W p l e R s m args below meth c H1 locs1 cells slots Q (F0 m (pc + 1) ls rest)) : W p l e R s m args below meth c H locs cells slots Q (F0 m pc ls (.long x :: .int i :: .ref b :: rest)) := by
  obtain ⟨q, hq⟩ := k_plget hbL hG
  exact va_last hexec hb hC.1 hP (k_plD hL G) hS q 1 hq rfl hin hdg (fun H1 locs1 h1 _ h3 => kk H1 locs1 (by rw [← k_plset hL hbL hG hq]; exact h1) h3)
theorem k_leni (hexec : p.tables.exec = Jvm.exec) (hb : c.code = cc) (hC : Cx g A s s.heap) (hP : va_P g.1 vwCl (va_pl L G) H) {b n : Nat} {f : Nat → Int32} (hbL : b ∈ L) (hG : G b = .inl (gI g, n, .inl f)) (hdg : decode cc pc = .ok (.arraylength, 1))
    (kk : W p l e R s m args below meth c H locs cells slots Q (F0 m (pc + 1) ls (.int (Int32.ofNat n) :: rest))) : W p l e R s m args below meth c H locs cells slots Q (F0 m pc ls (.ref b :: rest)) := by
  obtain ⟨q, hq⟩ := k_plget hbL hG
  exact va_alen hexec hb hC.1 hP q 0 hq rfl rfl hdg kk
theorem k_lenl (hexec : p.tables.exec = Jvm.exec) (hb : c.code = cc) (hC : Cx g A s s.heap) (hP : va_P g.1 vwCl (va_pl L G) H) {b n : Nat} {f : Nat → Int64} (hbL : b ∈ L) (hG : G b = .inl (gJ g, n, .inr (.inl f))) (hdg : decode cc pc = .ok (.arraylength, 1))
    (kk : W p l e R s m args below meth c H locs cells slots Q (F0 m (pc + 1) ls (.int (Int32.ofNat n) :: rest))) : W p l e R s m args below meth c H locs cells slots Q (F0 m pc ls (.ref b :: rest)) := by
  obtain ⟨q, hq⟩ := k_plget hbL hG
  exact va_alen hexec hb hC.1 hP q 1 hq rfl rfl hdg kk
theorem k_lenr (hexec : p.tables.exec = Jvm.exec) (hb : c.code = cc) (hC : Cx g A s s.heap) (hP : va_P g.1 vwCl (va_pl L G) H) {b n : Nat} {f : Nat → Option Nat} (hbL : b ∈ L) (hG : G b = .inl (gR g, n, .inr (.inr (.inr (.inr f))))) (hdg : decode cc pc = .ok (.arraylength, 1))
    (kk : W p l e R s m args below meth c H locs cells slots Q (F0 m (pc + 1) ls (.int (Int32.ofNat n) :: rest))) : W p l e R s m args below meth c H locs cells slots Q (F0 m pc ls (.ref b :: rest)) := by
  obtain ⟨q, hq⟩ := k_plget hbL hG
  exact va_alen hexec hb hC.1 hP q 2 hq rfl rfl hdg kk
theorem k_rld (hexec : p.tables.exec = Jvm.exec) (hb : c.code = cc) (hC : Cx g A s s.heap) (hP : va_P g.1 vwCl (va_pl L G) H) {b n : Nat} {f : Nat → Option Nat} (hbL : b ∈ L) (hG : G b = .inl (gR g, n, .inr (.inr (.inr (.inr f))))) {i : Int32} (hin : vp_in i n) (hdg : decode cc pc = .ok (.aaload, 1))
    (kk : W p l e R s m args below meth c H locs cells slots Q (F0 m (pc + 1) ls (va_rf (f i.toNatClampNeg) :: rest))) : W p l e R s m args below meth c H locs cells slots Q (F0 m pc ls (.int i :: .ref b :: rest)) := by
  obtain ⟨q, hq⟩ := k_plget hbL hG
  exact va_aldq hexec hb hC.1 hP q 2 hq rfl hin hdg kk
theorem k_rst (hexec : p.tables.exec = Jvm.exec) (hb : c.code = cc) (hL : kL L A) (hC : Cx g A s s.heap) (hP : va_P g.1 vwCl (va_pl L G) H) (hS : va_S A s.heap H locs) {b n : Nat} {f : Nat → Option Nat} (hbL : b ∈ L) (hG : G b = .inl (gR g, n, .inr (.inr (.inr (.inr f))))) {v : Nat} {vs : List Value} (hv : v ∈ L) (hGv : G v = .inr (1, vs)) {i : Int32} (hin : vp_in i n) (hdg : decode cc pc = .ok (.aastore, 1))
    (kk : ∀ (H1 : Heap) (locs1 : List Loc), va_P g.1 vwCl (va_pl L (va_up G b (.inl (gR g, n, .inr (.inr (.inr (.inr (va_up f i.toNatClampNeg (some v))))))))) H1 → va_S A s.heap H1 locs1 → W p l e R s m args below meth c H1 locs1 cells slots Q (F0 m (pc + 1) ls rest)) : W p l e R s m args below meth c H locs cells slots Q (F0 m pc ls (.ref v :: .int i :: .ref b :: rest)) := by
  obtain ⟨q, hq⟩ := k_plget hbL hG
  obtain ⟨q2, hq2⟩ := k_plget hv hGv
  exact va_astq hexec hb hC.1 hP (k_plD hL G) hS q 2 q2 1 (r := (RX1, TX1, 13)) hq rfl hq2 rfl hin hdg (fun H1 locs1 h1 _ h3 => kk H1 locs1 (by rw [← k_plset hL hbL hG hq]; exact h1) h3)
theorem k_gets (hexec : p.tables.exec = Jvm.exec) (hb : c.code = cc) (hC : Cx g A s s.heap) (hS : va_S A s.heap H locs) {own : String} {index : Nat} (hown : s.vm.findClass own = some m.cls) (hlink : (Cond.fieldLink own index "OrderedClauses" "VALUES_WITH_ATOM" "[J").before args s = true) (hdg : decode cc pc = .ok (.getstatic index, 3))
    (kk : W p l e R s m args below meth c H locs cells slots Q (F0 m (pc + 3) ls (.ref (gT g) :: rest))) : W p l e R s m args below meth c H locs cells slots Q (F0 m pc ls rest) :=
  va_gets hexec hb hC.2.2.1 hS hown hlink (fun _ h => h) hdg kk
theorem k_tld (hexec : p.tables.exec = Jvm.exec) (hb : c.code = cc) (hC : Cx g A s s.heap) (hS : va_S A s.heap H locs) {i : Int32} (hin : vp_in i 6) (hdg : decode cc pc = .ok (.laload, 1))
    (kk : W p l e R s m args below meth c H locs cells slots Q (F0 m (pc + 1) ls (.long (tabv i.toNatClampNeg) :: rest))) : W p l e R s m args below meth c H locs cells slots Q (F0 m pc ls (.int i :: .ref (gT g) :: rest)) :=
  va_tl hexec hb hC.2.2.2 hS hin rfl hdg kk
theorem k_tlen (hexec : p.tables.exec = Jvm.exec) (hb : c.code = cc) (hC : Cx g A s s.heap) (hS : va_S A s.heap H locs) (hdg : decode cc pc = .ok (.arraylength, 1))
    (kk : W p l e R s m args below meth c H locs cells slots Q (F0 m (pc + 1) ls (.int 6 :: rest))) : W p l e R s m args below meth c H locs cells slots Q (F0 m pc ls (.ref (gT g) :: rest)) :=
  va_tlen hexec hb hC.2.2.2 hS rfl hdg kk
end KX
/-! an object with rows of ints (lengths as len says), maybe one row of longs, and ints -/
abbrev St : Type := (Nat → Nat → Int32) × (Nat → Int64) × (Nat → Int32)
def ownS (a : Nat) (r : Nat → Nat) (n : Nat) (q : Nat) : Prop := q = a ∨ ∃ j, j < n ∧ q = r j
/-- nothing but the object's own cells has changed -/
def frS (a : Nat) (r : Nat → Nat) (n : Nat) (G G1 : Nat → va_E) : Prop := ∀ q, ¬ ownS a r n q → G1 q = G q
theorem frS.rf {a : Nat} {r : Nat → Nat} {n : Nat} {G : Nat → va_E} : frS a r n G G := fun _ _ => rfl
theorem frS.tr {a : Nat} {r : Nat → Nat} {n : Nat} {G G1 G2 : Nat → va_E} (h1 : frS a r n G G1) (h2 : frS a r n G1 G2) : frS a r n G G2 := fun q hq => (h2 q hq).trans (h1 q hq)
def vO (g : Gm) (L : List Nat) (G : Nat → va_E) (a : Nat) (r : Nat → Nat) (ci nI n : Nat) (len : Nat → Nat) (fs : (Nat → Nat) → (Nat → Int32) → List Value) (u : St) : Prop :=
  a ∈ L ∧ G a = .inr (ci, fs r u.2.2) ∧ (∀ j, j < n → r j ∈ L ∧ r j ≠ a) ∧ (∀ i j, i < n → j < n → r i = r j → i = j) ∧ (∀ j, j < nI → G (r j) = .inl (gI g, len j, .inl (u.1 j))) ∧ (∀ j, nI ≤ j → j < n → G (r j) = .inl (gJ g, len j, .inr (.inl u.2.1)))
section VO
variable {g : Gm} {L : List Nat} {G : Nat → va_E} {a : Nat} {r : Nat → Nat} {ci nI n : Nat} {len : Nat → Nat} {fs : (Nat → Nat) → (Nat → Int32) → List Value} {f : Nat → Nat → Int32} {gg : Nat → Int64} {k : Nat → Int32}
theorem vO.m {u : St} (h : vO g L G a r ci nI n len fs u) : a ∈ L := h.1
theorem vO.o {u : St} (h : vO g L G a r ci nI n len fs u) : G a = .inr (ci, fs r u.2.2) := h.2.1
theorem vO.rm {u : St} (h : vO g L G a r ci nI n len fs u) (j : Nat) (hj : j < n) : r j ∈ L := (h.2.2.1 j hj).1
theorem vO.ri {u : St} (h : vO g L G a r ci nI n len fs u) (j : Nat) (hj : j < nI) : G (r j) = .inl (gI g, len j, .inl (u.1 j)) := h.2.2.2.2.1 j hj
theorem vO.rl {u : St} (h : vO g L G a r ci nI n len fs u) (j : Nat) (h1 : nI ≤ j) (hj : j < n) : G (r j) = .inl (gJ g, len j, .inr (.inl u.2.1)) := h.2.2.2.2.2 j h1 hj
theorem vO.setI (h : vO g L G a r ci nI n len fs (f, gg, k)) (hn : nI ≤ n) (j : Nat) (hj : j < nI) (x : Nat → Int32) : vO g L (va_up G (r j) (.inl (gI g, len j, .inl x))) a r ci nI n len fs (va_up f j x, gg, k) := by
  obtain ⟨h1, h2, h3, h4, h5, h6⟩ := h
  refine ⟨h1, ?_, h3, h4, fun i hi => ?_, fun i hi hi2 => ?_⟩
  · rw [va_up_ne _ _ (fun q => (h3 j (by omega)).2 q.symm)]; exact h2
  · by_cases e : i = j
    · subst e
      rw [va_up_self]
      show _ = Sum.inl (gI g, len i, Sum.inl (va_up f i x i))
      rw [va_up_self]
    · rw [va_up_ne _ _ (fun q => e (h4 i j (by omega) (by omega) q))]
      show _ = Sum.inl (gI g, len i, Sum.inl (va_up f j x i))
      rw [va_up_ne _ _ e]
      exact h5 i hi
  · rw [va_up_ne _ _ (fun q => by have := h4 i j hi2 (by omega) q; omega)]
    exact h6 i hi hi2
theorem vO.setL (h : vO g L G a r ci nI n len fs (f, gg, k)) (hn : n = nI + 1) (x : Nat → Int64) : vO g L (va_up G (r nI) (.inl (gJ g, len nI, .inr (.inl x)))) a r ci nI n len fs (f, x, k) := by
  obtain ⟨h1, h2, h3, h4, h5, h6⟩ := h
  refine ⟨h1, ?_, h3, h4, fun i hi => ?_, fun i hi hi2 => ?_⟩
  · rw [va_up_ne _ _ (fun q => (h3 nI (by omega)).2 q.symm)]; exact h2
  · rw [va_up_ne _ _ (fun q => by have := h4 i nI (by omega) (by omega) q; omega)]
    exact h5 i hi
  · have e : i = nI := by omega
    subst e
    rw [va_up_self]
theorem vO.setK (h : vO g L G a r ci nI n len fs (f, gg, k)) {w : List Value} {k1 : Nat → Int32} (e : fs r k1 = w) : vO g L (va_up G a (.inr (ci, w))) a r ci nI n len fs (f, gg, k1) := by
  obtain ⟨h1, h2, h3, h4, h5, h6⟩ := h
  refine ⟨h1, ?_, h3, h4, fun i hi => ?_, fun i hi hi2 => ?_⟩
  · rw [va_up_self, ← e]
  · by_cases e2 : i < n
    · rw [va_up_ne _ _ (h3 i e2).2]; exact h5 i hi
    · rw [va_up]
      split
      · rename_i q
        have := h5 i hi
        rw [q, h2] at this
        cases this
      · exact h5 i hi
  · rw [va_up_ne _ _ (h3 i hi2).2]; exact h6 i hi hi2
theorem vO.frI {G0 : Nat → va_E} (h0 : frS a r n G0 G) (j : Nat) (hj : j < n) (x : va_E) : frS a r n G0 (va_up G (r j) x) := fun q hq => by
  rw [va_up_ne _ _ (fun e => hq (Or.inr ⟨j, hj, e⟩))]
  exact h0 q hq
theorem vO.frK {G0 : Nat → va_E} (h0 : frS a r n G0 G) (x : va_E) : frS a r n G0 (va_up G a x) := fun q hq => by
  rw [va_up_ne _ _ (fun e => hq (Or.inl e))]
  exact h0 q hq
/-- the view stays where the object's own cells do -/
theorem vO.keep {u : St} (h : vO g L G a r ci nI n len fs u) (hn : nI ≤ n) {G1 : Nat → va_E} (hq : ∀ q, ownS a r n q → G1 q = G q) : vO g L G1 a r ci nI n len fs u := by
  obtain ⟨h1, h2, h3, h4, h5, h6⟩ := h
  refine ⟨h1, by rw [hq a (Or.inl rfl)]; exact h2, h3, h4, fun i hi => ?_, fun i hi hi2 => ?_⟩
  · rw [hq _ (Or.inr ⟨i, by omega, rfl⟩)]; exact h5 i hi
  · rw [hq _ (Or.inr ⟨i, hi2, rfl⟩)]; exact h6 i hi hi2
end VO
abbrev fsS (r : Nat → Nat) (k : Nat → Int32) : List Value := [.ref (r 0), .ref (r 1), .ref (r 2), .ref (r 3), .ref (r 4), .ref (r 5), .ref (r 6), .ref (r 7), .int (k 0), .int (k 1), .int (k 2), .int (k 3), .int (k 4)]
abbrev fsT (r : Nat → Nat) (k : Nat → Int32) : List Value := [.ref (r 0), .int (k 0)]
def lnS : Nat → Nat := fun j => if j = 0 then 6 else 40
def lnT : Nat → Nat := fun _ => 60
abbrev vS (g : Gm) (L : List Nat) (G : Nat → va_E) (a : Nat) (r : Nat → Nat) (u : St) : Prop := vO g L G a r 1 7 8 lnS fsS u
abbrev vT (g : Gm) (L : List Nat) (G : Nat → va_E) (a : Nat) (r : Nat → Nat) (u : St) : Prop := vO g L G a r 2 1 1 lnT fsT u
/-! rows that take the partial functions' results by name -/
def iRem (x y : Int32) : Option Int32 := if y = 0 then none else some (x - x / y * y)
def iDiv (x y : Int32) : Option Int32 := if y = 0 then none else some (x / y)
def fDv (x y : UInt32) : Option UInt32 := if FP.fdiv x y &&& 0x7fffffff ≤ 0x7f800000 then some (FP.fdiv x y) else none
def aCp {α : Type} (f : Nat → α) (n0 : Nat) (h : Nat → α) (n1 : Nat) (sp dp n : Int32) : Option (Nat → α) := if ¬ sp < 0 ∧ ¬ dp < 0 ∧ ¬ n < 0 ∧ sp.toNatClampNeg + n.toNatClampNeg ≤ n0 ∧ dp.toNatClampNeg + n.toNatClampNeg ≤ n1 then some (va_cpy f h sp.toNatClampNeg dp.toNatClampNeg n.toNatClampNeg) else none
theorem spair {α β : Type} {a c : α} {b d : β} (h : some (a, b) = some (c, d)) : a = c ∧ b = d := by cases h; exact ⟨rfl, rfl⟩
theorem ts_out {x : Int32} {n : Nat} (hn : n < 2 ^ 31) (h : ∀ j, j < n → ¬ x = nI j) : x.toInt < 0 ∨ ((n : Int) - 1) < x.toInt := by
  rcases Int.lt_or_le x.toInt 0 with q | q
  · exact Or.inl q
  · rcases Int.lt_or_le ((n : Int) - 1) x.toInt with q2 | q2
    · exact Or.inr q2
    · exfalso
      refine h x.toInt.toNat (by omega) ?_
      apply Int32.toInt_inj.mp
      rw [nI_toInt (by omega)]
      omega
section KY
variable {p : Program} {l : Launch} {e : Env} {R : Room} {s : State} {m : MethodId} {args : Array Value} {below : List Frame} {meth : Method} {c : Code} {H : Heap} {locs : List Loc} {cells slots : Nat} {Q : State → Prop} {cc : ByteArray} {pc : Nat} {ls : Array Slot} {rest st0 : List Value} {a : Array Value} {g : Gm} {L : List Nat} {A : Nat → Prop} {G : Nat → va_E}
theorem k_ildE (hexec : p.tables.exec = Jvm.exec) (hb : c.code = cc) (hC : Cx g A s s.heap) (hP : va_P g.1 vwCl (va_pl L G) H) {b n : Nat} {f : Nat → Int32} (hbL : b ∈ L) (hG : G b = .inl (gI g, n, .inl f)) {i v : Int32} (hv : aLd f n i = some v) (hdg : decode cc pc = .ok (.iaload, 1))
    (kk : W p l e R s m args below meth c H locs cells slots Q (F0 m (pc + 1) ls (.int v :: rest))) : W p l e R s m args below meth c H locs cells slots Q (F0 m pc ls (.int i :: .ref b :: rest)) := by
  obtain ⟨h1, rfl⟩ := aLd_spec hv
  exact k_ild hexec hb hC hP hbL hG h1 hdg kk
theorem k_lldE (hexec : p.tables.exec = Jvm.exec) (hb : c.code = cc) (hC : Cx g A s s.heap) (hP : va_P g.1 vwCl (va_pl L G) H) {b n : Nat} {f : Nat → Int64} (hbL : b ∈ L) (hG : G b = .inl (gJ g, n, .inr (.inl f))) {i : Int32} {v : Int64} (hv : aLd f n i = some v) (hdg : decode cc pc = .ok (.laload, 1))
    (kk : W p l e R s m args below meth c H locs cells slots Q (F0 m (pc + 1) ls (.long v :: rest))) : W p l e R s m args below meth c H locs cells slots Q (F0 m pc ls (.int i :: .ref b :: rest)) := by
  obtain ⟨h1, rfl⟩ := aLd_spec hv
  exact k_lld hexec hb hC hP hbL hG h1 hdg kk
theorem k_tldE (hexec : p.tables.exec = Jvm.exec) (hb : c.code = cc) (hC : Cx g A s s.heap) (hS : va_S A s.heap H locs) {i : Int32} {v : Int64} (hv : aLd tabv 6 i = some v) (hdg : decode cc pc = .ok (.laload, 1))
    (kk : W p l e R s m args below meth c H locs cells slots Q (F0 m (pc + 1) ls (.long v :: rest))) : W p l e R s m args below meth c H locs cells slots Q (F0 m pc ls (.int i :: .ref (gT g) :: rest)) := by
  obtain ⟨h1, rfl⟩ := aLd_spec hv
  exact k_tld hexec hb hC hS h1 hdg kk
theorem k_istE (hexec : p.tables.exec = Jvm.exec) (hb : c.code = cc) (hL : kL L A) (hC : Cx g A s s.heap) (hP : va_P g.1 vwCl (va_pl L G) H) (hS : va_S A s.heap H locs) {b n : Nat} {f y : Nat → Int32} (hbL : b ∈ L) (hG : G b = .inl (gI g, n, .inl f)) {i x : Int32} (hv : aSt f n i x = some y) (hdg : decode cc pc = .ok (.iastore, 1))
    (kk : ∀ (G1 : Nat → va_E) (H1 : Heap) (locs1 : List Loc), G1 = va_up G b (.inl (gI g, n, .inl y)) → va_P g.1 vwCl (va_pl L G1) H1 → va_S A s.heap H1 locs1 → W p l e R s m args below meth c H1 locs1 cells slots Q (F0 m (pc + 1) ls rest)) : W p l e R s m args below meth c H locs cells slots Q (F0 m pc ls (.int x :: .int i :: .ref b :: rest)) := by
  obtain ⟨h1, rfl⟩ := aSt_spec hv
  exact k_ist hexec hb hL hC hP hS hbL hG h1 hdg (fun H1 locs1 hP1 hS1 => kk _ H1 locs1 rfl hP1 hS1)
theorem k_lstE (hexec : p.tables.exec = Jvm.exec) (hb : c.code = cc) (hL : kL L A) (hC : Cx g A s s.heap) (hP : va_P g.1 vwCl (va_pl L G) H) (hS : va_S A s.heap H locs) {b n : Nat} {f y : Nat → Int64} (hbL : b ∈ L) (hG : G b = .inl (gJ g, n, .inr (.inl f))) {i : Int32} {x : Int64} (hv : aStL f n i x = some y) (hdg : decode cc pc = .ok (.lastore, 1))
    (kk : ∀ (G1 : Nat → va_E) (H1 : Heap) (locs1 : List Loc), G1 = va_up G b (.inl (gJ g, n, .inr (.inl y))) → va_P g.1 vwCl (va_pl L G1) H1 → va_S A s.heap H1 locs1 → W p l e R s m args below meth c H1 locs1 cells slots Q (F0 m (pc + 1) ls rest)) : W p l e R s m args below meth c H locs cells slots Q (F0 m pc ls (.long x :: .int i :: .ref b :: rest)) := by
  obtain ⟨h1, rfl⟩ := aStL_spec hv
  exact k_lst hexec hb hL hC hP hS hbL hG h1 hdg (fun H1 locs1 hP1 hS1 => kk _ H1 locs1 rfl hP1 hS1)
theorem k_putE (hexec : p.tables.exec = Jvm.exec) (hb : c.code = cc) {own C : String} {T : u_T} {N ci index : Nat} {Ts : List Cond} (hts : ∀ w ∈ Ts, w.before args s = true) (hin : ∀ w ∈ u_ws C T N, w ∈ Ts) (ty0 : Nat → FieldType) (hty : ∀ k, k < N → parseFieldDescriptor (T k).2.2.1 = some (ty0 k)) (hnm : ∀ a, a < N → ∀ b, b < N → a ≠ b → (T a).2.1 ≠ (T b).2.1) (hown : s.vm.findClass own = some m.cls) (hL : kL L A) (hC : Cx g A s s.heap) (hP : va_P g.1 vwCl (va_pl L G) H) (hS : va_S A s.heap H locs) {b : Nat} {fs : List Value} (hbL : b ∈ L) (hG : G b = .inr (ci, fs)) (hc : vwCl[ci]? = some (C, T, N)) (k : Nat) (hk : k < N) (hlink : (Cond.fieldLink own index (T k).1 (T k).2.1 (T k).2.2.1).before args s = true) (hfin : (T k).2.2.2 = false) {v : Int32} (hd : parseFieldDescriptor (T k).2.2.1 = some .int) (hl : k < fs.length) (hdg : decode cc pc = .ok (.putfield index, 3))
    (kk : ∀ (G1 : Nat → va_E) (H1 : Heap) (locs1 : List Loc), G1 = va_up G b (.inr (ci, fs.set k (.int v))) → va_P g.1 vwCl (va_pl L G1) H1 → va_S A s.heap H1 locs1 → W p l e R s m args below meth c H1 locs1 cells slots Q (F0 m (pc + 3) ls rest)) : W p l e R s m args below meth c H locs cells slots Q (F0 m pc ls (.int v :: .ref b :: rest)) :=
  k_put hexec hb hts hin ty0 hty hnm hown hL hC hP hS hbL hG hc k hk hlink hfin (v := .int v) hd rfl rfl hl hdg (fun H1 locs1 hP1 hS1 => kk _ H1 locs1 rfl hP1 hS1)
theorem k_putNE (hexec : p.tables.exec = Jvm.exec) (hb : c.code = cc) {own C host : String} {T : u_T} {N ci index : Nat} {Ts : List Cond} (hts : ∀ w ∈ Ts, w.before args s = true) (hin : ∀ w ∈ u_ws C T N, w ∈ Ts) (ty0 : Nat → FieldType) (hty : ∀ k, k < N → parseFieldDescriptor (T k).2.2.1 = some (ty0 k)) (hnm : ∀ a, a < N → ∀ b, b < N → a ≠ b → (T a).2.1 ≠ (T b).2.1) (hown : s.vm.findClass own = some m.cls) (hL : kL L A) (hC : Cx g A s s.heap) (hP : va_P g.1 vwCl (va_pl L G) H) (hS : va_S A s.heap H locs) {b : Nat} {fs : List Value} (hbL : b ∈ L) (hG : G b = .inr (ci, fs)) (hc : vwCl[ci]? = some (C, T, N)) (k : Nat) (hk : k < N) (hlink : va_Nw (.fieldLinkNest own index (T k).1 (T k).2.1 (T k).2.2.1 host) s) (hfin : (T k).2.2.2 = false) {v : Int32} (hd : parseFieldDescriptor (T k).2.2.1 = some .int) (hl : k < fs.length) (hdg : decode cc pc = .ok (.putfield index, 3))
    (kk : ∀ (G1 : Nat → va_E) (H1 : Heap) (locs1 : List Loc), G1 = va_up G b (.inr (ci, fs.set k (.int v))) → va_P g.1 vwCl (va_pl L G1) H1 → va_S A s.heap H1 locs1 → W p l e R s m args below meth c H1 locs1 cells slots Q (F0 m (pc + 3) ls rest)) : W p l e R s m args below meth c H locs cells slots Q (F0 m pc ls (.int v :: .ref b :: rest)) :=
  k_putN hexec hb hts hin ty0 hty hnm hown hL hC hP hS hbL hG hc k hk hlink hfin (v := .int v) hd rfl rfl hl hdg (fun H1 locs1 hP1 hS1 => kk _ H1 locs1 rfl hP1 hS1)
theorem lv_iremE (hexec : p.tables.exec = Jvm.exec) (hb : c.code = cc) {x y v : Int32} (hdg : decode cc pc = .ok (.irem, 1)) (hv : iRem x y = some v) (k : W p l e R s m args below meth c H locs cells slots Q (F0 m (pc + 1) ls (.int v :: rest))) : W p l e R s m args below meth c H locs cells slots Q (F0 m pc ls (.int y :: .int x :: rest)) := by
  unfold iRem at hv
  split at hv
  · cases hv
  · rename_i h
    obtain rfl := Option.some.inj hv
    exact lv_irem hexec hb hdg h k
theorem lv_idivE (hexec : p.tables.exec = Jvm.exec) (hb : c.code = cc) {x y v : Int32} (hdg : decode cc pc = .ok (.idiv, 1)) (hv : iDiv x y = some v) (k : W p l e R s m args below meth c H locs cells slots Q (F0 m (pc + 1) ls (.int v :: rest))) : W p l e R s m args below meth c H locs cells slots Q (F0 m pc ls (.int y :: .int x :: rest)) := by
  unfold iDiv at hv
  split at hv
  · cases hv
  · rename_i h
    obtain rfl := Option.some.inj hv
    exact lv_idiv hexec hb hdg h k
theorem lv_fdivE (hexec : p.tables.exec = Jvm.exec) (hb : c.code = cc) {x y v : UInt32} (hdg : decode cc pc = .ok (.fdiv, 1)) (hv : fDv x y = some v) (k : W p l e R s m args below meth c H locs cells slots Q (F0 m (pc + 1) ls (.float v :: rest))) : W p l e R s m args below meth c H locs cells slots Q (F0 m pc ls (.float y :: .float x :: rest)) := by
  unfold fDv at hv
  split at hv
  · rename_i h
    obtain rfl := Option.some.inj hv
    exact lv_fdiv hexec hb hdg h k
  · cases hv
theorem k_iR {rv : Int32} (hS : va_S A s.heap H locs) (hr : va_Run p l e R s m args below meth c H locs cells slots 0 0 (F0 m pc ls st0) rest (va_Qi (fun x (G1 : Nat → va_E) => x = rv ∧ G1 = G) (kE g L) A a) A) (kk : ∀ (H1 : Heap) (locs1 : List Loc), va_P g.1 vwCl (va_pl L G) H1 → va_S A s.heap H1 locs1 → W p l e R s m args below meth c H1 locs1 cells slots Q (F0 m (pc + 3) ls (.int rv :: rest))) : W p l e R s m args below meth c H locs cells slots Q (F0 m pc ls st0) :=
  k_i hS hr (fun r G1 H1 locs1 hq hP1 hS1 => by obtain ⟨rfl, rfl⟩ := hq; exact kk H1 locs1 hP1 hS1)
theorem k_lR {rv : Int64} (hS : va_S A s.heap H locs) (hr : va_Run p l e R s m args below meth c H locs cells slots 0 0 (F0 m pc ls st0) rest (va_Ql (fun x (G1 : Nat → va_E) => x = rv ∧ G1 = G) (kE g L) A a) A) (kk : ∀ (H1 : Heap) (locs1 : List Loc), va_P g.1 vwCl (va_pl L G) H1 → va_S A s.heap H1 locs1 → W p l e R s m args below meth c H1 locs1 cells slots Q (F0 m (pc + 3) ls (.long rv :: rest))) : W p l e R s m args below meth c H locs cells slots Q (F0 m pc ls st0) :=
  k_l hS hr (fun r G1 H1 locs1 hq hP1 hS1 => by obtain ⟨rfl, rfl⟩ := hq; exact kk H1 locs1 hP1 hS1)
theorem k_iW {rv : Int32} {P : (Nat → va_E) → Prop} (hS : va_S A s.heap H locs) (hr : va_Run p l e R s m args below meth c H locs cells slots 0 0 (F0 m pc ls st0) rest (va_Qi (fun x (G1 : Nat → va_E) => x = rv ∧ P G1) (kE g L) A a) A) (kk : ∀ (G1 : Nat → va_E) (H1 : Heap) (locs1 : List Loc), P G1 → va_P g.1 vwCl (va_pl L G1) H1 → va_S A s.heap H1 locs1 → W p l e R s m args below meth c H1 locs1 cells slots Q (F0 m (pc + 3) ls (.int rv :: rest))) : W p l e R s m args below meth c H locs cells slots Q (F0 m pc ls st0) :=
  k_i hS hr (fun r G1 H1 locs1 hq hP1 hS1 => by obtain ⟨rfl, hq⟩ := hq; exact kk G1 H1 locs1 hq hP1 hS1)
theorem k_iretR (hexec : p.tables.exec = Jvm.exec) (hb : c.code = cc) (hr : meth.sig.returnType = some .int) {v rv : Int32} (hE : v = rv) (hP : va_P g.1 vwCl (va_pl L G) H) (hS : va_S A s.heap H locs) (hlocks : meth.locks = false) (hdg : decode cc pc = .ok (.ireturn, 1)) : W p l e R s m args below meth c H locs cells slots (MQ below (va_Qi (fun x (G1 : Nat → va_E) => x = rv ∧ G1 = G) (kE g L) A) args s cells slots A) (F0 m pc ls [.int v]) :=
  W.iret (v := v) hexec hb hr (fun t ht _ => ⟨⟨v, G, rfl, ⟨hE, rfl⟩, by show va_P _ _ _ t.heap; rw [ht]; exact hP⟩, hS.F ht⟩) hS.2.2 hdg hlocks
theorem k_zretR (hexec : p.tables.exec = Jvm.exec) (hb : c.code = cc) (hr : meth.sig.returnType = some .boolean) {v rv : Int32} (hn : narrow .boolean (.int v) = .int v) (hE : v = rv) (hP : va_P g.1 vwCl (va_pl L G) H) (hS : va_S A s.heap H locs) (hlocks : meth.locks = false) (hdg : decode cc pc = .ok (.ireturn, 1)) : W p l e R s m args below meth c H locs cells slots (MQ below (va_Qi (fun x (G1 : Nat → va_E) => x = rv ∧ G1 = G) (kE g L) A) args s cells slots A) (F0 m pc ls [.int v]) :=
  W.zret (v := v) hexec hb hr hn (fun t ht _ => ⟨⟨v, G, rfl, ⟨hE, rfl⟩, by show va_P _ _ _ t.heap; rw [ht]; exact hP⟩, hS.F ht⟩) hS.2.2 hdg hlocks
theorem k_lretR (hexec : p.tables.exec = Jvm.exec) (hb : c.code = cc) (hr : meth.sig.returnType = some .long) {v rv : Int64} (hE : v = rv) (hP : va_P g.1 vwCl (va_pl L G) H) (hS : va_S A s.heap H locs) (hlocks : meth.locks = false) (hdg : decode cc pc = .ok (.lreturn, 1)) : W p l e R s m args below meth c H locs cells slots (MQ below (va_Ql (fun x (G1 : Nat → va_E) => x = rv ∧ G1 = G) (kE g L) A) args s cells slots A) (F0 m pc ls [.long v]) :=
  W.lret (v := v) hexec hb hr (fun t ht _ => ⟨⟨v, G, rfl, ⟨hE, rfl⟩, by show va_P _ _ _ t.heap; rw [ht]; exact hP⟩, hS.F ht⟩) hS.2.2 hdg hlocks
theorem k_iretW (hexec : p.tables.exec = Jvm.exec) (hb : c.code = cc) (hr : meth.sig.returnType = some .int) {v rv : Int32} {P : (Nat → va_E) → Prop} (hE : v = rv) (hQ : P G) (hP : va_P g.1 vwCl (va_pl L G) H) (hS : va_S A s.heap H locs) (hlocks : meth.locks = false) (hdg : decode cc pc = .ok (.ireturn, 1)) : W p l e R s m args below meth c H locs cells slots (MQ below (va_Qi (fun x (G1 : Nat → va_E) => x = rv ∧ P G1) (kE g L) A) args s cells slots A) (F0 m pc ls [.int v]) :=
  W.iret (v := v) hexec hb hr (fun t ht _ => ⟨⟨v, G, rfl, ⟨hE, hQ⟩, by show va_P _ _ _ t.heap; rw [ht]; exact hP⟩, hS.F ht⟩) hS.2.2 hdg hlocks
theorem k_zretW (hexec : p.tables.exec = Jvm.exec) (hb : c.code = cc) (hr : meth.sig.returnType = some .boolean) {v rv : Int32} {P : (Nat → va_E) → Prop} (hn : narrow .boolean (.int v) = .int v) (hE : v = rv) (hQ : P G) (hP : va_P g.1 vwCl (va_pl L G) H) (hS : va_S A s.heap H locs) (hlocks : meth.locks = false) (hdg : decode cc pc = .ok (.ireturn, 1)) : W p l e R s m args below meth c H locs cells slots (MQ below (va_Qi (fun x (G1 : Nat → va_E) => x = rv ∧ P G1) (kE g L) A) args s cells slots A) (F0 m pc ls [.int v]) :=
  W.zret (v := v) hexec hb hr hn (fun t ht _ => ⟨⟨v, G, rfl, ⟨hE, hQ⟩, by show va_P _ _ _ t.heap; rw [ht]; exact hP⟩, hS.F ht⟩) hS.2.2 hdg hlocks
theorem k_vretW (hexec : p.tables.exec = Jvm.exec) (hb : c.code = cc) (hr : meth.sig.returnType = none) {P : (Nat → va_E) → Prop} (hQ : P G) (hP : va_P g.1 vwCl (va_pl L G) H) (hS : va_S A s.heap H locs) (hlocks : meth.locks = false) (hdg : decode cc pc = .ok (.return_, 1)) : W p l e R s m args below meth c H locs cells slots (MQ below (va_Qv P (kE g L) A) args s cells slots A) (F0 m pc ls []) :=
  W.vret hexec hb hr (fun t ht _ => ⟨⟨G, rfl, hQ, by show va_P _ _ _ t.heap; rw [ht]; exact hP⟩, hS.F ht⟩) hS.2.2 hdg hlocks
end KY
theorem up_id {G : Nat → va_E} {a : Nat} {e : va_E} (h : G a = e) : G = va_up G a e := by
  funext q
  by_cases hq : q = a
  · subst hq
    rw [va_up_self, h]
  · rw [va_up_ne _ _ hq]
def fuel : Nat := 2000
section KZ
variable {p : Program} {l : Launch} {e : Env} {R : Room} {s : State} {m : MethodId} {args : Array Value} {below : List Frame} {meth : Method} {c : Code} {H : Heap} {locs : List Loc} {cells slots : Nat} {Q : State → Prop} {cc : ByteArray} {pc : Nat} {ls : Array Slot} {rest st0 : List Value} {a : Array Value} {g : Gm} {L : List Nat} {A : Nat → Prop} {G : Nat → va_E}
theorem k_cpi (hexec : p.tables.exec = Jvm.exec) (hb : c.code = cc) (hml : c.maxLocals = ls.size) {own : String} {index : Nat} (hown : s.vm.findClass own = some m.cls) (hlink : (Cond.methodLink own index arraycopyName).before args s = true) (hnat : (Cond.native arraycopyName).before args s = true) (hstat : (Cond.static arraycopyName).before args s = true) (hini : (Cond.initialized "java/lang/System").before args s = true) (hL : kL L A) (hC : Cx g A s s.heap) (hP : va_P g.1 vwCl (va_pl L G) H) (hS : va_S A s.heap H locs) {b0 b n0 n1 : Nat} {f h y : Nat → Int32} (hm0 : b0 ∈ L) (hG0 : G b0 = .inl (gI g, n0, .inl f)) (hm1 : b ∈ L) (hG1 : G b = .inl (gI g, n1, .inl h)) {sp dp n : Int32} (hv : aCp f n0 h n1 sp dp n = some y) (hframes : 1 ≤ R.frames) (hlocals : (rest.map fun v => v.category).sum + (nativeFrameWords "java/lang/System" "arraycopy" 5 + 11) ≤ R.locals) (hdg : decode cc pc = .ok (.invokestatic index, 3))
    (kk : ∀ (G1 : Nat → va_E) (H1 : Heap) (locs1 : List Loc), G1 = va_up G b (.inl (gI g, n1, .inl y)) → va_P g.1 vwCl (va_pl L G1) H1 → va_S A s.heap H1 locs1 → W p l e R s m args below meth c H1 locs1 cells slots Q (F0 m (pc + 3) ls rest)) : W p l e R s m args below meth c H locs cells slots Q (F0 m pc ls (.int n :: .int dp :: .ref b :: .int sp :: .ref b0 :: rest)) := by
  unfold aCp at hv
  split at hv
  · rename_i hc
    obtain ⟨h1, h2, h3, h4, h5⟩ := hc
    obtain rfl := Option.some.inj hv
    obtain ⟨q0, hq0⟩ := k_plget hm0 hG0
    obtain ⟨q, hq⟩ := k_plget hm1 hG1
    exact va_copyi hexec hb hml hown hlink hnat hstat hini hC.1 hP (k_plD hL G) hS q0 q 0 0 (ty := .int) hq0 hq rfl rfl rfl h1 h2 h3 h4 h5 (fun _ _ => rfl) hframes hlocals hdg (fun H1 locs1 hP1 _ hS1 => kk _ H1 locs1 rfl (by rw [← k_plset hL hm1 hG1 hq]; exact hP1) hS1)
  · cases hv
theorem k_cpl (hexec : p.tables.exec = Jvm.exec) (hb : c.code = cc) (hml : c.maxLocals = ls.size) {own : String} {index : Nat} (hown : s.vm.findClass own = some m.cls) (hlink : (Cond.methodLink own index arraycopyName).before args s = true) (hnat : (Cond.native arraycopyName).before args s = true) (hstat : (Cond.static arraycopyName).before args s = true) (hini : (Cond.initialized "java/lang/System").before args s = true) (hL : kL L A) (hC : Cx g A s s.heap) (hP : va_P g.1 vwCl (va_pl L G) H) (hS : va_S A s.heap H locs) {b0 b n0 n1 : Nat} {f h y : Nat → Int64} (hm0 : b0 ∈ L) (hG0 : G b0 = .inl (gJ g, n0, .inr (.inl f))) (hm1 : b ∈ L) (hG1 : G b = .inl (gJ g, n1, .inr (.inl h))) {sp dp n : Int32} (hv : aCp f n0 h n1 sp dp n = some y) (hframes : 1 ≤ R.frames) (hlocals : (rest.map fun v => v.category).sum + (nativeFrameWords "java/lang/System" "arraycopy" 5 + 11) ≤ R.locals) (hdg : decode cc pc = .ok (.invokestatic index, 3))
    (kk : ∀ (G1 : Nat → va_E) (H1 : Heap) (locs1 : List Loc), G1 = va_up G b (.inl (gJ g, n1, .inr (.inl y))) → va_P g.1 vwCl (va_pl L G1) H1 → va_S A s.heap H1 locs1 → W p l e R s m args below meth c H1 locs1 cells slots Q (F0 m (pc + 3) ls rest)) : W p l e R s m args below meth c H locs cells slots Q (F0 m pc ls (.int n :: .int dp :: .ref b :: .int sp :: .ref b0 :: rest)) := by
  unfold aCp at hv
  split at hv
  · rename_i hc
    obtain ⟨h1, h2, h3, h4, h5⟩ := hc
    obtain rfl := Option.some.inj hv
    obtain ⟨q0, hq0⟩ := k_plget hm0 hG0
    obtain ⟨q, hq⟩ := k_plget hm1 hG1
    exact va_copyl hexec hb hml hown hlink hnat hstat hini hC.1 hP (k_plD hL G) hS q0 q 1 1 (ty := .long) hq0 hq rfl rfl rfl h1 h2 h3 h4 h5 (fun _ _ => rfl) hframes hlocals hdg (fun H1 locs1 hP1 _ hS1 => kk _ H1 locs1 rfl (by rw [← k_plset hL hm1 hG1 hq]; exact hP1) hS1)
  · cases hv
end KZ
