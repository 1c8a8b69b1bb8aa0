/-! Constructors: the pool grows -/
def kO (A : Nat → Prop) (U : State) : Prop := va_AO RX1 U ∧ ∀ q, U.heap.size ≤ q → A q
abbrev kBO (g : Gm) (L : List Nat) (A : Nat → Prop) (G : Nat → va_E) (U : State) : Prop := kB g L A G U ∧ kO A U
theorem k_preO {g : Gm} {L : List Nat} {A : Nat → Prop} {G : Nat → va_E} {As : List Value} {s : State} {H : Heap} {locs : List Loc} (hC : Cx g A s s.heap) (hO : kO A s) (hS : va_S A s.heap H locs) (hP : va_P g.1 vwCl (va_pl L G) H) : PreS s H (va_Pc As (kBO g L A G)) As :=
  ⟨fun a U gg mk q => ⟨q.1, (k_blind (g := g) (L := L) (A := A) (G := G) (As := As) a U gg mk ⟨q.1, q.2.1⟩).2, va_AO.moved (u := U) (U := U.calling gg mk a) (Vm.Alike.refl U.vm) q.2.2.1, q.2.2.2⟩, fun U hU hW => ⟨rfl, ⟨by rw [hU]; exact hP, hC.go hS hU hW⟩, va_AO.moved hW.alike hO.1, fun q hq => hO.2 q (Nat.le_trans hS.1 (by rw [← hU]; exact hq))⟩⟩
theorem n_fresh {L : List Nat} {A : Nat → Prop} {G : Nat → va_E} {q : Nat} {e : va_E} (h : va_D A (va_pl L G ++ [(q, e)])) : q ∉ L := by
  intro hq
  obtain ⟨i, hi⟩ := List.getElem?_of_mem hq
  have hil : i < L.length := (List.getElem?_eq_some_iff.mp hi).1
  have hl : (va_pl L G).length = L.length := by simp [va_pl]
  have h1 : (va_pl L G ++ [(q, e)])[i]? = some (q, G q) := by
    rw [List.getElem?_append_left (by omega)]
    simp only [va_pl, List.getElem?_map, hi]
    rfl
  have h2 : (va_pl L G ++ [(q, e)])[L.length]? = some (q, e) := by
    rw [List.getElem?_append_right (by omega), hl, Nat.sub_self]
    rfl
  have := h.1 i L.length _ _ h1 h2 rfl
  omega
theorem n_grow {L : List Nat} {A : Nat → Prop} {q : Nat} (hL : kL L A) (hq : q ∉ L) (hA : A q) : kL (L ++ [q]) A := by
  refine ⟨List.nodup_append.mpr ⟨hL.1, List.nodup_cons.mpr ⟨List.not_mem_nil, List.nodup_nil⟩, fun a ha b hb e => ?_⟩, fun a ha => ?_⟩
  · rw [List.mem_singleton] at hb
    exact hq (by rw [← hb, ← e]; exact ha)
  · rcases List.mem_append.mp ha with h | h
    · exact hL.2 a h
    · rw [List.mem_singleton.mp h]; exact hA
theorem n_last (L : List Nat) (q : Nat) : q ∈ L ++ [q] := List.mem_append_right _ (List.mem_singleton.mpr rfl)
theorem n_left {L : List Nat} {a : Nat} (q : Nat) (h : a ∈ L) : a ∈ L ++ [q] := List.mem_append_left _ h
theorem n_ne {L : List Nat} {a q : Nat} (h : q ∉ L) (ha : a ∈ L) : a ≠ q := fun e => h (e ▸ ha)
def rOf (qs : List Nat) : Nat → Nat := fun j => qs.getD j 0
theorem rOf_inj {qs : List Nat} (h : qs.Nodup) : ∀ i j, i < qs.length → j < qs.length → rOf qs i = rOf qs j → i = j := by
  intro i j hi hj e
  unfold rOf at e
  rw [List.getD_eq_getElem?_getD, List.getD_eq_getElem?_getD, List.getElem?_eq_getElem hi, List.getElem?_eq_getElem hj] at e
  exact (List.getElem?_inj hi h).mp (by rw [List.getElem?_eq_getElem hi, List.getElem?_eq_getElem hj]; exact congrArg some e)
theorem n_tail {L qs : List Nat} {A : Nat → Prop} (h : kL (L ++ qs) A) : qs.Nodup := (List.nodup_append.mp h.1).2.1
theorem aSt_in {f : Nat → Int32} {n : Nat} {i x : Int32} (h : vp_in i n) : aSt f n i x = some (upd f i.toNatClampNeg x) := by
  unfold aSt
  exact if_neg h
theorem aLd_in {α : Type} {f : Nat → α} {n : Nat} {i : Int32} (h : vp_in i n) : aLd f n i = some (f i.toNatClampNeg) := by
  unfold aLd
  exact if_neg h
theorem n_rowI {U : State} {k : Nat} {D : va_G} {cl : List vw_C} {tys : List (ClassId × FieldType)} {c c2 : ClassId} {ty : FieldType} (hK : va_K D cl (tys ++ [(c, ty)]) U) (hk : tys[k]? = some (c2, ty)) (hn : ty = .int ∨ ty = .long ∨ ∃ n, ty = .object n) : c = c2 := by
  have h1 := (hK.2 tys.length (c, ty) (by rw [List.getElem?_append_right (Nat.le_refl _), Nat.sub_self]; rfl)).2
  have hl : k < tys.length := (List.getElem?_eq_some_iff.mp hk).1
  have h2 := (hK.2 k (c2, ty) (by rw [List.getElem?_append_left hl]; exact hk)).2
  rcases hn with rfl | rfl | ⟨n, rfl⟩
  · exact Option.some.inj (Eq.trans (Eq.symm h1) h2)
  · exact Option.some.inj (Eq.trans (Eq.symm h1) h2)
  · obtain ⟨_, _, _, _, _, h3⟩ := h1
    obtain ⟨_, _, _, _, _, h4⟩ := h2
    exact Option.some.inj (h3.symm.trans h4)
section KC
variable {p : Program} {l : Launch} {e : Env} {R : Room} {s : State} {m : MethodId} {args : Array Value} {below : List Frame} {meth : Method} {c : Code} {H : Heap} {locs : List Loc} {cells slots : Nat} {Q : State → Prop} {cc : ByteArray} {pc : Nat} {ls : Array Slot} {rest st0 : List Value} {a : Array Value} {g : Gm} {L : List Nat} {A : Nat → Prop} {G : Nat → va_E}
theorem n_obj (hexec : p.tables.exec = Jvm.exec) (hb : c.code = cc) {own C : String} {T : u_T} {N ci index : Nat} {Ts : List Cond} (hts : ∀ w ∈ Ts, w.before args s = true) (hin : ∀ w ∈ u_ws C T N, w ∈ Ts) (ty : Nat → FieldType) (hty : ∀ k, k < N → parseFieldDescriptor (T k).2.2.1 = some (ty k)) (hown : s.vm.findClass own = some m.cls) (hcl : (Cond.classLink own index C).before args s = true) (hinst : (Cond.instantiable C N).before args s = true) (hini : (Cond.initialized C).before args s = true)
    (hL : kL L A) (hC : Cx g A s s.heap) (hO : kO A s) (hP : va_P g.1 vwCl (va_pl L G) H) (hS : va_S A s.heap H locs) (hc : vwCl[ci]? = some (C, T, N)) {fs : List Value} (hfs : ∀ j, j < N → defaultValue (ty j) = vp_V fs j) (hcells : cells + 1 ≤ R.cells) (hslots : slots + N ≤ R.slots) (hdg : decode cc pc = .ok (.new index, 3))
    (kk : ∀ (q : Nat) (G1 : Nat → va_E) (H1 : Heap), q ∉ L → kL (L ++ [q]) A → G1 q = .inr (ci, fs) → (∀ a, a ∈ L → G1 a = G a) → va_P g.1 vwCl (va_pl (L ++ [q]) G1) H1 → va_S A s.heap H1 locs →
      W p l e R s m args below meth c H1 locs (cells + 1) (slots + N) Q (F0 m (pc + 3) ls (.ref q :: rest))) : W p l e R s m args below meth c H locs cells slots Q (F0 m pc ls rest) :=
  va_new hexec hb hts hin ty hty hown hcl hinst hini hC.1 hP (k_plD hL G) hS hO.2 hc hfs hcells hslots hdg (fun q H1 h1 h2 h3 => by
    have hq := n_fresh h2
    have hAq : A q := h2.2 (va_pl L G).length (q, .inr (ci, fs)) (by rw [List.getElem?_append_right (Nat.le_refl _), Nat.sub_self]; rfl)
    exact kk q (va_up G q (.inr (ci, fs))) H1 hq (n_grow hL hq hAq) (va_up_self _ _ _) (fun b hb2 => va_up_ne _ _ (n_ne hq hb2)) (by rw [← va_pl_push hq]; exact h1) h3)
theorem n_arrI (hexec : p.tables.exec = Jvm.exec) (hb : c.code = cc) (harr : (Cond.arrayClass .int).before args s = true) (hL : kL L A) (hC : Cx g A s s.heap) (hO : kO A s) (hP : va_P g.1 vwCl (va_pl L G) H) (hS : va_S A s.heap H locs) {n : Int32} {N : Nat} (hn : ¬ n < 0) (hN : n.toNatClampNeg = N) (hbytes : N * componentBytes .int ≤ 536870912) (hcells : cells + 1 ≤ R.cells) (hslots : slots + N ≤ R.slots) (hdg : decode cc pc = .ok (.newarray .int, 2))
    (kk : ∀ (q : Nat) (G1 : Nat → va_E) (H1 : Heap), q ∉ L → kL (L ++ [q]) A → G1 q = .inl (gI g, N, .inl (fun _ => 0)) → (∀ a, a ∈ L → G1 a = G a) → va_P g.1 vwCl (va_pl (L ++ [q]) G1) H1 → va_S A s.heap H1 locs →
      W p l e R s m args below meth c H1 locs (cells + 1) (slots + N) Q (F0 m (pc + 2) ls (.ref q :: rest))) : W p l e R s m args below meth c H locs cells slots Q (F0 m pc ls (.int n :: rest)) :=
  va_newa hexec hb (atype := .int) harr (ty := .int) rfl hC.1 hP (k_plD hL G) hS hO.2 (a0 := (N, .inl (fun _ => 0))) (fun _ => rfl) hn hN hbytes hcells hslots hdg (fun q cA H1 hK1 h1 h2 h3 => by
    have hc : cA = gI g := n_rowI (k := 0) hK1 rfl (Or.inl rfl)
    subst hc
    have hq := n_fresh h2
    have hAq : A q := h2.2 (va_pl L G).length (q, _) (by rw [List.getElem?_append_right (Nat.le_refl _), Nat.sub_self]; rfl)
    exact kk q (va_up G q (.inl (gI g, N, .inl (fun _ => 0)))) H1 hq (n_grow hL hq hAq) (va_up_self _ _ _) (fun b hb2 => va_up_ne _ _ (n_ne hq hb2)) (by rw [← va_pl_push hq]; exact h1) h3)
theorem n_arrJ (hexec : p.tables.exec = Jvm.exec) (hb : c.code = cc) (harr : (Cond.arrayClass .long).before args s = true) (hL : kL L A) (hC : Cx g A s s.heap) (hO : kO A s) (hP : va_P g.1 vwCl (va_pl L G) H) (hS : va_S A s.heap H locs) {n : Int32} {N : Nat} (hn : ¬ n < 0) (hN : n.toNatClampNeg = N) (hbytes : N * componentBytes .long ≤ 536870912) (hcells : cells + 1 ≤ R.cells) (hslots : slots + N ≤ R.slots) (hdg : decode cc pc = .ok (.newarray .long, 2))
    (kk : ∀ (q : Nat) (G1 : Nat → va_E) (H1 : Heap), q ∉ L → kL (L ++ [q]) A → G1 q = .inl (gJ g, N, .inr (.inl (fun _ => 0))) → (∀ a, a ∈ L → G1 a = G a) → va_P g.1 vwCl (va_pl (L ++ [q]) G1) H1 → va_S A s.heap H1 locs →
      W p l e R s m args below meth c H1 locs (cells + 1) (slots + N) Q (F0 m (pc + 2) ls (.ref q :: rest))) : W p l e R s m args below meth c H locs cells slots Q (F0 m pc ls (.int n :: rest)) :=
  va_newa hexec hb (atype := .long) harr (ty := .long) rfl hC.1 hP (k_plD hL G) hS hO.2 (a0 := (N, .inr (.inl (fun _ => 0)))) (fun _ => rfl) hn hN hbytes hcells hslots hdg (fun q cA H1 hK1 h1 h2 h3 => by
    have hc : cA = gJ g := n_rowI (k := 1) hK1 rfl (Or.inr (Or.inl rfl))
    subst hc
    have hq := n_fresh h2
    have hAq : A q := h2.2 (va_pl L G).length (q, _) (by rw [List.getElem?_append_right (Nat.le_refl _), Nat.sub_self]; rfl)
    exact kk q (va_up G q (.inl (gJ g, N, .inr (.inl (fun _ => 0))))) H1 hq (n_grow hL hq hAq) (va_up_self _ _ _) (fun b hb2 => va_up_ne _ _ (n_ne hq hb2)) (by rw [← va_pl_push hq]; exact h1) h3)
theorem n_arrR (hexec : p.tables.exec = Jvm.exec) (hb : c.code = cc) {own : String} {index : Nat} (hown : s.vm.findClass own = some m.cls) (hclink : (Cond.classLink own index RX1).before args s = true) (hL : kL L A) (hC : Cx g A s s.heap) (hO : kO A s) (hP : va_P g.1 vwCl (va_pl L G) H) (hS : va_S A s.heap H locs) {n : Int32} {N : Nat} (hn : ¬ n < 0) (hN : n.toNatClampNeg = N) (hbytes : N * 4 ≤ 536870912) (hcells : cells + 1 ≤ R.cells) (hslots : slots + N ≤ R.slots) (hdg : decode cc pc = .ok (.anewarray index, 3))
    (kk : ∀ (q : Nat) (G1 : Nat → va_E) (H1 : Heap), q ∉ L → kL (L ++ [q]) A → G1 q = .inl (gR g, N, .inr (.inr (.inr (.inr (fun _ => none))))) → (∀ a, a ∈ L → G1 a = G a) → va_P g.1 vwCl (va_pl (L ++ [q]) G1) H1 → va_S A s.heap H1 locs →
      W p l e R s m args below meth c H1 locs (cells + 1) (slots + N) Q (F0 m (pc + 3) ls (.ref q :: rest))) : W p l e R s m args below meth c H locs cells slots Q (F0 m pc ls (.int n :: rest)) :=
  va_newq hexec hb hown hclink hO.1 hC.1 hP (k_plD hL G) hS hO.2 hn hN hbytes hcells hslots hdg (fun q cA H1 hK1 h1 h2 h3 => by
    have hc : cA = gR g := n_rowI (k := 2) hK1 rfl (Or.inr (Or.inr ⟨_, rfl⟩))
    subst hc
    have hq := n_fresh h2
    have hAq : A q := h2.2 (va_pl L G).length (q, _) (by rw [List.getElem?_append_right (Nat.le_refl _), Nat.sub_self]; rfl)
    exact kk q (va_up G q (.inl (gR g, N, .inr (.inr (.inr (.inr (fun _ => none))))))) H1 hq (n_grow hL hq hAq) (va_up_self _ _ _) (fun b hb2 => va_up_ne _ _ (n_ne hq hb2)) (by rw [← va_pl_push hq]; exact h1) h3)
/-- a final field that holds a reference, in the constructor -/
theorem n_putF (hexec : p.tables.exec = Jvm.exec) (hb : c.code = cc) {own C : String} {T : u_T} {N ci index : Nat} {Ts : List Cond} (hts : ∀ w ∈ Ts, w.before args s = true) (hin : ∀ w ∈ u_ws C T N, w ∈ Ts) (ty0 : Nat → FieldType) (hty : ∀ k, k < N → parseFieldDescriptor (T k).2.2.1 = some (ty0 k)) (hnm : ∀ a, a < N → ∀ b, b < N → a ≠ b → (T a).2.1 ≠ (T b).2.1) (hown : s.vm.findClass own = some m.cls) (hL : kL L A) (hC : Cx g A s s.heap) (hP : va_P g.1 vwCl (va_pl L G) H) (hS : va_S A s.heap H locs) {b : Nat} {fs : List Value} (hbL : b ∈ L) (hG : G b = .inr (ci, fs)) (hc : vwCl[ci]? = some (C, T, N)) (k : Nat) (hk : k < N) (hlink : (Cond.fieldLink own index (T k).1 (T k).2.1 (T k).2.2.1).before args s = true) (hfin : (T k).2.2.2 = true) (hin2 : meth.name = "<init>") (hdecl : (T k).1 = own) {ty : FieldType} {v : Nat} (hd : parseFieldDescriptor (T k).2.2.1 = some ty) (hn : narrow ty (.ref v) = .ref v) (hfit : fits ty (.ref v) = true) (hl : k < fs.length) (hdg : decode cc pc = .ok (.putfield index, 3))
    (kk : ∀ (G1 : Nat → va_E) (H1 : Heap) (locs1 : List Loc), G1 b = .inr (ci, fs.set k (.ref v)) → (∀ a, a ≠ b → G1 a = G a) → va_P g.1 vwCl (va_pl L G1) H1 → va_S A s.heap H1 locs1 → W p l e R s m args below meth c H1 locs1 cells slots Q (F0 m (pc + 3) ls rest)) : W p l e R s m args below meth c H locs cells slots Q (F0 m pc ls (.ref v :: .ref b :: rest)) := by
  obtain ⟨q, hq⟩ := k_plget hbL hG
  exact va_putF hexec hb hts hin ty0 hty hnm hown hC.1 hP (k_plD hL G) hS q hq hc k hk hlink (fun _ h => h) hfin hin2 hdecl hd hn hfit hl hdg (fun H1 locs1 h1 _ h3 => kk (va_up G b (.inr (ci, fs.set k (.ref v)))) H1 locs1 (va_up_self _ _ _) (fun a ha => va_up_ne _ _ ha) (by rw [← k_plset hL hbL hG hq]; exact h1) h3)
end KC
/-- the view of an object stays where the pool grows and its own cells don't change -/
theorem vO.mono {g : Gm} {L L1 : List Nat} {G G1 : Nat → va_E} {a : Nat} {r : Nat → Nat} {ci nI n : Nat} {len : Nat → Nat} {fs : (Nat → Nat) → (Nat → Int32) → List Value} {u : St} (h : vO g L G a r ci nI n len fs u) (hn : nI ≤ n) (hs : ∀ q, q ∈ L → q ∈ L1) (hq : ∀ q, ownS a r n q → G1 q = G q) : vO g L1 G1 a r ci nI n len fs u := by
  obtain ⟨h1, h2, h3, h4, h5, h6⟩ := vO.keep h hn hq
  exact ⟨hs _ h1, h2, fun j hj => ⟨hs _ (h3 j hj).1, (h3 j hj).2⟩, h4, h5, h6⟩
theorem vO.ownL {g : Gm} {L : List Nat} {G : Nat → va_E} {a : Nat} {r : Nat → Nat} {ci nI n : Nat} {len : Nat → Nat} {fs : (Nat → Nat) → (Nat → Int32) → List Value} {u : St} (h : vO g L G a r ci nI n len fs u) : ∀ q, ownS a r n q → q ∈ L := fun q hq => by
  rcases hq with rfl | ⟨j, hj, rfl⟩
  · exact h.1
  · exact (h.2.2.1 j hj).1
def row0 : Nat → Int32 := fun _ => 0
def rkI : Nat → Int32 := upd (upd (upd (upd (upd (upd row0 ((0 : Int32).toNatClampNeg) 0) ((1 : Int32).toNatClampNeg) 1) ((2 : Int32).toNatClampNeg) 2) ((3 : Int32).toNatClampNeg) 3) ((4 : Int32).toNatClampNeg) 4) ((5 : Int32).toNatClampNeg) 5
/-- a new store -/
def stI : St := (fun j => if j = 0 then rkI else row0, fun _ => 0, fun j => if j = 2 then 4 else 0)
/-- a new text -/
def txI : St := (fun _ => row0, fun _ => 0, fun _ => 0)
/-- a new reference -/
theorem put_in {x : Nat → Int32} {n : Nat} {i v : Int32} (h : vp_in i n) (h2 : ¬ Int32.ofNat n ≤ i) : F_X3_put x n i v = some (upd x i.toNatClampNeg v) := by
  unfold F_X3_put
  rw [if_neg (fun q => h (Or.inl q)), if_neg h2, aSt_in h]
  rfl
def newS (g : Gm) (A : Nat → Prop) (L : List Nat) (G : Nat → va_E) (h0 : Nat) (q : List Nat × (Nat → va_E)) : Prop := ∃ qs : List Nat, qs.length = 8 ∧ q.1 = L ++ qs ∧ kL (L ++ qs) A ∧ vS g (L ++ qs) q.2 h0 (rOf qs) stI ∧ ∀ a, a ∈ L → a ≠ h0 → q.2 a = G a
set_option maxHeartbeats 4000000 in
set_option maxRecDepth 100000 in
theorem c_X1_init (l : Launch) (g : Gm) (L : List Nat) {A : Nat → Prop} (hL : kL L A) (G : Nat → va_E) (h0 : Nat) (hm0 : h0 ∈ L) (hG0 : G h0 = .inr (1, [.null, .null, .null, .null, .null, .null, .null, .null, .int 0, .int 0, .int 0, .int 0, .int 0])) : Met l yX1_init wsX1_init ({ frames := 1, cells := 8, slots := 286, locals := 22 } : Room) (va_Pc [.ref h0] (kBO g L A G)) (va_Qv (newS g A L G h0) (fun q t => va_P g.1 vwCl (va_pl q.1 q.2) t.heap) A) 8 286 A := by
  refine Met.ofW (cc := cX1_init) (maxL := 2) (ret := none) (by decide) rfl ?_
  intro p e s m args below meth c s₁ B hml hv
  obtain ⟨rfl, ⟨hP, hC⟩, hO9⟩ := hv
  have hx := B.exec
  have hb := B.bytes
  have hr := B.returns
  have hts := atoms_spec (ws := wsX1_init) B.pre
  have hown : s.vm.findClass RX1 = some m.cls := findClass_of_methodNamed B.named
  have hlk := B.notSynchronized
  have hin0 : meth.name = "<init>" := (name_of_methodNamed B.named B.method).1
  have hS : va_S A s.heap s.heap [] := va_S.rf
  have hm_h0 := hm0
  have hG_h0 := hG0
  have hsub : ∀ a, a ∈ L → a ∈ L := fun a ha => ha
  have hO : ∀ a, a ∈ L → a ≠ h0 → G a = G a := fun _ _ _ => rfl
  have hl := lv_entry ([.ref h0]) (n := 2) (Nat.le_of_ble_eq_true rfl)
  rw [lg_entry_eq]
  generalize (lg_sl ([.ref h0]) ++ List.replicate (2 - (lg_sl ([.ref h0])).length) Slot.unset).toArray = ls at hl ⊢
  have hl : lv_has ls 2 [(0, .ref h0)] := hl
  refine lv_aload_n hx hb dX1_init_0 rfl (lv_at hl 0 rfl) ?_
  refine W.objInit hx hb hown (hts (.methodLink RX1 3 objectInit) (List.mem_of_getElem? (i := 1) rfl)) (hts (.instanceMethod objectInit) (List.mem_of_getElem? (i := 2) rfl)) (hts (.code objectInit ⟨#[0xb1]⟩ 1 none) (List.mem_of_getElem? (i := 3) rfl)) rfl (by rw [hml]; exact hl.1) rfl dX1_init_1 (Nat.le_of_ble_eq_true rfl) (Nat.le_of_ble_eq_true rfl) ?_
  refine W.eq (g2 := F0 m 4 ls []) rfl ?_
  refine lv_aload_n hx hb dX1_init_4 rfl (lv_at hl 0 rfl) ?_
  refine lv_bipush (v := 6) hx hb dX1_init_5 (by decide) ?_
  refine n_arrI (N := 6) hx hb (hts (.arrayClass .int) (List.mem_of_getElem? (i := 4) rfl)) hL hC hO9 hP hS (by decide) (by decide) (Nat.le_of_ble_eq_true rfl) (Nat.le_of_ble_eq_true rfl) (Nat.le_of_ble_eq_true rfl) dX1_init_7 (fun q1 G2 H hq hL hG_q1 hk hP hS => ?_)
  have ne_h0_q1 : h0 ≠ q1 := n_ne hq hm_h0
  have hG_h0 := (hk h0 hm_h0).trans hG_h0
  have hO : ∀ a, a ∈ L → a ≠ h0 → G2 a = G a := fun a ha hn => (hk a (hsub a ha)).trans (hO a ha hn)
  have h0_q1 : ∀ a, a ∈ L → a ≠ q1 := fun a ha => n_ne hq (hsub a ha)
  have hm_h0 := n_left q1 hm_h0
  have hm_q1 : q1 ∈ (L ++ [q1]) := n_last _ _
  have hsub : ∀ a, a ∈ L → a ∈ (L ++ [q1]) := fun a ha => n_left q1 (hsub a ha)
  refine W.widen (k := 1) (n := 6) (Nat.le_of_ble_eq_true rfl) (Nat.le_of_ble_eq_true rfl) ?_
  refine n_putF (C := RX1) (T := TX1) (N := 13) (ci := 1) hx hb hts (fun _ h => List.mem_cons_of_mem _ (List.mem_append_right _ h)) tyX1 tyX1_ok nmX1 hown hL hC hP hS hm_h0 hG_h0 rfl 0 (by decide) (hts (.fieldLink RX1 9 "OrderedClauses$Store" "atomOfRank" "[I") (List.mem_of_getElem? (i := 5) rfl)) (by decide +kernel) hin0 rfl (ty := tyX1 0) (tyX1_ok 0 (by decide)) rfl rfl (Nat.le_of_ble_eq_true rfl) dX1_init_9 (fun G3 H locs hq hk hP hS => ?_)
  have hG_h0 : G3 h0 = .inr (1, [.ref q1, .null, .null, .null, .null, .null, .null, .null, .int 0, .int 0, .int 0, .int 0, .int 0]) := hq
  have hG_q1 := (hk q1 (Ne.symm ne_h0_q1)).trans hG_q1
  have hO : ∀ a, a ∈ L → a ≠ h0 → G3 a = G a := fun a ha hn => (hk a hn).trans (hO a ha hn)
  refine lv_aload_n hx hb dX1_init_12 rfl (lv_at hl 0 rfl) ?_
  refine lv_bipush (v := 40) hx hb dX1_init_13 (by decide) ?_
  refine n_arrI (N := 40) hx hb (hts (.arrayClass .int) (List.mem_of_getElem? (i := 4) rfl)) hL hC hO9 hP hS (by decide) (by decide) (Nat.le_of_ble_eq_true rfl) (Nat.le_of_ble_eq_true rfl) (Nat.le_of_ble_eq_true rfl) dX1_init_15 (fun q4 G5 H hq hL hG_q4 hk hP hS => ?_)
  have ne_h0_q4 : h0 ≠ q4 := n_ne hq hm_h0
  have ne_q1_q4 : q1 ≠ q4 := n_ne hq hm_q1
  have hG_h0 := (hk h0 hm_h0).trans hG_h0
  have hG_q1 := (hk q1 hm_q1).trans hG_q1
  have hO : ∀ a, a ∈ L → a ≠ h0 → G5 a = G a := fun a ha hn => (hk a (hsub a ha)).trans (hO a ha hn)
  have h0_q4 : ∀ a, a ∈ L → a ≠ q4 := fun a ha => n_ne hq (hsub a ha)
  have hm_h0 := n_left q4 hm_h0
  have hm_q1 := n_left q4 hm_q1
  have hm_q4 : q4 ∈ ((L ++ [q1]) ++ [q4]) := n_last _ _
  have hsub : ∀ a, a ∈ L → a ∈ ((L ++ [q1]) ++ [q4]) := fun a ha => n_left q4 (hsub a ha)
  refine W.widen (k := 2) (n := 46) (Nat.le_of_ble_eq_true rfl) (Nat.le_of_ble_eq_true rfl) ?_
  refine n_putF (C := RX1) (T := TX1) (N := 13) (ci := 1) hx hb hts (fun _ h => List.mem_cons_of_mem _ (List.mem_append_right _ h)) tyX1 tyX1_ok nmX1 hown hL hC hP hS hm_h0 hG_h0 rfl 1 (by decide) (hts (.fieldLink RX1 15 "OrderedClauses$Store" "literals" "[I") (List.mem_of_getElem? (i := 6) rfl)) (by decide +kernel) hin0 rfl (ty := tyX1 1) (tyX1_ok 1 (by decide)) rfl rfl (Nat.le_of_ble_eq_true rfl) dX1_init_17 (fun G6 H locs hq hk hP hS => ?_)
  have hG_h0 : G6 h0 = .inr (1, [.ref q1, .ref q4, .null, .null, .null, .null, .null, .null, .int 0, .int 0, .int 0, .int 0, .int 0]) := hq
  have hG_q1 := (hk q1 (Ne.symm ne_h0_q1)).trans hG_q1
  have hG_q4 := (hk q4 (Ne.symm ne_h0_q4)).trans hG_q4
  have hO : ∀ a, a ∈ L → a ≠ h0 → G6 a = G a := fun a ha hn => (hk a hn).trans (hO a ha hn)
  refine lv_aload_n hx hb dX1_init_20 rfl (lv_at hl 0 rfl) ?_
  refine lv_bipush (v := 40) hx hb dX1_init_21 (by decide) ?_
  refine n_arrI (N := 40) hx hb (hts (.arrayClass .int) (List.mem_of_getElem? (i := 4) rfl)) hL hC hO9 hP hS (by decide) (by decide) (Nat.le_of_ble_eq_true rfl) (Nat.le_of_ble_eq_true rfl) (Nat.le_of_ble_eq_true rfl) dX1_init_23 (fun q7 G8 H hq hL hG_q7 hk hP hS => ?_)
  have ne_h0_q7 : h0 ≠ q7 := n_ne hq hm_h0
  have ne_q1_q7 : q1 ≠ q7 := n_ne hq hm_q1
  have ne_q4_q7 : q4 ≠ q7 := n_ne hq hm_q4
  have hG_h0 := (hk h0 hm_h0).trans hG_h0
  have hG_q1 := (hk q1 hm_q1).trans hG_q1
  have hG_q4 := (hk q4 hm_q4).trans hG_q4
  have hO : ∀ a, a ∈ L → a ≠ h0 → G8 a = G a := fun a ha hn => (hk a (hsub a ha)).trans (hO a ha hn)
  have h0_q7 : ∀ a, a ∈ L → a ≠ q7 := fun a ha => n_ne hq (hsub a ha)
  have hm_h0 := n_left q7 hm_h0
  have hm_q1 := n_left q7 hm_q1
  have hm_q4 := n_left q7 hm_q4
  have hm_q7 : q7 ∈ (((L ++ [q1]) ++ [q4]) ++ [q7]) := n_last _ _
  have hsub : ∀ a, a ∈ L → a ∈ (((L ++ [q1]) ++ [q4]) ++ [q7]) := fun a ha => n_left q7 (hsub a ha)
  refine W.widen (k := 3) (n := 86) (Nat.le_of_ble_eq_true rfl) (Nat.le_of_ble_eq_true rfl) ?_
  refine n_putF (C := RX1) (T := TX1) (N := 13) (ci := 1) hx hb hts (fun _ h => List.mem_cons_of_mem _ (List.mem_append_right _ h)) tyX1 tyX1_ok nmX1 hown hL hC hP hS hm_h0 hG_h0 rfl 2 (by decide) (hts (.fieldLink RX1 18 "OrderedClauses$Store" "status" "[I") (List.mem_of_getElem? (i := 7) rfl)) (by decide +kernel) hin0 rfl (ty := tyX1 2) (tyX1_ok 2 (by decide)) rfl rfl (Nat.le_of_ble_eq_true rfl) dX1_init_25 (fun G9 H locs hq hk hP hS => ?_)
  have hG_h0 : G9 h0 = .inr (1, [.ref q1, .ref q4, .ref q7, .null, .null, .null, .null, .null, .int 0, .int 0, .int 0, .int 0, .int 0]) := hq
  have hG_q1 := (hk q1 (Ne.symm ne_h0_q1)).trans hG_q1
  have hG_q4 := (hk q4 (Ne.symm ne_h0_q4)).trans hG_q4
  have hG_q7 := (hk q7 (Ne.symm ne_h0_q7)).trans hG_q7
  have hO : ∀ a, a ∈ L → a ≠ h0 → G9 a = G a := fun a ha hn => (hk a hn).trans (hO a ha hn)
  refine lv_aload_n hx hb dX1_init_28 rfl (lv_at hl 0 rfl) ?_
  refine lv_bipush (v := 40) hx hb dX1_init_29 (by decide) ?_
  refine n_arrI (N := 40) hx hb (hts (.arrayClass .int) (List.mem_of_getElem? (i := 4) rfl)) hL hC hO9 hP hS (by decide) (by decide) (Nat.le_of_ble_eq_true rfl) (Nat.le_of_ble_eq_true rfl) (Nat.le_of_ble_eq_true rfl) dX1_init_31 (fun q10 G11 H hq hL hG_q10 hk hP hS => ?_)
  have ne_h0_q10 : h0 ≠ q10 := n_ne hq hm_h0
  have ne_q1_q10 : q1 ≠ q10 := n_ne hq hm_q1
  have ne_q4_q10 : q4 ≠ q10 := n_ne hq hm_q4
  have ne_q7_q10 : q7 ≠ q10 := n_ne hq hm_q7
  have hG_h0 := (hk h0 hm_h0).trans hG_h0
  have hG_q1 := (hk q1 hm_q1).trans hG_q1
  have hG_q4 := (hk q4 hm_q4).trans hG_q4
  have hG_q7 := (hk q7 hm_q7).trans hG_q7
  have hO : ∀ a, a ∈ L → a ≠ h0 → G11 a = G a := fun a ha hn => (hk a (hsub a ha)).trans (hO a ha hn)
  have h0_q10 : ∀ a, a ∈ L → a ≠ q10 := fun a ha => n_ne hq (hsub a ha)
  have hm_h0 := n_left q10 hm_h0
  have hm_q1 := n_left q10 hm_q1
  have hm_q4 := n_left q10 hm_q4
  have hm_q7 := n_left q10 hm_q7
  have hm_q10 : q10 ∈ ((((L ++ [q1]) ++ [q4]) ++ [q7]) ++ [q10]) := n_last _ _
  have hsub : ∀ a, a ∈ L → a ∈ ((((L ++ [q1]) ++ [q4]) ++ [q7]) ++ [q10]) := fun a ha => n_left q10 (hsub a ha)
  refine W.widen (k := 4) (n := 126) (Nat.le_of_ble_eq_true rfl) (Nat.le_of_ble_eq_true rfl) ?_
  refine n_putF (C := RX1) (T := TX1) (N := 13) (ci := 1) hx hb hts (fun _ h => List.mem_cons_of_mem _ (List.mem_append_right _ h)) tyX1 tyX1_ok nmX1 hown hL hC hP hS hm_h0 hG_h0 rfl 3 (by decide) (hts (.fieldLink RX1 21 "OrderedClauses$Store" "holdingParent" "[I") (List.mem_of_getElem? (i := 8) rfl)) (by decide +kernel) hin0 rfl (ty := tyX1 3) (tyX1_ok 3 (by decide)) rfl rfl (Nat.le_of_ble_eq_true rfl) dX1_init_33 (fun G12 H locs hq hk hP hS => ?_)
  have hG_h0 : G12 h0 = .inr (1, [.ref q1, .ref q4, .ref q7, .ref q10, .null, .null, .null, .null, .int 0, .int 0, .int 0, .int 0, .int 0]) := hq
  have hG_q1 := (hk q1 (Ne.symm ne_h0_q1)).trans hG_q1
  have hG_q4 := (hk q4 (Ne.symm ne_h0_q4)).trans hG_q4
  have hG_q7 := (hk q7 (Ne.symm ne_h0_q7)).trans hG_q7
  have hG_q10 := (hk q10 (Ne.symm ne_h0_q10)).trans hG_q10
  have hO : ∀ a, a ∈ L → a ≠ h0 → G12 a = G a := fun a ha hn => (hk a hn).trans (hO a ha hn)
  refine lv_aload_n hx hb dX1_init_36 rfl (lv_at hl 0 rfl) ?_
  refine lv_bipush (v := 40) hx hb dX1_init_37 (by decide) ?_
  refine n_arrI (N := 40) hx hb (hts (.arrayClass .int) (List.mem_of_getElem? (i := 4) rfl)) hL hC hO9 hP hS (by decide) (by decide) (Nat.le_of_ble_eq_true rfl) (Nat.le_of_ble_eq_true rfl) (Nat.le_of_ble_eq_true rfl) dX1_init_39 (fun q13 G14 H hq hL hG_q13 hk hP hS => ?_)
  have ne_h0_q13 : h0 ≠ q13 := n_ne hq hm_h0
  have ne_q1_q13 : q1 ≠ q13 := n_ne hq hm_q1
  have ne_q4_q13 : q4 ≠ q13 := n_ne hq hm_q4
  have ne_q7_q13 : q7 ≠ q13 := n_ne hq hm_q7
  have ne_q10_q13 : q10 ≠ q13 := n_ne hq hm_q10
  have hG_h0 := (hk h0 hm_h0).trans hG_h0
  have hG_q1 := (hk q1 hm_q1).trans hG_q1
  have hG_q4 := (hk q4 hm_q4).trans hG_q4
  have hG_q7 := (hk q7 hm_q7).trans hG_q7
  have hG_q10 := (hk q10 hm_q10).trans hG_q10
  have hO : ∀ a, a ∈ L → a ≠ h0 → G14 a = G a := fun a ha hn => (hk a (hsub a ha)).trans (hO a ha hn)
  have h0_q13 : ∀ a, a ∈ L → a ≠ q13 := fun a ha => n_ne hq (hsub a ha)
  have hm_h0 := n_left q13 hm_h0
  have hm_q1 := n_left q13 hm_q1
  have hm_q4 := n_left q13 hm_q4
  have hm_q7 := n_left q13 hm_q7
  have hm_q10 := n_left q13 hm_q10
  have hm_q13 : q13 ∈ (((((L ++ [q1]) ++ [q4]) ++ [q7]) ++ [q10]) ++ [q13]) := n_last _ _
  have hsub : ∀ a, a ∈ L → a ∈ (((((L ++ [q1]) ++ [q4]) ++ [q7]) ++ [q10]) ++ [q13]) := fun a ha => n_left q13 (hsub a ha)
  refine W.widen (k := 5) (n := 166) (Nat.le_of_ble_eq_true rfl) (Nat.le_of_ble_eq_true rfl) ?_
  refine n_putF (C := RX1) (T := TX1) (N := 13) (ci := 1) hx hb hts (fun _ h => List.mem_cons_of_mem _ (List.mem_append_right _ h)) tyX1 tyX1_ok nmX1 hown hL hC hP hS hm_h0 hG_h0 rfl 4 (by decide) (hts (.fieldLink RX1 24 "OrderedClauses$Store" "otherParent" "[I") (List.mem_of_getElem? (i := 9) rfl)) (by decide +kernel) hin0 rfl (ty := tyX1 4) (tyX1_ok 4 (by decide)) rfl rfl (Nat.le_of_ble_eq_true rfl) dX1_init_41 (fun G15 H locs hq hk hP hS => ?_)
  have hG_h0 : G15 h0 = .inr (1, [.ref q1, .ref q4, .ref q7, .ref q10, .ref q13, .null, .null, .null, .int 0, .int 0, .int 0, .int 0, .int 0]) := hq
  have hG_q1 := (hk q1 (Ne.symm ne_h0_q1)).trans hG_q1
  have hG_q4 := (hk q4 (Ne.symm ne_h0_q4)).trans hG_q4
  have hG_q7 := (hk q7 (Ne.symm ne_h0_q7)).trans hG_q7
  have hG_q10 := (hk q10 (Ne.symm ne_h0_q10)).trans hG_q10
  have hG_q13 := (hk q13 (Ne.symm ne_h0_q13)).trans hG_q13
  have hO : ∀ a, a ∈ L → a ≠ h0 → G15 a = G a := fun a ha hn => (hk a hn).trans (hO a ha hn)
  refine lv_aload_n hx hb dX1_init_44 rfl (lv_at hl 0 rfl) ?_
  refine lv_bipush (v := 40) hx hb dX1_init_45 (by decide) ?_
  refine n_arrI (N := 40) hx hb (hts (.arrayClass .int) (List.mem_of_getElem? (i := 4) rfl)) hL hC hO9 hP hS (by decide) (by decide) (Nat.le_of_ble_eq_true rfl) (Nat.le_of_ble_eq_true rfl) (Nat.le_of_ble_eq_true rfl) dX1_init_47 (fun q16 G17 H hq hL hG_q16 hk hP hS => ?_)
  have ne_h0_q16 : h0 ≠ q16 := n_ne hq hm_h0
  have ne_q1_q16 : q1 ≠ q16 := n_ne hq hm_q1
  have ne_q4_q16 : q4 ≠ q16 := n_ne hq hm_q4
  have ne_q7_q16 : q7 ≠ q16 := n_ne hq hm_q7
  have ne_q10_q16 : q10 ≠ q16 := n_ne hq hm_q10
  have ne_q13_q16 : q13 ≠ q16 := n_ne hq hm_q13
  have hG_h0 := (hk h0 hm_h0).trans hG_h0
  have hG_q1 := (hk q1 hm_q1).trans hG_q1
  have hG_q4 := (hk q4 hm_q4).trans hG_q4
  have hG_q7 := (hk q7 hm_q7).trans hG_q7
  have hG_q10 := (hk q10 hm_q10).trans hG_q10
  have hG_q13 := (hk q13 hm_q13).trans hG_q13
  have hO : ∀ a, a ∈ L → a ≠ h0 → G17 a = G a := fun a ha hn => (hk a (hsub a ha)).trans (hO a ha hn)
  have h0_q16 : ∀ a, a ∈ L → a ≠ q16 := fun a ha => n_ne hq (hsub a ha)
  have hm_h0 := n_left q16 hm_h0
  have hm_q1 := n_left q16 hm_q1
  have hm_q4 := n_left q16 hm_q4
  have hm_q7 := n_left q16 hm_q7
  have hm_q10 := n_left q16 hm_q10
  have hm_q13 := n_left q16 hm_q13
  have hm_q16 : q16 ∈ ((((((L ++ [q1]) ++ [q4]) ++ [q7]) ++ [q10]) ++ [q13]) ++ [q16]) := n_last _ _
  have hsub : ∀ a, a ∈ L → a ∈ ((((((L ++ [q1]) ++ [q4]) ++ [q7]) ++ [q10]) ++ [q13]) ++ [q16]) := fun a ha => n_left q16 (hsub a ha)
  refine W.widen (k := 6) (n := 206) (Nat.le_of_ble_eq_true rfl) (Nat.le_of_ble_eq_true rfl) ?_
  refine n_putF (C := RX1) (T := TX1) (N := 13) (ci := 1) hx hb hts (fun _ h => List.mem_cons_of_mem _ (List.mem_append_right _ h)) tyX1 tyX1_ok nmX1 hown hL hC hP hS hm_h0 hG_h0 rfl 5 (by decide) (hts (.fieldLink RX1 27 "OrderedClauses$Store" "atomMadeBy" "[I") (List.mem_of_getElem? (i := 10) rfl)) (by decide +kernel) hin0 rfl (ty := tyX1 5) (tyX1_ok 5 (by decide)) rfl rfl (Nat.le_of_ble_eq_true rfl) dX1_init_49 (fun G18 H locs hq hk hP hS => ?_)
  have hG_h0 : G18 h0 = .inr (1, [.ref q1, .ref q4, .ref q7, .ref q10, .ref q13, .ref q16, .null, .null, .int 0, .int 0, .int 0, .int 0, .int 0]) := hq
  have hG_q1 := (hk q1 (Ne.symm ne_h0_q1)).trans hG_q1
  have hG_q4 := (hk q4 (Ne.symm ne_h0_q4)).trans hG_q4
  have hG_q7 := (hk q7 (Ne.symm ne_h0_q7)).trans hG_q7
  have hG_q10 := (hk q10 (Ne.symm ne_h0_q10)).trans hG_q10
  have hG_q13 := (hk q13 (Ne.symm ne_h0_q13)).trans hG_q13
  have hG_q16 := (hk q16 (Ne.symm ne_h0_q16)).trans hG_q16
  have hO : ∀ a, a ∈ L → a ≠ h0 → G18 a = G a := fun a ha hn => (hk a hn).trans (hO a ha hn)
  refine lv_aload_n hx hb dX1_init_52 rfl (lv_at hl 0 rfl) ?_
  refine lv_bipush (v := 40) hx hb dX1_init_53 (by decide) ?_
  refine n_arrI (N := 40) hx hb (hts (.arrayClass .int) (List.mem_of_getElem? (i := 4) rfl)) hL hC hO9 hP hS (by decide) (by decide) (Nat.le_of_ble_eq_true rfl) (Nat.le_of_ble_eq_true rfl) (Nat.le_of_ble_eq_true rfl) dX1_init_55 (fun q19 G20 H hq hL hG_q19 hk hP hS => ?_)
  have ne_h0_q19 : h0 ≠ q19 := n_ne hq hm_h0
  have ne_q1_q19 : q1 ≠ q19 := n_ne hq hm_q1
  have ne_q4_q19 : q4 ≠ q19 := n_ne hq hm_q4
  have ne_q7_q19 : q7 ≠ q19 := n_ne hq hm_q7
  have ne_q10_q19 : q10 ≠ q19 := n_ne hq hm_q10
  have ne_q13_q19 : q13 ≠ q19 := n_ne hq hm_q13
  have ne_q16_q19 : q16 ≠ q19 := n_ne hq hm_q16
  have hG_h0 := (hk h0 hm_h0).trans hG_h0
  have hG_q1 := (hk q1 hm_q1).trans hG_q1
  have hG_q4 := (hk q4 hm_q4).trans hG_q4
  have hG_q7 := (hk q7 hm_q7).trans hG_q7
  have hG_q10 := (hk q10 hm_q10).trans hG_q10
  have hG_q13 := (hk q13 hm_q13).trans hG_q13
  have hG_q16 := (hk q16 hm_q16).trans hG_q16
  have hO : ∀ a, a ∈ L → a ≠ h0 → G20 a = G a := fun a ha hn => (hk a (hsub a ha)).trans (hO a ha hn)
  have h0_q19 : ∀ a, a ∈ L → a ≠ q19 := fun a ha => n_ne hq (hsub a ha)
  have hm_h0 := n_left q19 hm_h0
  have hm_q1 := n_left q19 hm_q1
  have hm_q4 := n_left q19 hm_q4
  have hm_q7 := n_left q19 hm_q7
  have hm_q10 := n_left q19 hm_q10
  have hm_q13 := n_left q19 hm_q13
  have hm_q16 := n_left q19 hm_q16
  have hm_q19 : q19 ∈ (((((((L ++ [q1]) ++ [q4]) ++ [q7]) ++ [q10]) ++ [q13]) ++ [q16]) ++ [q19]) := n_last _ _
  have hsub : ∀ a, a ∈ L → a ∈ (((((((L ++ [q1]) ++ [q4]) ++ [q7]) ++ [q10]) ++ [q13]) ++ [q16]) ++ [q19]) := fun a ha => n_left q19 (hsub a ha)
  refine W.widen (k := 7) (n := 246) (Nat.le_of_ble_eq_true rfl) (Nat.le_of_ble_eq_true rfl) ?_
  refine n_putF (C := RX1) (T := TX1) (N := 13) (ci := 1) hx hb hts (fun _ h => List.mem_cons_of_mem _ (List.mem_append_right _ h)) tyX1 tyX1_ok nmX1 hown hL hC hP hS hm_h0 hG_h0 rfl 6 (by decide) (hts (.fieldLink RX1 30 "OrderedClauses$Store" "depth" "[I") (List.mem_of_getElem? (i := 11) rfl)) (by decide +kernel) hin0 rfl (ty := tyX1 6) (tyX1_ok 6 (by decide)) rfl rfl (Nat.le_of_ble_eq_true rfl) dX1_init_57 (fun G21 H locs hq hk hP hS => ?_)
  have hG_h0 : G21 h0 = .inr (1, [.ref q1, .ref q4, .ref q7, .ref q10, .ref q13, .ref q16, .ref q19, .null, .int 0, .int 0, .int 0, .int 0, .int 0]) := hq
  have hG_q1 := (hk q1 (Ne.symm ne_h0_q1)).trans hG_q1
  have hG_q4 := (hk q4 (Ne.symm ne_h0_q4)).trans hG_q4
  have hG_q7 := (hk q7 (Ne.symm ne_h0_q7)).trans hG_q7
  have hG_q10 := (hk q10 (Ne.symm ne_h0_q10)).trans hG_q10
  have hG_q13 := (hk q13 (Ne.symm ne_h0_q13)).trans hG_q13
  have hG_q16 := (hk q16 (Ne.symm ne_h0_q16)).trans hG_q16
  have hG_q19 := (hk q19 (Ne.symm ne_h0_q19)).trans hG_q19
  have hO : ∀ a, a ∈ L → a ≠ h0 → G21 a = G a := fun a ha hn => (hk a hn).trans (hO a ha hn)
  refine lv_aload_n hx hb dX1_init_60 rfl (lv_at hl 0 rfl) ?_
  refine lv_bipush (v := 40) hx hb dX1_init_61 (by decide) ?_
  refine n_arrJ (N := 40) hx hb (hts (.arrayClass .long) (List.mem_of_getElem? (i := 12) rfl)) hL hC hO9 hP hS (by decide) (by decide) (Nat.le_of_ble_eq_true rfl) (Nat.le_of_ble_eq_true rfl) (Nat.le_of_ble_eq_true rfl) dX1_init_63 (fun q22 G23 H hq hL hG_q22 hk hP hS => ?_)
  have ne_h0_q22 : h0 ≠ q22 := n_ne hq hm_h0
  have ne_q1_q22 : q1 ≠ q22 := n_ne hq hm_q1
  have ne_q4_q22 : q4 ≠ q22 := n_ne hq hm_q4
  have ne_q7_q22 : q7 ≠ q22 := n_ne hq hm_q7
  have ne_q10_q22 : q10 ≠ q22 := n_ne hq hm_q10
  have ne_q13_q22 : q13 ≠ q22 := n_ne hq hm_q13
  have ne_q16_q22 : q16 ≠ q22 := n_ne hq hm_q16
  have ne_q19_q22 : q19 ≠ q22 := n_ne hq hm_q19
  have hG_h0 := (hk h0 hm_h0).trans hG_h0
  have hG_q1 := (hk q1 hm_q1).trans hG_q1
  have hG_q4 := (hk q4 hm_q4).trans hG_q4
  have hG_q7 := (hk q7 hm_q7).trans hG_q7
  have hG_q10 := (hk q10 hm_q10).trans hG_q10
  have hG_q13 := (hk q13 hm_q13).trans hG_q13
  have hG_q16 := (hk q16 hm_q16).trans hG_q16
  have hG_q19 := (hk q19 hm_q19).trans hG_q19
  have hO : ∀ a, a ∈ L → a ≠ h0 → G23 a = G a := fun a ha hn => (hk a (hsub a ha)).trans (hO a ha hn)
  have h0_q22 : ∀ a, a ∈ L → a ≠ q22 := fun a ha => n_ne hq (hsub a ha)
  have hm_h0 := n_left q22 hm_h0
  have hm_q1 := n_left q22 hm_q1
  have hm_q4 := n_left q22 hm_q4
  have hm_q7 := n_left q22 hm_q7
  have hm_q10 := n_left q22 hm_q10
  have hm_q13 := n_left q22 hm_q13
  have hm_q16 := n_left q22 hm_q16
  have hm_q19 := n_left q22 hm_q19
  have hm_q22 : q22 ∈ ((((((((L ++ [q1]) ++ [q4]) ++ [q7]) ++ [q10]) ++ [q13]) ++ [q16]) ++ [q19]) ++ [q22]) := n_last _ _
  have hsub : ∀ a, a ∈ L → a ∈ ((((((((L ++ [q1]) ++ [q4]) ++ [q7]) ++ [q10]) ++ [q13]) ++ [q16]) ++ [q19]) ++ [q22]) := fun a ha => n_left q22 (hsub a ha)
  refine W.widen (k := 8) (n := 286) (Nat.le_of_ble_eq_true rfl) (Nat.le_of_ble_eq_true rfl) ?_
  refine n_putF (C := RX1) (T := TX1) (N := 13) (ci := 1) hx hb hts (fun _ h => List.mem_cons_of_mem _ (List.mem_append_right _ h)) tyX1 tyX1_ok nmX1 hown hL hC hP hS hm_h0 hG_h0 rfl 7 (by decide) (hts (.fieldLink RX1 33 "OrderedClauses$Store" "fulfilledBy" "[J") (List.mem_of_getElem? (i := 13) rfl)) (by decide +kernel) hin0 rfl (ty := tyX1 7) (tyX1_ok 7 (by decide)) rfl rfl (Nat.le_of_ble_eq_true rfl) dX1_init_65 (fun G24 H locs hq hk hP hS => ?_)
  have hG_h0 : G24 h0 = .inr (1, [.ref q1, .ref q4, .ref q7, .ref q10, .ref q13, .ref q16, .ref q19, .ref q22, .int 0, .int 0, .int 0, .int 0, .int 0]) := hq
  have hG_q1 := (hk q1 (Ne.symm ne_h0_q1)).trans hG_q1
  have hG_q4 := (hk q4 (Ne.symm ne_h0_q4)).trans hG_q4
  have hG_q7 := (hk q7 (Ne.symm ne_h0_q7)).trans hG_q7
  have hG_q10 := (hk q10 (Ne.symm ne_h0_q10)).trans hG_q10
  have hG_q13 := (hk q13 (Ne.symm ne_h0_q13)).trans hG_q13
  have hG_q16 := (hk q16 (Ne.symm ne_h0_q16)).trans hG_q16
  have hG_q19 := (hk q19 (Ne.symm ne_h0_q19)).trans hG_q19
  have hG_q22 := (hk q22 (Ne.symm ne_h0_q22)).trans hG_q22
  have hO : ∀ a, a ∈ L → a ≠ h0 → G24 a = G a := fun a ha hn => (hk a hn).trans (hO a ha hn)
  refine lv_aload_n hx hb dX1_init_68 rfl (lv_at hl 0 rfl) ?_
  refine lv_iconst (v := 0) hx hb dX1_init_69 (by decide) ?_
  refine k_putE (C := RX1) (T := TX1) (N := 13) (ci := 1) hx hb hts (fun _ h => List.mem_cons_of_mem _ (List.mem_append_right _ h)) tyX1 tyX1_ok nmX1 hown hL hC hP hS hm_h0 hG_h0 rfl 8 (by decide) (hts (.fieldLink RX1 37 "OrderedClauses$Store" "clauses" "I") (List.mem_of_getElem? (i := 14) rfl)) (by decide +kernel) (by decide +kernel) (Nat.le_of_ble_eq_true rfl) dX1_init_70 (fun G25 H locs hq hP hS => ?_)
  have hk : ∀ a, a ≠ h0 → G25 a = G24 a := fun a ha => by rw [hq]; exact va_up_ne _ _ ha
  have hq : G25 h0 = .inr (1, [.ref q1, .ref q4, .ref q7, .ref q10, .ref q13, .ref q16, .ref q19, .ref q22, .int 0, .int 0, .int 0, .int 0, .int 0]) := by rw [hq]; exact va_up_self _ _ _
  have hG_h0 : G25 h0 = .inr (1, [.ref q1, .ref q4, .ref q7, .ref q10, .ref q13, .ref q16, .ref q19, .ref q22, .int 0, .int 0, .int 0, .int 0, .int 0]) := hq
  have hG_q1 := (hk q1 (Ne.symm ne_h0_q1)).trans hG_q1
  have hG_q4 := (hk q4 (Ne.symm ne_h0_q4)).trans hG_q4
  have hG_q7 := (hk q7 (Ne.symm ne_h0_q7)).trans hG_q7
  have hG_q10 := (hk q10 (Ne.symm ne_h0_q10)).trans hG_q10
  have hG_q13 := (hk q13 (Ne.symm ne_h0_q13)).trans hG_q13
  have hG_q16 := (hk q16 (Ne.symm ne_h0_q16)).trans hG_q16
  have hG_q19 := (hk q19 (Ne.symm ne_h0_q19)).trans hG_q19
  have hG_q22 := (hk q22 (Ne.symm ne_h0_q22)).trans hG_q22
  have hO : ∀ a, a ∈ L → a ≠ h0 → G25 a = G a := fun a ha hn => (hk a hn).trans (hO a ha hn)
  refine lv_aload_n hx hb dX1_init_73 rfl (lv_at hl 0 rfl) ?_
  refine lv_iconst (v := 0) hx hb dX1_init_74 (by decide) ?_
  refine k_putE (C := RX1) (T := TX1) (N := 13) (ci := 1) hx hb hts (fun _ h => List.mem_cons_of_mem _ (List.mem_append_right _ h)) tyX1 tyX1_ok nmX1 hown hL hC hP hS hm_h0 hG_h0 rfl 9 (by decide) (hts (.fieldLink RX1 41 "OrderedClauses$Store" "steps" "I") (List.mem_of_getElem? (i := 15) rfl)) (by decide +kernel) (by decide +kernel) (Nat.le_of_ble_eq_true rfl) dX1_init_75 (fun G26 H locs hq hP hS => ?_)
  have hk : ∀ a, a ≠ h0 → G26 a = G25 a := fun a ha => by rw [hq]; exact va_up_ne _ _ ha
  have hq : G26 h0 = .inr (1, [.ref q1, .ref q4, .ref q7, .ref q10, .ref q13, .ref q16, .ref q19, .ref q22, .int 0, .int 0, .int 0, .int 0, .int 0]) := by rw [hq]; exact va_up_self _ _ _
  have hG_h0 : G26 h0 = .inr (1, [.ref q1, .ref q4, .ref q7, .ref q10, .ref q13, .ref q16, .ref q19, .ref q22, .int 0, .int 0, .int 0, .int 0, .int 0]) := hq
  have hG_q1 := (hk q1 (Ne.symm ne_h0_q1)).trans hG_q1
  have hG_q4 := (hk q4 (Ne.symm ne_h0_q4)).trans hG_q4
  have hG_q7 := (hk q7 (Ne.symm ne_h0_q7)).trans hG_q7
  have hG_q10 := (hk q10 (Ne.symm ne_h0_q10)).trans hG_q10
  have hG_q13 := (hk q13 (Ne.symm ne_h0_q13)).trans hG_q13
  have hG_q16 := (hk q16 (Ne.symm ne_h0_q16)).trans hG_q16
  have hG_q19 := (hk q19 (Ne.symm ne_h0_q19)).trans hG_q19
  have hG_q22 := (hk q22 (Ne.symm ne_h0_q22)).trans hG_q22
  have hO : ∀ a, a ∈ L → a ≠ h0 → G26 a = G a := fun a ha hn => (hk a hn).trans (hO a ha hn)
  refine lv_aload_n hx hb dX1_init_78 rfl (lv_at hl 0 rfl) ?_
  refine lv_iconst (v := 4) hx hb dX1_init_79 (by decide) ?_
  refine k_putE (C := RX1) (T := TX1) (N := 13) (ci := 1) hx hb hts (fun _ h => List.mem_cons_of_mem _ (List.mem_append_right _ h)) tyX1 tyX1_ok nmX1 hown hL hC hP hS hm_h0 hG_h0 rfl 10 (by decide) (hts (.fieldLink RX1 44 "OrderedClauses$Store" "setting" "I") (List.mem_of_getElem? (i := 16) rfl)) (by decide +kernel) (by decide +kernel) (Nat.le_of_ble_eq_true rfl) dX1_init_80 (fun G27 H locs hq hP hS => ?_)
  have hk : ∀ a, a ≠ h0 → G27 a = G26 a := fun a ha => by rw [hq]; exact va_up_ne _ _ ha
  have hq : G27 h0 = .inr (1, [.ref q1, .ref q4, .ref q7, .ref q10, .ref q13, .ref q16, .ref q19, .ref q22, .int 0, .int 0, .int 4, .int 0, .int 0]) := by rw [hq]; exact va_up_self _ _ _
  have hG_h0 : G27 h0 = .inr (1, [.ref q1, .ref q4, .ref q7, .ref q10, .ref q13, .ref q16, .ref q19, .ref q22, .int 0, .int 0, .int 4, .int 0, .int 0]) := hq
  have hG_q1 := (hk q1 (Ne.symm ne_h0_q1)).trans hG_q1
  have hG_q4 := (hk q4 (Ne.symm ne_h0_q4)).trans hG_q4
  have hG_q7 := (hk q7 (Ne.symm ne_h0_q7)).trans hG_q7
  have hG_q10 := (hk q10 (Ne.symm ne_h0_q10)).trans hG_q10
  have hG_q13 := (hk q13 (Ne.symm ne_h0_q13)).trans hG_q13
  have hG_q16 := (hk q16 (Ne.symm ne_h0_q16)).trans hG_q16
  have hG_q19 := (hk q19 (Ne.symm ne_h0_q19)).trans hG_q19
  have hG_q22 := (hk q22 (Ne.symm ne_h0_q22)).trans hG_q22
  have hO : ∀ a, a ∈ L → a ≠ h0 → G27 a = G a := fun a ha hn => (hk a hn).trans (hO a ha hn)
  refine lv_aload_n hx hb dX1_init_83 rfl (lv_at hl 0 rfl) ?_
  refine lv_iconst (v := 0) hx hb dX1_init_84 (by decide) ?_
  refine k_putE (C := RX1) (T := TX1) (N := 13) (ci := 1) hx hb hts (fun _ h => List.mem_cons_of_mem _ (List.mem_append_right _ h)) tyX1 tyX1_ok nmX1 hown hL hC hP hS hm_h0 hG_h0 rfl 11 (by decide) (hts (.fieldLink RX1 47 "OrderedClauses$Store" "heldAlways" "I") (List.mem_of_getElem? (i := 17) rfl)) (by decide +kernel) (by decide +kernel) (Nat.le_of_ble_eq_true rfl) dX1_init_85 (fun G28 H locs hq hP hS => ?_)
  have hk : ∀ a, a ≠ h0 → G28 a = G27 a := fun a ha => by rw [hq]; exact va_up_ne _ _ ha
  have hq : G28 h0 = .inr (1, [.ref q1, .ref q4, .ref q7, .ref q10, .ref q13, .ref q16, .ref q19, .ref q22, .int 0, .int 0, .int 4, .int 0, .int 0]) := by rw [hq]; exact va_up_self _ _ _
  have hG_h0 : G28 h0 = .inr (1, [.ref q1, .ref q4, .ref q7, .ref q10, .ref q13, .ref q16, .ref q19, .ref q22, .int 0, .int 0, .int 4, .int 0, .int 0]) := hq
  have hG_q1 := (hk q1 (Ne.symm ne_h0_q1)).trans hG_q1
  have hG_q4 := (hk q4 (Ne.symm ne_h0_q4)).trans hG_q4
  have hG_q7 := (hk q7 (Ne.symm ne_h0_q7)).trans hG_q7
  have hG_q10 := (hk q10 (Ne.symm ne_h0_q10)).trans hG_q10
  have hG_q13 := (hk q13 (Ne.symm ne_h0_q13)).trans hG_q13
  have hG_q16 := (hk q16 (Ne.symm ne_h0_q16)).trans hG_q16
  have hG_q19 := (hk q19 (Ne.symm ne_h0_q19)).trans hG_q19
  have hG_q22 := (hk q22 (Ne.symm ne_h0_q22)).trans hG_q22
  have hO : ∀ a, a ∈ L → a ≠ h0 → G28 a = G a := fun a ha hn => (hk a hn).trans (hO a ha hn)
  refine lv_aload_n hx hb dX1_init_88 rfl (lv_at hl 0 rfl) ?_
  refine lv_iconst (v := 0) hx hb dX1_init_89 (by decide) ?_
  refine k_putE (C := RX1) (T := TX1) (N := 13) (ci := 1) hx hb hts (fun _ h => List.mem_cons_of_mem _ (List.mem_append_right _ h)) tyX1 tyX1_ok nmX1 hown hL hC hP hS hm_h0 hG_h0 rfl 12 (by decide) (hts (.fieldLink RX1 50 "OrderedClauses$Store" "hadAnotherWithin" "I") (List.mem_of_getElem? (i := 18) rfl)) (by decide +kernel) (by decide +kernel) (Nat.le_of_ble_eq_true rfl) dX1_init_90 (fun G29 H locs hq hP hS => ?_)
  have hk : ∀ a, a ≠ h0 → G29 a = G28 a := fun a ha => by rw [hq]; exact va_up_ne _ _ ha
  have hq : G29 h0 = .inr (1, [.ref q1, .ref q4, .ref q7, .ref q10, .ref q13, .ref q16, .ref q19, .ref q22, .int 0, .int 0, .int 4, .int 0, .int 0]) := by rw [hq]; exact va_up_self _ _ _
  have hG_h0 : G29 h0 = .inr (1, [.ref q1, .ref q4, .ref q7, .ref q10, .ref q13, .ref q16, .ref q19, .ref q22, .int 0, .int 0, .int 4, .int 0, .int 0]) := hq
  have hG_q1 := (hk q1 (Ne.symm ne_h0_q1)).trans hG_q1
  have hG_q4 := (hk q4 (Ne.symm ne_h0_q4)).trans hG_q4
  have hG_q7 := (hk q7 (Ne.symm ne_h0_q7)).trans hG_q7
  have hG_q10 := (hk q10 (Ne.symm ne_h0_q10)).trans hG_q10
  have hG_q13 := (hk q13 (Ne.symm ne_h0_q13)).trans hG_q13
  have hG_q16 := (hk q16 (Ne.symm ne_h0_q16)).trans hG_q16
  have hG_q19 := (hk q19 (Ne.symm ne_h0_q19)).trans hG_q19
  have hG_q22 := (hk q22 (Ne.symm ne_h0_q22)).trans hG_q22
  have hO : ∀ a, a ∈ L → a ≠ h0 → G29 a = G a := fun a ha hn => (hk a hn).trans (hO a ha hn)
  refine lv_iconst (v := 0) hx hb dX1_init_93 (by decide) ?_
  refine lv_istore_n (lv' := [(1, .int 0), (0, .ref h0)]) hx hb dX1_init_94 rfl hl (by decide) rfl (fun ls hl => ?_)
  refine lv_iload_n hx hb dX1_init_95 rfl (lv_at hl 0 rfl) ?_
  refine lv_bipush (v := 6) hx hb dX1_init_96 (by decide) ?_
  refine lv_icmp_ge (tgt := 116) hx hb dX1_init_98 (by decide) (fun c9 => absurd c9 (by decide)) (fun _ => ?_)
  refine lv_aload_n hx hb dX1_init_101 rfl (lv_at hl 1 rfl) ?_
  refine k_get (C := RX1) (T := TX1) (N := 13) (ci := 1) (v := .ref q1) hx hb hts (fun _ h => List.mem_cons_of_mem _ (List.mem_append_right _ h)) hown hC hP hm_h0 hG_h0 rfl 0 (by decide) (hts (.fieldLink RX1 9 "OrderedClauses$Store" "atomOfRank" "[I") (List.mem_of_getElem? (i := 5) rfl)) rfl dX1_init_102 ?_
  refine lv_iload_n hx hb dX1_init_105 rfl (lv_at hl 0 rfl) ?_
  refine lv_iload_n hx hb dX1_init_106 rfl (lv_at hl 0 rfl) ?_
  refine k_v hS (va_runSN (As := [.ref q1, .int 0, .int 0]) (rest := []) ⟨hx, hb, hml, hown, hts⟩ (c_X3_put l g ((((((((L ++ [q1]) ++ [q4]) ++ [q7]) ++ [q10]) ++ [q13]) ++ [q16]) ++ [q19]) ++ [q22]) hL G29 q1 (fun _ => 0) 6 hm_q1 hG_q1 0 0 (upd (fun _ => 0) ((0 : Int32).toNatClampNeg) 0) (put_in (vp_in_iff.mpr (by decide)) (by decide))) ⟨va_cnB 3 hts gX1_init_X3_put_n53 rfl rfl rfl (hC.2.1.2 (RX1, 53, yX3_put, RX3) (List.mem_of_getElem? (i := 1) rfl)) (hts (.initialized RX3) (List.mem_of_getElem? (i := 20) rfl)) (by decide +kernel) ⟨Nat.le_of_ble_eq_true rfl, Nat.le_of_ble_eq_true rfl⟩, (hts (.static yX3_put) (List.mem_of_getElem? (i := 19) rfl)), trivial⟩ (k_pre hC hS hP) rfl rfl hl.1 rfl (lv_room (Nat.le_of_ble_eq_true rfl)) dX1_init_107 ⟨Nat.le_of_ble_eq_true rfl, Nat.le_of_ble_eq_true rfl⟩) (fun G30 H locs hq hP hS => ?_)
  have hk : ∀ a, a ≠ q1 → G30 a = G29 a := fun a ha => by rw [hq]; exact va_up_ne _ _ ha
  have hG_q1 : G30 q1 = .inl (gI g, 6, .inl (upd (fun _ => 0) ((0 : Int32).toNatClampNeg) 0)) := by rw [hq]; exact va_up_self _ _ _
  have hG_h0 := (hk h0 ne_h0_q1).trans hG_h0
  have hG_q4 := (hk q4 (Ne.symm ne_q1_q4)).trans hG_q4
  have hG_q7 := (hk q7 (Ne.symm ne_q1_q7)).trans hG_q7
  have hG_q10 := (hk q10 (Ne.symm ne_q1_q10)).trans hG_q10
  have hG_q13 := (hk q13 (Ne.symm ne_q1_q13)).trans hG_q13
  have hG_q16 := (hk q16 (Ne.symm ne_q1_q16)).trans hG_q16
  have hG_q19 := (hk q19 (Ne.symm ne_q1_q19)).trans hG_q19
  have hG_q22 := (hk q22 (Ne.symm ne_q1_q22)).trans hG_q22
  have hO : ∀ a, a ∈ L → a ≠ h0 → G30 a = G a := fun a ha hn => (hk a (h0_q1 a ha)).trans (hO a ha hn)
  refine lv_iinc (v := 1) (lv' := [(1, .int 1), (0, .ref h0)]) hx hb dX1_init_110 hl (k := 0) rfl (by decide) (by decide) rfl (fun ls hl => ?_)
  refine lv_goto (tgt := 95) hx hb dX1_init_113 (by decide) ?_
  refine lv_iload_n hx hb dX1_init_95 rfl (lv_at hl 0 rfl) ?_
  refine lv_bipush (v := 6) hx hb dX1_init_96 (by decide) ?_
  refine lv_icmp_ge (tgt := 116) hx hb dX1_init_98 (by decide) (fun c9 => absurd c9 (by decide)) (fun _ => ?_)
  refine lv_aload_n hx hb dX1_init_101 rfl (lv_at hl 1 rfl) ?_
  refine k_get (C := RX1) (T := TX1) (N := 13) (ci := 1) (v := .ref q1) hx hb hts (fun _ h => List.mem_cons_of_mem _ (List.mem_append_right _ h)) hown hC hP hm_h0 hG_h0 rfl 0 (by decide) (hts (.fieldLink RX1 9 "OrderedClauses$Store" "atomOfRank" "[I") (List.mem_of_getElem? (i := 5) rfl)) rfl dX1_init_102 ?_
  refine lv_iload_n hx hb dX1_init_105 rfl (lv_at hl 0 rfl) ?_
  refine lv_iload_n hx hb dX1_init_106 rfl (lv_at hl 0 rfl) ?_
  refine k_v hS (va_runSN (As := [.ref q1, .int 1, .int 1]) (rest := []) ⟨hx, hb, hml, hown, hts⟩ (c_X3_put l g ((((((((L ++ [q1]) ++ [q4]) ++ [q7]) ++ [q10]) ++ [q13]) ++ [q16]) ++ [q19]) ++ [q22]) hL G30 q1 (upd (fun _ => 0) ((0 : Int32).toNatClampNeg) 0) 6 hm_q1 hG_q1 1 1 (upd (upd (fun _ => 0) ((0 : Int32).toNatClampNeg) 0) ((1 : Int32).toNatClampNeg) 1) (put_in (vp_in_iff.mpr (by decide)) (by decide))) ⟨va_cnB 3 hts gX1_init_X3_put_n53 rfl rfl rfl (hC.2.1.2 (RX1, 53, yX3_put, RX3) (List.mem_of_getElem? (i := 1) rfl)) (hts (.initialized RX3) (List.mem_of_getElem? (i := 20) rfl)) (by decide +kernel) ⟨Nat.le_of_ble_eq_true rfl, Nat.le_of_ble_eq_true rfl⟩, (hts (.static yX3_put) (List.mem_of_getElem? (i := 19) rfl)), trivial⟩ (k_pre hC hS hP) rfl rfl hl.1 rfl (lv_room (Nat.le_of_ble_eq_true rfl)) dX1_init_107 ⟨Nat.le_of_ble_eq_true rfl, Nat.le_of_ble_eq_true rfl⟩) (fun G31 H locs hq hP hS => ?_)
  have hk : ∀ a, a ≠ q1 → G31 a = G30 a := fun a ha => by rw [hq]; exact va_up_ne _ _ ha
  have hG_q1 : G31 q1 = .inl (gI g, 6, .inl (upd (upd (fun _ => 0) ((0 : Int32).toNatClampNeg) 0) ((1 : Int32).toNatClampNeg) 1)) := by rw [hq]; exact va_up_self _ _ _
  have hG_h0 := (hk h0 ne_h0_q1).trans hG_h0
  have hG_q4 := (hk q4 (Ne.symm ne_q1_q4)).trans hG_q4
  have hG_q7 := (hk q7 (Ne.symm ne_q1_q7)).trans hG_q7
  have hG_q10 := (hk q10 (Ne.symm ne_q1_q10)).trans hG_q10
  have hG_q13 := (hk q13 (Ne.symm ne_q1_q13)).trans hG_q13
  have hG_q16 := (hk q16 (Ne.symm ne_q1_q16)).trans hG_q16
  have hG_q19 := (hk q19 (Ne.symm ne_q1_q19)).trans hG_q19
  have hG_q22 := (hk q22 (Ne.symm ne_q1_q22)).trans hG_q22
  have hO : ∀ a, a ∈ L → a ≠ h0 → G31 a = G a := fun a ha hn => (hk a (h0_q1 a ha)).trans (hO a ha hn)
  refine lv_iinc (v := 2) (lv' := [(1, .int 2), (0, .ref h0)]) hx hb dX1_init_110 hl (k := 0) rfl (by decide) (by decide) rfl (fun ls hl => ?_)
  refine lv_goto (tgt := 95) hx hb dX1_init_113 (by decide) ?_
  refine lv_iload_n hx hb dX1_init_95 rfl (lv_at hl 0 rfl) ?_
  refine lv_bipush (v := 6) hx hb dX1_init_96 (by decide) ?_
  refine lv_icmp_ge (tgt := 116) hx hb dX1_init_98 (by decide) (fun c9 => absurd c9 (by decide)) (fun _ => ?_)
  refine lv_aload_n hx hb dX1_init_101 rfl (lv_at hl 1 rfl) ?_
  refine k_get (C := RX1) (T := TX1) (N := 13) (ci := 1) (v := .ref q1) hx hb hts (fun _ h => List.mem_cons_of_mem _ (List.mem_append_right _ h)) hown hC hP hm_h0 hG_h0 rfl 0 (by decide) (hts (.fieldLink RX1 9 "OrderedClauses$Store" "atomOfRank" "[I") (List.mem_of_getElem? (i := 5) rfl)) rfl dX1_init_102 ?_
  refine lv_iload_n hx hb dX1_init_105 rfl (lv_at hl 0 rfl) ?_
  refine lv_iload_n hx hb dX1_init_106 rfl (lv_at hl 0 rfl) ?_
  refine k_v hS (va_runSN (As := [.ref q1, .int 2, .int 2]) (rest := []) ⟨hx, hb, hml, hown, hts⟩ (c_X3_put l g ((((((((L ++ [q1]) ++ [q4]) ++ [q7]) ++ [q10]) ++ [q13]) ++ [q16]) ++ [q19]) ++ [q22]) hL G31 q1 (upd (upd (fun _ => 0) ((0 : Int32).toNatClampNeg) 0) ((1 : Int32).toNatClampNeg) 1) 6 hm_q1 hG_q1 2 2 (upd (upd (upd (fun _ => 0) ((0 : Int32).toNatClampNeg) 0) ((1 : Int32).toNatClampNeg) 1) ((2 : Int32).toNatClampNeg) 2) (put_in (vp_in_iff.mpr (by decide)) (by decide))) ⟨va_cnB 3 hts gX1_init_X3_put_n53 rfl rfl rfl (hC.2.1.2 (RX1, 53, yX3_put, RX3) (List.mem_of_getElem? (i := 1) rfl)) (hts (.initialized RX3) (List.mem_of_getElem? (i := 20) rfl)) (by decide +kernel) ⟨Nat.le_of_ble_eq_true rfl, Nat.le_of_ble_eq_true rfl⟩, (hts (.static yX3_put) (List.mem_of_getElem? (i := 19) rfl)), trivial⟩ (k_pre hC hS hP) rfl rfl hl.1 rfl (lv_room (Nat.le_of_ble_eq_true rfl)) dX1_init_107 ⟨Nat.le_of_ble_eq_true rfl, Nat.le_of_ble_eq_true rfl⟩) (fun G32 H locs hq hP hS => ?_)
  have hk : ∀ a, a ≠ q1 → G32 a = G31 a := fun a ha => by rw [hq]; exact va_up_ne _ _ ha
  have hG_q1 : G32 q1 = .inl (gI g, 6, .inl (upd (upd (upd (fun _ => 0) ((0 : Int32).toNatClampNeg) 0) ((1 : Int32).toNatClampNeg) 1) ((2 : Int32).toNatClampNeg) 2)) := by rw [hq]; exact va_up_self _ _ _
  have hG_h0 := (hk h0 ne_h0_q1).trans hG_h0
  have hG_q4 := (hk q4 (Ne.symm ne_q1_q4)).trans hG_q4
  have hG_q7 := (hk q7 (Ne.symm ne_q1_q7)).trans hG_q7
  have hG_q10 := (hk q10 (Ne.symm ne_q1_q10)).trans hG_q10
  have hG_q13 := (hk q13 (Ne.symm ne_q1_q13)).trans hG_q13
  have hG_q16 := (hk q16 (Ne.symm ne_q1_q16)).trans hG_q16
  have hG_q19 := (hk q19 (Ne.symm ne_q1_q19)).trans hG_q19
  have hG_q22 := (hk q22 (Ne.symm ne_q1_q22)).trans hG_q22
  have hO : ∀ a, a ∈ L → a ≠ h0 → G32 a = G a := fun a ha hn => (hk a (h0_q1 a ha)).trans (hO a ha hn)
  refine lv_iinc (v := 3) (lv' := [(1, .int 3), (0, .ref h0)]) hx hb dX1_init_110 hl (k := 0) rfl (by decide) (by decide) rfl (fun ls hl => ?_)
  refine lv_goto (tgt := 95) hx hb dX1_init_113 (by decide) ?_
  refine lv_iload_n hx hb dX1_init_95 rfl (lv_at hl 0 rfl) ?_
  refine lv_bipush (v := 6) hx hb dX1_init_96 (by decide) ?_
  refine lv_icmp_ge (tgt := 116) hx hb dX1_init_98 (by decide) (fun c9 => absurd c9 (by decide)) (fun _ => ?_)
  refine lv_aload_n hx hb dX1_init_101 rfl (lv_at hl 1 rfl) ?_
  refine k_get (C := RX1) (T := TX1) (N := 13) (ci := 1) (v := .ref q1) hx hb hts (fun _ h => List.mem_cons_of_mem _ (List.mem_append_right _ h)) hown hC hP hm_h0 hG_h0 rfl 0 (by decide) (hts (.fieldLink RX1 9 "OrderedClauses$Store" "atomOfRank" "[I") (List.mem_of_getElem? (i := 5) rfl)) rfl dX1_init_102 ?_
  refine lv_iload_n hx hb dX1_init_105 rfl (lv_at hl 0 rfl) ?_
  refine lv_iload_n hx hb dX1_init_106 rfl (lv_at hl 0 rfl) ?_
  refine k_v hS (va_runSN (As := [.ref q1, .int 3, .int 3]) (rest := []) ⟨hx, hb, hml, hown, hts⟩ (c_X3_put l g ((((((((L ++ [q1]) ++ [q4]) ++ [q7]) ++ [q10]) ++ [q13]) ++ [q16]) ++ [q19]) ++ [q22]) hL G32 q1 (upd (upd (upd (fun _ => 0) ((0 : Int32).toNatClampNeg) 0) ((1 : Int32).toNatClampNeg) 1) ((2 : Int32).toNatClampNeg) 2) 6 hm_q1 hG_q1 3 3 (upd (upd (upd (upd (fun _ => 0) ((0 : Int32).toNatClampNeg) 0) ((1 : Int32).toNatClampNeg) 1) ((2 : Int32).toNatClampNeg) 2) ((3 : Int32).toNatClampNeg) 3) (put_in (vp_in_iff.mpr (by decide)) (by decide))) ⟨va_cnB 3 hts gX1_init_X3_put_n53 rfl rfl rfl (hC.2.1.2 (RX1, 53, yX3_put, RX3) (List.mem_of_getElem? (i := 1) rfl)) (hts (.initialized RX3) (List.mem_of_getElem? (i := 20) rfl)) (by decide +kernel) ⟨Nat.le_of_ble_eq_true rfl, Nat.le_of_ble_eq_true rfl⟩, (hts (.static yX3_put) (List.mem_of_getElem? (i := 19) rfl)), trivial⟩ (k_pre hC hS hP) rfl rfl hl.1 rfl (lv_room (Nat.le_of_ble_eq_true rfl)) dX1_init_107 ⟨Nat.le_of_ble_eq_true rfl, Nat.le_of_ble_eq_true rfl⟩) (fun G33 H locs hq hP hS => ?_)
  have hk : ∀ a, a ≠ q1 → G33 a = G32 a := fun a ha => by rw [hq]; exact va_up_ne _ _ ha
  have hG_q1 : G33 q1 = .inl (gI g, 6, .inl (upd (upd (upd (upd (fun _ => 0) ((0 : Int32).toNatClampNeg) 0) ((1 : Int32).toNatClampNeg) 1) ((2 : Int32).toNatClampNeg) 2) ((3 : Int32).toNatClampNeg) 3)) := by rw [hq]; exact va_up_self _ _ _
  have hG_h0 := (hk h0 ne_h0_q1).trans hG_h0
  have hG_q4 := (hk q4 (Ne.symm ne_q1_q4)).trans hG_q4
  have hG_q7 := (hk q7 (Ne.symm ne_q1_q7)).trans hG_q7
  have hG_q10 := (hk q10 (Ne.symm ne_q1_q10)).trans hG_q10
  have hG_q13 := (hk q13 (Ne.symm ne_q1_q13)).trans hG_q13
  have hG_q16 := (hk q16 (Ne.symm ne_q1_q16)).trans hG_q16
  have hG_q19 := (hk q19 (Ne.symm ne_q1_q19)).trans hG_q19
  have hG_q22 := (hk q22 (Ne.symm ne_q1_q22)).trans hG_q22
  have hO : ∀ a, a ∈ L → a ≠ h0 → G33 a = G a := fun a ha hn => (hk a (h0_q1 a ha)).trans (hO a ha hn)
  refine lv_iinc (v := 4) (lv' := [(1, .int 4), (0, .ref h0)]) hx hb dX1_init_110 hl (k := 0) rfl (by decide) (by decide) rfl (fun ls hl => ?_)
  refine lv_goto (tgt := 95) hx hb dX1_init_113 (by decide) ?_
  refine lv_iload_n hx hb dX1_init_95 rfl (lv_at hl 0 rfl) ?_
  refine lv_bipush (v := 6) hx hb dX1_init_96 (by decide) ?_
  refine lv_icmp_ge (tgt := 116) hx hb dX1_init_98 (by decide) (fun c9 => absurd c9 (by decide)) (fun _ => ?_)
  refine lv_aload_n hx hb dX1_init_101 rfl (lv_at hl 1 rfl) ?_
  refine k_get (C := RX1) (T := TX1) (N := 13) (ci := 1) (v := .ref q1) hx hb hts (fun _ h => List.mem_cons_of_mem _ (List.mem_append_right _ h)) hown hC hP hm_h0 hG_h0 rfl 0 (by decide) (hts (.fieldLink RX1 9 "OrderedClauses$Store" "atomOfRank" "[I") (List.mem_of_getElem? (i := 5) rfl)) rfl dX1_init_102 ?_
  refine lv_iload_n hx hb dX1_init_105 rfl (lv_at hl 0 rfl) ?_
  refine lv_iload_n hx hb dX1_init_106 rfl (lv_at hl 0 rfl) ?_
  refine k_v hS (va_runSN (As := [.ref q1, .int 4, .int 4]) (rest := []) ⟨hx, hb, hml, hown, hts⟩ (c_X3_put l g ((((((((L ++ [q1]) ++ [q4]) ++ [q7]) ++ [q10]) ++ [q13]) ++ [q16]) ++ [q19]) ++ [q22]) hL G33 q1 (upd (upd (upd (upd (fun _ => 0) ((0 : Int32).toNatClampNeg) 0) ((1 : Int32).toNatClampNeg) 1) ((2 : Int32).toNatClampNeg) 2) ((3 : Int32).toNatClampNeg) 3) 6 hm_q1 hG_q1 4 4 (upd (upd (upd (upd (upd (fun _ => 0) ((0 : Int32).toNatClampNeg) 0) ((1 : Int32).toNatClampNeg) 1) ((2 : Int32).toNatClampNeg) 2) ((3 : Int32).toNatClampNeg) 3) ((4 : Int32).toNatClampNeg) 4) (put_in (vp_in_iff.mpr (by decide)) (by decide))) ⟨va_cnB 3 hts gX1_init_X3_put_n53 rfl rfl rfl (hC.2.1.2 (RX1, 53, yX3_put, RX3) (List.mem_of_getElem? (i := 1) rfl)) (hts (.initialized RX3) (List.mem_of_getElem? (i := 20) rfl)) (by decide +kernel) ⟨Nat.le_of_ble_eq_true rfl, Nat.le_of_ble_eq_true rfl⟩, (hts (.static yX3_put) (List.mem_of_getElem? (i := 19) rfl)), trivial⟩ (k_pre hC hS hP) rfl rfl hl.1 rfl (lv_room (Nat.le_of_ble_eq_true rfl)) dX1_init_107 ⟨Nat.le_of_ble_eq_true rfl, Nat.le_of_ble_eq_true rfl⟩) (fun G34 H locs hq hP hS => ?_)
  have hk : ∀ a, a ≠ q1 → G34 a = G33 a := fun a ha => by rw [hq]; exact va_up_ne _ _ ha
  have hG_q1 : G34 q1 = .inl (gI g, 6, .inl (upd (upd (upd (upd (upd (fun _ => 0) ((0 : Int32).toNatClampNeg) 0) ((1 : Int32).toNatClampNeg) 1) ((2 : Int32).toNatClampNeg) 2) ((3 : Int32).toNatClampNeg) 3) ((4 : Int32).toNatClampNeg) 4)) := by rw [hq]; exact va_up_self _ _ _
  have hG_h0 := (hk h0 ne_h0_q1).trans hG_h0
  have hG_q4 := (hk q4 (Ne.symm ne_q1_q4)).trans hG_q4
  have hG_q7 := (hk q7 (Ne.symm ne_q1_q7)).trans hG_q7
  have hG_q10 := (hk q10 (Ne.symm ne_q1_q10)).trans hG_q10
  have hG_q13 := (hk q13 (Ne.symm ne_q1_q13)).trans hG_q13
  have hG_q16 := (hk q16 (Ne.symm ne_q1_q16)).trans hG_q16
  have hG_q19 := (hk q19 (Ne.symm ne_q1_q19)).trans hG_q19
  have hG_q22 := (hk q22 (Ne.symm ne_q1_q22)).trans hG_q22
  have hO : ∀ a, a ∈ L → a ≠ h0 → G34 a = G a := fun a ha hn => (hk a (h0_q1 a ha)).trans (hO a ha hn)
  refine lv_iinc (v := 5) (lv' := [(1, .int 5), (0, .ref h0)]) hx hb dX1_init_110 hl (k := 0) rfl (by decide) (by decide) rfl (fun ls hl => ?_)
  refine lv_goto (tgt := 95) hx hb dX1_init_113 (by decide) ?_
  refine lv_iload_n hx hb dX1_init_95 rfl (lv_at hl 0 rfl) ?_
  refine lv_bipush (v := 6) hx hb dX1_init_96 (by decide) ?_
  refine lv_icmp_ge (tgt := 116) hx hb dX1_init_98 (by decide) (fun c9 => absurd c9 (by decide)) (fun _ => ?_)
  refine lv_aload_n hx hb dX1_init_101 rfl (lv_at hl 1 rfl) ?_
  refine k_get (C := RX1) (T := TX1) (N := 13) (ci := 1) (v := .ref q1) hx hb hts (fun _ h => List.mem_cons_of_mem _ (List.mem_append_right _ h)) hown hC hP hm_h0 hG_h0 rfl 0 (by decide) (hts (.fieldLink RX1 9 "OrderedClauses$Store" "atomOfRank" "[I") (List.mem_of_getElem? (i := 5) rfl)) rfl dX1_init_102 ?_
  refine lv_iload_n hx hb dX1_init_105 rfl (lv_at hl 0 rfl) ?_
  refine lv_iload_n hx hb dX1_init_106 rfl (lv_at hl 0 rfl) ?_
  refine k_v hS (va_runSN (As := [.ref q1, .int 5, .int 5]) (rest := []) ⟨hx, hb, hml, hown, hts⟩ (c_X3_put l g ((((((((L ++ [q1]) ++ [q4]) ++ [q7]) ++ [q10]) ++ [q13]) ++ [q16]) ++ [q19]) ++ [q22]) hL G34 q1 (upd (upd (upd (upd (upd (fun _ => 0) ((0 : Int32).toNatClampNeg) 0) ((1 : Int32).toNatClampNeg) 1) ((2 : Int32).toNatClampNeg) 2) ((3 : Int32).toNatClampNeg) 3) ((4 : Int32).toNatClampNeg) 4) 6 hm_q1 hG_q1 5 5 (upd (upd (upd (upd (upd (upd (fun _ => 0) ((0 : Int32).toNatClampNeg) 0) ((1 : Int32).toNatClampNeg) 1) ((2 : Int32).toNatClampNeg) 2) ((3 : Int32).toNatClampNeg) 3) ((4 : Int32).toNatClampNeg) 4) ((5 : Int32).toNatClampNeg) 5) (put_in (vp_in_iff.mpr (by decide)) (by decide))) ⟨va_cnB 3 hts gX1_init_X3_put_n53 rfl rfl rfl (hC.2.1.2 (RX1, 53, yX3_put, RX3) (List.mem_of_getElem? (i := 1) rfl)) (hts (.initialized RX3) (List.mem_of_getElem? (i := 20) rfl)) (by decide +kernel) ⟨Nat.le_of_ble_eq_true rfl, Nat.le_of_ble_eq_true rfl⟩, (hts (.static yX3_put) (List.mem_of_getElem? (i := 19) rfl)), trivial⟩ (k_pre hC hS hP) rfl rfl hl.1 rfl (lv_room (Nat.le_of_ble_eq_true rfl)) dX1_init_107 ⟨Nat.le_of_ble_eq_true rfl, Nat.le_of_ble_eq_true rfl⟩) (fun G35 H locs hq hP hS => ?_)
  have hk : ∀ a, a ≠ q1 → G35 a = G34 a := fun a ha => by rw [hq]; exact va_up_ne _ _ ha
  have hG_q1 : G35 q1 = .inl (gI g, 6, .inl (upd (upd (upd (upd (upd (upd (fun _ => 0) ((0 : Int32).toNatClampNeg) 0) ((1 : Int32).toNatClampNeg) 1) ((2 : Int32).toNatClampNeg) 2) ((3 : Int32).toNatClampNeg) 3) ((4 : Int32).toNatClampNeg) 4) ((5 : Int32).toNatClampNeg) 5)) := by rw [hq]; exact va_up_self _ _ _
  have hG_h0 := (hk h0 ne_h0_q1).trans hG_h0
  have hG_q4 := (hk q4 (Ne.symm ne_q1_q4)).trans hG_q4
  have hG_q7 := (hk q7 (Ne.symm ne_q1_q7)).trans hG_q7
  have hG_q10 := (hk q10 (Ne.symm ne_q1_q10)).trans hG_q10
  have hG_q13 := (hk q13 (Ne.symm ne_q1_q13)).trans hG_q13
  have hG_q16 := (hk q16 (Ne.symm ne_q1_q16)).trans hG_q16
  have hG_q19 := (hk q19 (Ne.symm ne_q1_q19)).trans hG_q19
  have hG_q22 := (hk q22 (Ne.symm ne_q1_q22)).trans hG_q22
  have hO : ∀ a, a ∈ L → a ≠ h0 → G35 a = G a := fun a ha hn => (hk a (h0_q1 a ha)).trans (hO a ha hn)
  refine lv_iinc (v := 6) (lv' := [(1, .int 6), (0, .ref h0)]) hx hb dX1_init_110 hl (k := 0) rfl (by decide) (by decide) rfl (fun ls hl => ?_)
  refine lv_goto (tgt := 95) hx hb dX1_init_113 (by decide) ?_
  refine lv_iload_n hx hb dX1_init_95 rfl (lv_at hl 0 rfl) ?_
  refine lv_bipush (v := 6) hx hb dX1_init_96 (by decide) ?_
  refine lv_icmp_ge (tgt := 116) hx hb dX1_init_98 (by decide) (fun _ => ?_) (fun c9 => absurd c9 (by decide))
  have hL : kL (L ++ [q1, q4, q7, q10, q13, q16, q19, q22]) A := by simpa only [List.append_assoc, List.cons_append, List.nil_append] using hL
  have hP : va_P g.1 vwCl (va_pl (L ++ [q1, q4, q7, q10, q13, q16, q19, q22]) G35) H := by simpa only [List.append_assoc, List.cons_append, List.nil_append] using hP
  have hsub : ∀ a, a ∈ L → a ∈ L ++ [q1, q4, q7, q10, q13, q16, q19, q22] := fun a ha => List.mem_append_left _ ha
  have hv : vS g (L ++ [q1, q4, q7, q10, q13, q16, q19, q22]) G35 h0 (rOf [q1, q4, q7, q10, q13, q16, q19, q22]) stI := by
    refine ⟨hsub h0 hm0, hG_h0, fun j hj => by rcases (show j = 0 ∨ j = 1 ∨ j = 2 ∨ j = 3 ∨ j = 4 ∨ j = 5 ∨ j = 6 ∨ j = 7 by omega) with rfl | rfl | rfl | rfl | rfl | rfl | rfl | rfl <;> first | exact ⟨List.mem_append_right _ (List.mem_of_getElem? (i := 0) rfl), Ne.symm ne_h0_q1⟩ | exact ⟨List.mem_append_right _ (List.mem_of_getElem? (i := 1) rfl), Ne.symm ne_h0_q4⟩ | exact ⟨List.mem_append_right _ (List.mem_of_getElem? (i := 2) rfl), Ne.symm ne_h0_q7⟩ | exact ⟨List.mem_append_right _ (List.mem_of_getElem? (i := 3) rfl), Ne.symm ne_h0_q10⟩ | exact ⟨List.mem_append_right _ (List.mem_of_getElem? (i := 4) rfl), Ne.symm ne_h0_q13⟩ | exact ⟨List.mem_append_right _ (List.mem_of_getElem? (i := 5) rfl), Ne.symm ne_h0_q16⟩ | exact ⟨List.mem_append_right _ (List.mem_of_getElem? (i := 6) rfl), Ne.symm ne_h0_q19⟩ | exact ⟨List.mem_append_right _ (List.mem_of_getElem? (i := 7) rfl), Ne.symm ne_h0_q22⟩, rOf_inj (n_tail hL), fun j hj => by rcases (show j = 0 ∨ j = 1 ∨ j = 2 ∨ j = 3 ∨ j = 4 ∨ j = 5 ∨ j = 6 by omega) with rfl | rfl | rfl | rfl | rfl | rfl | rfl <;> first | exact hG_q1 | exact hG_q4 | exact hG_q7 | exact hG_q10 | exact hG_q13 | exact hG_q16 | exact hG_q19, fun j h1 hj => by rcases (show j = 7 by omega) with rfl; exact hG_q22⟩
  refine W.widen (k := 8) (n := 286) (Nat.le_of_ble_eq_true rfl) (Nat.le_of_ble_eq_true rfl) ?_
  exact W.vret hx hb hr (fun t ht _ => ⟨⟨(L ++ [q1, q4, q7, q10, q13, q16, q19, q22], G35), rfl, ⟨[q1, q4, q7, q10, q13, q16, q19, q22], rfl, rfl, hL, hv, hO⟩, by show va_P _ _ _ t.heap; rw [ht]; exact hP⟩, hS.F ht⟩) hS.2.2 dX1_init_116 hlk
def newT (g : Gm) (A : Nat → Prop) (L : List Nat) (G : Nat → va_E) (h0 : Nat) (q : List Nat × (Nat → va_E)) : Prop := ∃ qs : List Nat, qs.length = 1 ∧ q.1 = L ++ qs ∧ kL (L ++ qs) A ∧ vT g (L ++ qs) q.2 h0 (rOf qs) txI ∧ ∀ a, a ∈ L → a ≠ h0 → q.2 a = G a
set_option maxHeartbeats 4000000 in
set_option maxRecDepth 100000 in
theorem c_X2_init (l : Launch) (g : Gm) (L : List Nat) {A : Nat → Prop} (hL : kL L A) (G : Nat → va_E) (h0 : Nat) (hm0 : h0 ∈ L) (hG0 : G h0 = .inr (2, [.null, .int 0])) : Met l yX2_init wsX2_init ({ frames := 1, cells := 1, slots := 60, locals := 20 } : Room) (va_Pc [.ref h0] (kBO g L A G)) (va_Qv (newT g A L G h0) (fun q t => va_P g.1 vwCl (va_pl q.1 q.2) t.heap) A) 1 60 A := by
  refine Met.ofW (cc := cX2_init) (maxL := 1) (ret := none) (by decide) rfl ?_
  intro p e s m args below meth c s₁ B hml hv
  obtain ⟨rfl, ⟨hP, hC⟩, hO9⟩ := hv
  have hx := B.exec
  have hb := B.bytes
  have hr := B.returns
  have hts := atoms_spec (ws := wsX2_init) B.pre
  have hown : s.vm.findClass RX2 = some m.cls := findClass_of_methodNamed B.named
  have hlk := B.notSynchronized
  have hin0 : meth.name = "<init>" := (name_of_methodNamed B.named B.method).1
  have hS : va_S A s.heap s.heap [] := va_S.rf
  have hm_h0 := hm0
  have hG_h0 := hG0
  have hsub : ∀ a, a ∈ L → a ∈ L := fun a ha => ha
  have hO : ∀ a, a ∈ L → a ≠ h0 → G a = G a := fun _ _ _ => rfl
  have hl := lv_entry ([.ref h0]) (n := 1) (Nat.le_of_ble_eq_true rfl)
  rw [lg_entry_eq]
  generalize (lg_sl ([.ref h0]) ++ List.replicate (1 - (lg_sl ([.ref h0])).length) Slot.unset).toArray = ls at hl ⊢
  have hl : lv_has ls 1 [(0, .ref h0)] := hl
  refine lv_aload_n hx hb dX2_init_0 rfl (lv_at hl 0 rfl) ?_
  refine W.objInit hx hb hown (hts (.methodLink RX2 3 objectInit) (List.mem_of_getElem? (i := 1) rfl)) (hts (.instanceMethod objectInit) (List.mem_of_getElem? (i := 2) rfl)) (hts (.code objectInit ⟨#[0xb1]⟩ 1 none) (List.mem_of_getElem? (i := 3) rfl)) rfl (by rw [hml]; exact hl.1) rfl dX2_init_1 (Nat.le_of_ble_eq_true rfl) (Nat.le_of_ble_eq_true rfl) ?_
  refine W.eq (g2 := F0 m 4 ls []) rfl ?_
  refine lv_aload_n hx hb dX2_init_4 rfl (lv_at hl 0 rfl) ?_
  refine lv_bipush (v := 60) hx hb dX2_init_5 (by decide) ?_
  refine n_arrI (N := 60) hx hb (hts (.arrayClass .int) (List.mem_of_getElem? (i := 4) rfl)) hL hC hO9 hP hS (by decide) (by decide) (Nat.le_of_ble_eq_true rfl) (Nat.le_of_ble_eq_true rfl) (Nat.le_of_ble_eq_true rfl) dX2_init_7 (fun q1 G2 H hq hL hG_q1 hk hP hS => ?_)
  have ne_h0_q1 : h0 ≠ q1 := n_ne hq hm_h0
  have hG_h0 := (hk h0 hm_h0).trans hG_h0
  have hO : ∀ a, a ∈ L → a ≠ h0 → G2 a = G a := fun a ha hn => (hk a (hsub a ha)).trans (hO a ha hn)
  have h0_q1 : ∀ a, a ∈ L → a ≠ q1 := fun a ha => n_ne hq (hsub a ha)
  have hm_h0 := n_left q1 hm_h0
  have hm_q1 : q1 ∈ (L ++ [q1]) := n_last _ _
  have hsub : ∀ a, a ∈ L → a ∈ (L ++ [q1]) := fun a ha => n_left q1 (hsub a ha)
  refine W.widen (k := 1) (n := 60) (Nat.le_of_ble_eq_true rfl) (Nat.le_of_ble_eq_true rfl) ?_
  refine n_putF (C := RX2) (T := TX2) (N := 2) (ci := 2) hx hb hts (fun _ h => List.mem_cons_of_mem _ (List.mem_append_right _ h)) tyX2 tyX2_ok nmX2 hown hL hC hP hS hm_h0 hG_h0 rfl 0 (by decide) (hts (.fieldLink RX2 9 "OrderedClauses$Text" "characters" "[I") (List.mem_of_getElem? (i := 5) rfl)) (by decide +kernel) hin0 rfl (ty := tyX2 0) (tyX2_ok 0 (by decide)) rfl rfl (Nat.le_of_ble_eq_true rfl) dX2_init_9 (fun G3 H locs hq hk hP hS => ?_)
  have hG_h0 : G3 h0 = .inr (2, [.ref q1, .int 0]) := hq
  have hG_q1 := (hk q1 (Ne.symm ne_h0_q1)).trans hG_q1
  have hO : ∀ a, a ∈ L → a ≠ h0 → G3 a = G a := fun a ha hn => (hk a hn).trans (hO a ha hn)
  refine lv_aload_n hx hb dX2_init_12 rfl (lv_at hl 0 rfl) ?_
  refine lv_iconst (v := 0) hx hb dX2_init_13 (by decide) ?_
  refine k_putE (C := RX2) (T := TX2) (N := 2) (ci := 2) hx hb hts (fun _ h => List.mem_cons_of_mem _ (List.mem_append_right _ h)) tyX2 tyX2_ok nmX2 hown hL hC hP hS hm_h0 hG_h0 rfl 1 (by decide) (hts (.fieldLink RX2 15 "OrderedClauses$Text" "length" "I") (List.mem_of_getElem? (i := 6) rfl)) (by decide +kernel) (by decide +kernel) (Nat.le_of_ble_eq_true rfl) dX2_init_14 (fun G4 H locs hq hP hS => ?_)
  have hk : ∀ a, a ≠ h0 → G4 a = G3 a := fun a ha => by rw [hq]; exact va_up_ne _ _ ha
  have hq : G4 h0 = .inr (2, [.ref q1, .int 0]) := by rw [hq]; exact va_up_self _ _ _
  have hG_h0 : G4 h0 = .inr (2, [.ref q1, .int 0]) := hq
  have hG_q1 := (hk q1 (Ne.symm ne_h0_q1)).trans hG_q1
  have hO : ∀ a, a ∈ L → a ≠ h0 → G4 a = G a := fun a ha hn => (hk a hn).trans (hO a ha hn)
  have hL : kL (L ++ [q1]) A := by simpa only [List.append_assoc, List.cons_append, List.nil_append] using hL
  have hP : va_P g.1 vwCl (va_pl (L ++ [q1]) G4) H := by simpa only [List.append_assoc, List.cons_append, List.nil_append] using hP
  have hsub : ∀ a, a ∈ L → a ∈ L ++ [q1] := fun a ha => List.mem_append_left _ ha
  have hv : vT g (L ++ [q1]) G4 h0 (rOf [q1]) txI := by
    refine ⟨hsub h0 hm0, hG_h0, fun j hj => by rcases (show j = 0 by omega) with rfl <;> first | exact ⟨List.mem_append_right _ (List.mem_of_getElem? (i := 0) rfl), Ne.symm ne_h0_q1⟩, rOf_inj (n_tail hL), fun j hj => by rcases (show j = 0 by omega) with rfl <;> first | exact hG_q1, fun j h1 hj => absurd hj (by omega)⟩
  refine W.widen (k := 1) (n := 60) (Nat.le_of_ble_eq_true rfl) (Nat.le_of_ble_eq_true rfl) ?_
  exact W.vret hx hb hr (fun t ht _ => ⟨⟨(L ++ [q1], G4), rfl, ⟨[q1], rfl, rfl, hL, hv, hO⟩, by show va_P _ _ _ t.heap; rw [ht]; exact hP⟩, hS.F ht⟩) hS.2.2 dX2_init_17 hlk
