/-! THE CLAIM OUT OF ONE WALK OF THE LAW'S BODY. Your part is whole_start (and what it stands on); all else here is the same for every law, but numbers. -/
def R_law : String := "OrderedClausesLaw"
def lw_P (b : Addr) (xs : List Int32) (args : Array Value) (s : State) : Prop := args = #[.ref b] ∧ s.IntsAt b xs ∧ xs.length ≤ 1536 ∧ (Jvm.Cond.and given_1 narrow_1).before args s = true
/-- what a walk over the start with the record d0 says of its end, said of the start itself -/
theorem lw_closed {s t : State} {o : Outcome} {d0 : Drawn} {L : List Loc} {k n : Nat} (hd0 : s.drawn.sameBut d0 lw_cs) (hv : ∃ v, o = .returned v) (hW : (s.setDrawn d0).WarmedH t.vm) (hs : (s.setDrawn d0).sameButNew ({ t with vm := s.vm } : State) L k n) : State.butDraws s t lw_cs (fun t1 => Framed s o t1 L k n) := by
  have h2 : t.drawn = d0 := congrArg State.drawn hs.1
  refine ⟨⟨hv, hW, State.sameButNew.setDrawn hs s.drawn⟩, ?_, by decide⟩
  rw [h2]
  exact hd0
def lw_Q (_ : Array Value) (s : State) (o : Outcome) (t : State) : Prop := o = .returned (some (.int 1)) ∧ State.butDraws s t lw_cs (fun t1 => Framed s o t1 [] 600000 7302250)
def lw_Z (below : List Frame) (a : Array Value) (s : State) : State → Prop := fun t => ∃ o, t.status = .running ∧ Ended t below o ∧ lw_Q a s o t
/-- the law's own end, with 1 on the stack, nothing written that was there before, its room as the claim has it; d0: the record of draws at this point (at the entry s.drawn: begin with 'refine W.base ?_' and 'have hd0 := Drawn.sameBut.refl s.drawn lw_cs') -/
theorem lw_ret {p : Program} {l : Launch} {e : Env} {s : State} {m : MethodId} {below : List Frame} {meth : Method} {c : Code} {b : Nat} {d0 : Drawn} (hd0 : s.drawn.sameBut d0 lw_cs) (hx : p.tables.exec = Jvm.exec) (hb : c.code = code) (hr : meth.sig.returnType = ret) (hlocks : meth.locks = false) {pc : Nat} {H : Heap} {ls : Array Slot} (hdg : decode code pc = .ok (.ireturn, 1)) : W p l e room_1 (s.setDrawn d0) m #[Value.ref b] below meth c H [] 600000 7302250 (lw_Z below #[Value.ref b] s) (F0 m pc ls [.int 1]) := by
  intro T hT X
  obtain ⟨fs, hret, hrun, hended, hW, hframe⟩ := X.leave (v := some (.int 1)) (hlocks := hlocks) (fun h => by rw [hr] at h; cases h)
  have hmeth' : T.vm.method? m = some meth := X.method'
  refine ⟨T.setFrames fs, ?_, .returned (some (.int 1)), hrun, hended, rfl, lw_closed hd0 ⟨_, rfl⟩ hW hframe⟩
  jvm_step X.here [X.here.top, hx, hb, hdg, hmeth', hr, ret, narrow_b1]
  (try refine ⟨rfl, ?_⟩); (try refine ⟨rfl, ?_⟩)
  first | (intro acts; rw [hret _ acts rfl rfl rfl]) | rw [hret _ _ rfl rfl rfl]
  exact Steps.refl _
/-- what holds at the law's entry: the machine, the code, the tables' words (any of lw_tbl by 'hts w (by decide +kernel)'), the script of L ints xs at the cell b, what the Statement gives of the start (any of its parts by flat_of_before) -/
def lw_At (p : Program) (s : State) (m : MethodId) (meth : Method) (c : Code) (b L : Nat) (xs : Nat → Int32) : Prop :=
  p.tables.exec = Jvm.exec ∧ c.code = code ∧ meth.sig.returnType = ret ∧ c.maxLocals = 4 ∧ s.vm.findClass R_law = some m.cls ∧ (∀ w ∈ lw_tbl, w.before #[Value.ref b] s = true) ∧ va_X b L xs s s.heap ∧ b < s.heap.size ∧ meth.locks = false ∧ (Jvm.Cond.and given_1 narrow_1).before #[Value.ref b] s = true
/-! The law: two pools, one loop -/
theorem Cx.nar {g : Gm} {A B : Nat → Prop} {U : State} {H : Heap} (h : Cx g A U H) (hAB : ∀ q, B q → A q) : Cx g B U H := ⟨h.1, h.2.1, va_Z.narrow h.2.2.1 hAB, va_T.narrow h.2.2.2 hAB⟩
theorem k2_pre {g : Gm} {L : List Nat} {A0 : Nat → Prop} {G : Nat → va_E} {b : Nat} {As : List Value} {s : State} {H : Heap} {locs : List Loc} {ci : Nat} {fs : List Value} {C : String} {T : u_T} {N : Nat} (hC : Cx g A0 s s.heap) (hsub : ∀ q, q ∈ L → A0 q) (hS : va_S A0 s.heap H locs) (hP : va_P g.1 vwCl (va_pl L G) H) (hb : b ∈ L) (hG : G b = .inr (ci, fs)) (hc : vwCl[ci]? = some (C, T, N)) : PreV s H C b (va_Pc (.ref b :: As) (kB g L (fun q => q ∈ L) G)) As := by
  obtain ⟨k, hk⟩ := k_plget hb hG
  exact ⟨k_blind, va_recv hC.1 hP (q0 := k) hc hk, fun U hU hW => ⟨rfl, by rw [hU]; exact hP, (hC.go hS hU hW).nar hsub⟩⟩
section KL
variable {p : Program} {l : Launch} {e : Env} {R : Room} {s : State} {m : MethodId} {args : Array Value} {below : List Frame} {meth : Method} {c : Code} {H : Heap} {locs : List Loc} {cells slots : Nat} {Q : State → Prop} {cc : ByteArray} {pc : Nat} {ls : Array Slot} {rest st0 : List Value} {a : Array Value} {g : Gm} {L L2 : List Nat} {A0 : Nat → Prop} {G G2 : Nat → va_E}
theorem k2_keep {H1 : Heap} (hP2 : va_P g.1 vwCl (va_pl L2 G2) H) (hdis : ∀ q, q ∈ L2 → q ∉ L) (hk : ∀ q : Nat, q < H.size → ¬ (q ∈ L) → H1[q]? = H[q]?) : va_P g.1 vwCl (va_pl L2 G2) H1 := by
  refine va_P.kept hP2 (fun k q hq => ?_)
  have hm : q.1 ∈ L2 := by
    have h := hq
    simp only [va_pl, List.getElem?_map] at h
    cases hb : L2[k]? with
    | none => rw [hb] at h; cases h
    | some b => rw [hb] at h; cases h; exact List.mem_of_getElem? hb
  exact hk _ (hP2 k q hq).lt (hdis _ hm)
theorem k2_i {rv : Int32} {P : (Nat → va_E) → Prop} (hS : va_S A0 s.heap H locs) (hsub : ∀ q, q ∈ L → A0 q) (hdis : ∀ q, q ∈ L2 → q ∉ L) (hP2 : va_P g.1 vwCl (va_pl L2 G2) H) (hr : va_Run p l e R s m args below meth c H locs cells slots 0 0 (F0 m pc ls st0) rest (va_Qi (fun x (G1 : Nat → va_E) => x = rv ∧ P G1) (kE g L) (fun q => q ∈ L) a) (fun q => q ∈ L)) (kk : ∀ (G1 : Nat → va_E) (H1 : Heap) (locs1 : List Loc), P G1 → va_P g.1 vwCl (va_pl L G1) H1 → va_P g.1 vwCl (va_pl L2 G2) H1 → va_S A0 s.heap H1 locs1 → W p l e R s m args below meth c H1 locs1 cells slots Q (F0 m (pc + 3) ls (.int rv :: rest))) : W p l e R s m args below meth c H locs cells slots Q (F0 m pc ls st0) :=
  va_calli hr hS (fun q _ h => hsub q h) (fun q h => hsub q h) (fun r u t H1 locs1 ht _ hp hb _ hk hS1 => by
    obtain ⟨rfl, hp⟩ := hp
    exact kk u H1 locs1 hp (ht ▸ hb) (k2_keep hP2 hdis hk) hS1)
theorem k2_l {rv : Int64} {P : (Nat → va_E) → Prop} (hS : va_S A0 s.heap H locs) (hsub : ∀ q, q ∈ L → A0 q) (hdis : ∀ q, q ∈ L2 → q ∉ L) (hP2 : va_P g.1 vwCl (va_pl L2 G2) H) (hr : va_Run p l e R s m args below meth c H locs cells slots 0 0 (F0 m pc ls st0) rest (va_Ql (fun x (G1 : Nat → va_E) => x = rv ∧ P G1) (kE g L) (fun q => q ∈ L) a) (fun q => q ∈ L)) (kk : ∀ (G1 : Nat → va_E) (H1 : Heap) (locs1 : List Loc), P G1 → va_P g.1 vwCl (va_pl L G1) H1 → va_P g.1 vwCl (va_pl L2 G2) H1 → va_S A0 s.heap H1 locs1 → W p l e R s m args below meth c H1 locs1 cells slots Q (F0 m (pc + 3) ls (.long rv :: rest))) : W p l e R s m args below meth c H locs cells slots Q (F0 m pc ls st0) :=
  va_calll hr hS (fun q _ h => hsub q h) (fun q h => hsub q h) (fun r u t H1 locs1 ht _ hp hb _ hk hS1 => by
    obtain ⟨rfl, hp⟩ := hp
    exact kk u H1 locs1 hp (ht ▸ hb) (k2_keep hP2 hdis hk) hS1)
end KL
theorem lg_self (v : Int64) : lg_cmp v v = 0 := by simp [lg_cmp]
theorem vX.congr {g : Gm} {L : List Nat} {G G1 : Nat → va_E} {ad : Nat → Nat} {x : XS} (h : vX g L G ad x) (hq : ∀ q, q ∈ L → G1 q = G q) : vX g L G1 ad x := by
  obtain ⟨h1, h2, h3, h4, h5, h6, h7, h8⟩ := h
  exact ⟨h1, h2, by rw [hq _ (h2 0 (by omega))]; exact h3, by rw [hq _ (h2 1 (by omega))]; exact h4, by rw [hq _ (h2 2 (by omega))]; exact h5, vO.keep h6 (by decide) (fun q hh => hq q (vO.ownL h6 q hh)), fun p hp => vO.keep (h7 p hp) (by decide) (fun q hh => hq q (vO.ownL (h7 p hp) q hh)), vO.keep h8 (by decide) (fun q hh => hq q (vO.ownL h8 q hh))⟩
theorem vO.pool {g : Gm} {L L2 : List Nat} {G : Nat → va_E} {a : Nat} {r : Nat → Nat} {ci nI n : Nat} {len : Nat → Nat} {fs : (Nat → Nat) → (Nat → Int32) → List Value} {u : St} (h : vO g L G a r ci nI n len fs u) (h2 : ∀ q, ownS a r n q → q ∈ L2) : vO g L2 G a r ci nI n len fs u := by
  obtain ⟨h1, h3, h4, h5, h6, h7⟩ := h
  exact ⟨h2 _ (Or.inl rfl), h3, fun j hj => ⟨h2 _ (Or.inr ⟨j, hj, rfl⟩), (h4 j hj).2⟩, h5, h6, h7⟩
theorem pl_l {D : va_G} {L1 L2 : List Nat} {G : Nat → va_E} {H : Heap} (h : va_P D vwCl (va_pl (L1 ++ L2) G) H) : va_P D vwCl (va_pl L1 G) H := fun k q hq => by
  refine h k q ?_
  have hl : k < (va_pl L1 G).length := (List.getElem?_eq_some_iff.mp hq).1
  unfold va_pl at hq hl ⊢
  rw [List.map_append, List.getElem?_append_left hl]
  exact hq
theorem pl_r {D : va_G} {L1 L2 : List Nat} {G : Nat → va_E} {H : Heap} (h : va_P D vwCl (va_pl (L1 ++ L2) G) H) : va_P D vwCl (va_pl L2 G) H := fun k q hq => by
  refine h (L1.length + k) q ?_
  unfold va_pl at hq ⊢
  rw [List.map_append, List.getElem?_append_right (by simp), List.length_map, Nat.add_sub_cancel_left]
  exact hq
theorem i_room {L : Nat} {i : Nat} (hL : L ≤ 1536) (hi : i ≤ 1600) (h : ¬ (Int32.ofNat L - 3) < nI i) : i + 3 ≤ L := by
  have h1 : ¬ (Int32.ofNat L - 3).toInt < (nI i).toInt := fun q => h (Int32.lt_iff_toInt_lt.mpr q)
  rw [nI_toInt (by omega), show Int32.ofNat L - 3 = nI L - nI 3 from rfl, pk_sub_toInt (by omega) (by omega)] at h1
  omega

/-- class and reference answer alike and go on alike, call by call -/
def Sims (Rel : XS → St → Prop) : Prop := (∀ x y, Rel x y → (∀ p0 : Int32, ∃ v x1 y1, F_X3_tell x p0 = some (v, x1) ∧ F_X4_tell y p0 = some (v, y1) ∧ Rel x1 y1)) ∧
  (∀ x y, Rel x y → (∀ p0 p1 : Int32, ∃ v x1 y1, F_X3_rank x p0 p1 = some (v, x1) ∧ F_X4_rank y p0 p1 = some (v, y1) ∧ Rel x1 y1)) ∧
  (∀ x y, Rel x y → (∀ p0 : Int32, ∃ v x1 y1, F_X3_set x p0 = some (v, x1) ∧ F_X4_set y p0 = some (v, y1) ∧ Rel x1 y1)) ∧
  (∀ x y, Rel x y → (∃ v x1 y1, F_X3_step x  = some (v, x1) ∧ F_X4_step y  = some (v, y1) ∧ Rel x1 y1)) ∧
  (∀ x y, Rel x y → (∀ p0 : Int32, ∃ v x1 y1, F_X3_run x p0 = some (v, x1) ∧ F_X4_run y p0 = some (v, y1) ∧ Rel x1 y1)) ∧
  (∀ x y, Rel x y → (∃ v x1 y1, F_X3_empty x  = some (v, x1) ∧ F_X4_empty y  = some (v, y1) ∧ Rel x1 y1)) ∧
  (∀ x y, Rel x y → (∀ p0 p1 : Int32, ∃ v, F_X3_clauseOf x p0 p1 = some v ∧ F_X4_clauseOf y p0 p1 = some v ∧ Rel x y)) ∧
  (∀ x y, Rel x y → (∀ p0 : Int32, ∃ v, F_X3_tree x p0 = some v ∧ F_X4_tree y p0 = some v ∧ Rel x y)) ∧
  (∀ x y, Rel x y → (∀ p0 : Int32, ∃ v, F_X3_widest x p0 = some v ∧ F_X4_widest y p0 = some v ∧ Rel x y)) ∧
  (∀ x y, Rel x y → (∃ v, F_X3_refutation x  = some v ∧ F_X4_refutation y  = some v ∧ Rel x y)) ∧
  (∀ x y, Rel x y → (∃ v, F_X3_models x  = some v ∧ F_X4_models y  = some v ∧ Rel x y)) ∧
  (∀ x y, Rel x y → (∀ p0 : Int32, ∃ v, F_X3_model x p0 = some v ∧ F_X4_model y p0 = some v ∧ Rel x y)) ∧
  (∀ x y, Rel x y → (∀ p0 : Int32, ∃ v, F_X3_broken x p0 = some v ∧ F_X4_broken y p0 = some v ∧ Rel x y)) ∧
  (∀ x y, Rel x y → (∃ v, F_X3_core x  = some v ∧ F_X4_core y  = some v ∧ Rel x y)) ∧
  (∀ x y, Rel x y → (∀ p0 : Int32, ∃ v, F_X3_follows x p0 = some v ∧ F_X4_follows y p0 = some v ∧ Rel x y)) ∧
  (∀ x y, Rel x y → (∀ p0 : Int32, ∃ v, F_X3_share x p0 = some v ∧ F_X4_share y p0 = some v ∧ Rel x y)) ∧
  (∀ x y, Rel x y → (∀ p0 : Int32, ∃ v, F_X3_count x p0 = some v ∧ F_X4_count y p0 = some v ∧ Rel x y)) ∧
  (∀ x y, Rel x y → (∃ v x1 y1, F_X3_undo x  = some (v, x1) ∧ F_X4_undo y  = some (v, y1) ∧ Rel x1 y1)) ∧
  (∀ x y, Rel x y → (∀ p0 : Int32, ∃ v x1 y1, F_X3_type x p0 = some (v, x1) ∧ F_X4_type y p0 = some (v, y1) ∧ Rel x1 y1)) ∧
  (∀ x y, Rel x y → (∃ v x1 y1, F_X3_clearText x  = some (v, x1) ∧ F_X4_clearText y  = some (v, y1) ∧ Rel x1 y1)) ∧
  (∀ x y, Rel x y → (∀ p0 : Int32, ∃ v y1, F_X3_fault x p0 = some v ∧ F_X4_fault y p0 = some (v, y1) ∧ Rel x y1)) ∧
  (∀ x y, Rel x y → (∃ v x1 y1, F_X3_play x  = some (v, x1) ∧ F_X4_play y  = some (v, y1) ∧ Rel x1 y1))
theorem Sims.tell {Rel : XS → St → Prop} (h : Sims Rel) : ∀ x y, Rel x y → (∀ p0 : Int32, ∃ v x1 y1, F_X3_tell x p0 = some (v, x1) ∧ F_X4_tell y p0 = some (v, y1) ∧ Rel x1 y1) := h.1
theorem Sims.rank {Rel : XS → St → Prop} (h : Sims Rel) : ∀ x y, Rel x y → (∀ p0 p1 : Int32, ∃ v x1 y1, F_X3_rank x p0 p1 = some (v, x1) ∧ F_X4_rank y p0 p1 = some (v, y1) ∧ Rel x1 y1) := h.2.1
theorem Sims.set {Rel : XS → St → Prop} (h : Sims Rel) : ∀ x y, Rel x y → (∀ p0 : Int32, ∃ v x1 y1, F_X3_set x p0 = some (v, x1) ∧ F_X4_set y p0 = some (v, y1) ∧ Rel x1 y1) := h.2.2.1
theorem Sims.step {Rel : XS → St → Prop} (h : Sims Rel) : ∀ x y, Rel x y → (∃ v x1 y1, F_X3_step x  = some (v, x1) ∧ F_X4_step y  = some (v, y1) ∧ Rel x1 y1) := h.2.2.2.1
theorem Sims.run {Rel : XS → St → Prop} (h : Sims Rel) : ∀ x y, Rel x y → (∀ p0 : Int32, ∃ v x1 y1, F_X3_run x p0 = some (v, x1) ∧ F_X4_run y p0 = some (v, y1) ∧ Rel x1 y1) := h.2.2.2.2.1
theorem Sims.empty {Rel : XS → St → Prop} (h : Sims Rel) : ∀ x y, Rel x y → (∃ v x1 y1, F_X3_empty x  = some (v, x1) ∧ F_X4_empty y  = some (v, y1) ∧ Rel x1 y1) := h.2.2.2.2.2.1
theorem Sims.clauseOf {Rel : XS → St → Prop} (h : Sims Rel) : ∀ x y, Rel x y → (∀ p0 p1 : Int32, ∃ v, F_X3_clauseOf x p0 p1 = some v ∧ F_X4_clauseOf y p0 p1 = some v ∧ Rel x y) := h.2.2.2.2.2.2.1
theorem Sims.tree {Rel : XS → St → Prop} (h : Sims Rel) : ∀ x y, Rel x y → (∀ p0 : Int32, ∃ v, F_X3_tree x p0 = some v ∧ F_X4_tree y p0 = some v ∧ Rel x y) := h.2.2.2.2.2.2.2.1
theorem Sims.widest {Rel : XS → St → Prop} (h : Sims Rel) : ∀ x y, Rel x y → (∀ p0 : Int32, ∃ v, F_X3_widest x p0 = some v ∧ F_X4_widest y p0 = some v ∧ Rel x y) := h.2.2.2.2.2.2.2.2.1
theorem Sims.refutation {Rel : XS → St → Prop} (h : Sims Rel) : ∀ x y, Rel x y → (∃ v, F_X3_refutation x  = some v ∧ F_X4_refutation y  = some v ∧ Rel x y) := h.2.2.2.2.2.2.2.2.2.1
theorem Sims.models {Rel : XS → St → Prop} (h : Sims Rel) : ∀ x y, Rel x y → (∃ v, F_X3_models x  = some v ∧ F_X4_models y  = some v ∧ Rel x y) := h.2.2.2.2.2.2.2.2.2.2.1
theorem Sims.model {Rel : XS → St → Prop} (h : Sims Rel) : ∀ x y, Rel x y → (∀ p0 : Int32, ∃ v, F_X3_model x p0 = some v ∧ F_X4_model y p0 = some v ∧ Rel x y) := h.2.2.2.2.2.2.2.2.2.2.2.1
theorem Sims.broken {Rel : XS → St → Prop} (h : Sims Rel) : ∀ x y, Rel x y → (∀ p0 : Int32, ∃ v, F_X3_broken x p0 = some v ∧ F_X4_broken y p0 = some v ∧ Rel x y) := h.2.2.2.2.2.2.2.2.2.2.2.2.1
theorem Sims.core {Rel : XS → St → Prop} (h : Sims Rel) : ∀ x y, Rel x y → (∃ v, F_X3_core x  = some v ∧ F_X4_core y  = some v ∧ Rel x y) := h.2.2.2.2.2.2.2.2.2.2.2.2.2.1
theorem Sims.follows {Rel : XS → St → Prop} (h : Sims Rel) : ∀ x y, Rel x y → (∀ p0 : Int32, ∃ v, F_X3_follows x p0 = some v ∧ F_X4_follows y p0 = some v ∧ Rel x y) := h.2.2.2.2.2.2.2.2.2.2.2.2.2.2.1
theorem Sims.share {Rel : XS → St → Prop} (h : Sims Rel) : ∀ x y, Rel x y → (∀ p0 : Int32, ∃ v, F_X3_share x p0 = some v ∧ F_X4_share y p0 = some v ∧ Rel x y) := h.2.2.2.2.2.2.2.2.2.2.2.2.2.2.2.1
theorem Sims.count {Rel : XS → St → Prop} (h : Sims Rel) : ∀ x y, Rel x y → (∀ p0 : Int32, ∃ v, F_X3_count x p0 = some v ∧ F_X4_count y p0 = some v ∧ Rel x y) := h.2.2.2.2.2.2.2.2.2.2.2.2.2.2.2.2.1
theorem Sims.undo {Rel : XS → St → Prop} (h : Sims Rel) : ∀ x y, Rel x y → (∃ v x1 y1, F_X3_undo x  = some (v, x1) ∧ F_X4_undo y  = some (v, y1) ∧ Rel x1 y1) := h.2.2.2.2.2.2.2.2.2.2.2.2.2.2.2.2.2.1
theorem Sims.type {Rel : XS → St → Prop} (h : Sims Rel) : ∀ x y, Rel x y → (∀ p0 : Int32, ∃ v x1 y1, F_X3_type x p0 = some (v, x1) ∧ F_X4_type y p0 = some (v, y1) ∧ Rel x1 y1) := h.2.2.2.2.2.2.2.2.2.2.2.2.2.2.2.2.2.2.1
theorem Sims.clearText {Rel : XS → St → Prop} (h : Sims Rel) : ∀ x y, Rel x y → (∃ v x1 y1, F_X3_clearText x  = some (v, x1) ∧ F_X4_clearText y  = some (v, y1) ∧ Rel x1 y1) := h.2.2.2.2.2.2.2.2.2.2.2.2.2.2.2.2.2.2.2.1
theorem Sims.fault {Rel : XS → St → Prop} (h : Sims Rel) : ∀ x y, Rel x y → (∀ p0 : Int32, ∃ v y1, F_X3_fault x p0 = some v ∧ F_X4_fault y p0 = some (v, y1) ∧ Rel x y1) := h.2.2.2.2.2.2.2.2.2.2.2.2.2.2.2.2.2.2.2.2.1
theorem Sims.play {Rel : XS → St → Prop} (h : Sims Rel) : ∀ x y, Rel x y → (∃ v x1 y1, F_X3_play x  = some (v, x1) ∧ F_X4_play y  = some (v, y1) ∧ Rel x1 y1) := h.2.2.2.2.2.2.2.2.2.2.2.2.2.2.2.2.2.2.2.2.2
set_option maxHeartbeats 16000000 in
set_option maxRecDepth 100000 in
theorem law_loop {Rel : XS → St → Prop} (hsim : Sims Rel) {p : Program} {l : Launch} {e : Env} {s : State} {m : MethodId} {below : List Frame} {meth : Method} {c : Code} {b L : Nat} {xs : Nat → Int32} (hL : L ≤ 1536) (C0 : lw_At p s m meth c b L xs) {g : Gm} {LX LM : List Nat} (hLX : kL LX (fun q => q ∈ LX)) (hLM : kL LM (fun q => q ∈ LM)) (hdX : ∀ q, q ∈ LX → q ∉ LM) (hdM : ∀ q, q ∈ LM → q ∉ LX) (hAX : ∀ q, q ∈ LX → s.heap.size ≤ q) (hAM : ∀ q, q ∈ LM → s.heap.size ≤ q) (hC : Cx g (fun q => s.heap.size ≤ q) s s.heap) (ad : Nat → Nat) (ma : Nat) (mr : Nat → Nat) :
    ∀ (n i : Nat) (x3 : Int32), i ≤ L + 3 → L + 4 ≤ i + n → x3 = nI i → ∀ (x : XS) (y : St), Rel x y → ∀ (GX GM : Nat → va_E) (H : Heap) (locs : List Loc), vX g LX GX ad x → vM g LM GM ma mr y → va_P g.1 vwCl (va_pl LX GX) H → va_P g.1 vwCl (va_pl LM GM) H → va_S (fun q => s.heap.size ≤ q) s.heap H locs → ∀ (ls : Array Slot), lv_has ls 4 [(0, .ref b), (1, .ref (ad 0)), (2, .ref ma), (3, .int x3)] → W p l e room_1 s m #[Value.ref b] below meth c H locs 600000 7302250 (lw_Z below #[Value.ref b] s) (F0 m 18 ls []) := by
  obtain ⟨hx, hb, hr, hml, hown0, hts0, hX0, hbl, hlocks, hgv⟩ := C0
  have hown : s.vm.findClass RL = some m.cls := hown0
  have hts : ∀ w ∈ wsL_law, w.before #[Value.ref b] s = true := fun w h => hts0 w (wsL_law_in w h)
  have hbA : ¬ (fun q : Nat => s.heap.size ≤ q) b := Nat.not_le.mpr hbl
  have hd0 : s.drawn.sameBut s.drawn lw_cs := Drawn.sameBut.refl s.drawn lw_cs
  intro n
  induction n with
  | zero =>
    intro i x3 h1 h2
    exact absurd h2 (by omega)
  | succ n ih =>
    intro i x3 hi hin ex3 x y hR GX GM H locs hvX hvM hPX hPM hS ls hl
    refine lv_iload_n hx hb dL_law_18 rfl (lv_at hl 3 rfl) ?_
    refine lv_aload_n hx hb dL_law_19 rfl (lv_at hl 0 rfl) ?_
    refine va_slen hx hb hX0 hbl hbA hS dL_law_20 ?_
    refine lv_iconst (v := 3) hx hb dL_law_21 (by decide) ?_
    refine lv_isub hx hb dL_law_22 ?_
    refine lv_icmp_gt (tgt := 591) hx hb dL_law_23 (by decide) (fun c1 => ?_) (fun c1 => ?_)
    · refine lv_iconst (v := 1) hx hb dL_law_591 (by decide) ?_
      refine va_forget (fun q hq => hS.2.2 q hq) ?_
      exact lw_ret (d0 := s.drawn) hd0 hx hb hr hlocks dL_law_592
    rw [ex3] at c1
    have hi3 : i + 3 ≤ L := i_room hL (by omega) c1
    have b0 : vp_in x3 L := by rw [ex3]; exact vp_in_nI (by omega) (by omega)
    have e1 : x3 + 1 = nI (i + 1) := by rw [ex3]; exact nI_1 i
    have e2 : x3 + 2 = nI (i + 2) := by rw [ex3]; exact nI_add i 2
    have b1 : vp_in (x3 + 1) L := by rw [e1]; exact vp_in_nI (by omega) (by omega)
    have b2 : vp_in (x3 + 2) L := by rw [e2]; exact vp_in_nI (by omega) (by omega)
    refine lv_aload_n hx hb dL_law_26 rfl (lv_at hl 0 rfl) ?_
    refine lv_iload_n hx hb dL_law_27 rfl (lv_at hl 3 rfl) ?_
    refine va_sld hx hb hX0 hbl hbA hS b0 dL_law_28 ?_
    refine lv_bipush (v := 31) hx hb dL_law_29 (by decide) ?_
    refine lv_iand hx hb dL_law_31 ?_
    refine lv_topi (fun op eop => ?_)
    have back : ∀ (x : XS) (y : St), Rel x y → ∀ (GX GM : Nat → va_E) (H : Heap) (locs : List Loc), vX g LX GX ad x → vM g LM GM ma mr y → va_P g.1 vwCl (va_pl LX GX) H → va_P g.1 vwCl (va_pl LM GM) H → va_S (fun q => s.heap.size ≤ q) s.heap H locs → W p l e room_1 s m #[Value.ref b] below meth c H locs 600000 7302250 (lw_Z below #[Value.ref b] s) (F0 m 585 ls []) := by
      intro x y hR GX GM H locs hvX hvM hPX hPM hS
      refine lv_iinc (v := x3 + 3) (lv' := [(3, .int (x3 + 3)), (0, .ref b), (1, .ref (ad 0)), (2, .ref ma)]) hx hb dL_law_585 hl (k := 3) rfl rfl (by decide) rfl (fun ls hl => ?_)
      refine lv_goto (tgt := 18) hx hb dL_law_588 (by decide) ?_
      exact ih (i + 3) (x3 + 3) (by omega) (by omega) (by rw [ex3]; exact nI_add i 3) x y hR GX GM H locs hvX hvM hPX hPM hS ls (lv_sub hl [1, 2, 3, 0] rfl)
    rcases Decidable.em (op = 0) with k0 | k0
    · refine lv_tableIn (off := 104) (tgt := 136) hx hb dL_law_32 (by rw [k0]; decide) (by rw [k0]; decide) (by rw [k0]; rfl) (by decide) ?_
      obtain ⟨v, x1, y1, hF3, hF4, hR1⟩ := Sims.tell hsim x y hR (xs (x3 + 1).toNatClampNeg)
      refine lv_aload_n hx hb dL_law_136 rfl (lv_at hl 1 rfl) ?_
      refine lv_aload_n hx hb dL_law_137 rfl (lv_at hl 0 rfl) ?_
      refine lv_iload_n hx hb dL_law_138 rfl (lv_at hl 3 rfl) ?_
      refine lv_iconst (v := 1) hx hb dL_law_139 (by decide) ?_
      refine lv_iadd hx hb dL_law_140 ?_
      refine va_sld hx hb hX0 hbl hbA hS b1 dL_law_141 ?_
      refine k2_i hS hAX hdM hPM (va_runV (As := [.int (xs (x3 + 1).toNatClampNeg)]) (rest := []) ⟨hx, hb, hml, hown, hts⟩ (c_X3_tell l g LX hLX GX ad x hvX (xs (x3 + 1).toNatClampNeg) v x1 hF3) (cwV 1 hts gL_law_X3_tell rfl rfl rfl (by decide +kernel) ⟨Nat.le_of_ble_eq_true rfl, Nat.le_of_ble_eq_true rfl⟩) (k2_pre hC hAX hS hPX (vX.m hvX 0 (by omega)) (vX.o0 hvX) rfl) rfl rfl hl.1 rfl (lv_room (Nat.le_of_ble_eq_true rfl)) dL_law_142 ⟨Nat.le_refl _, Nat.le_refl _⟩) (fun G1 H locs hq hPX hPM hS => ?_)
      have hvX := hq
      refine lv_aload_n hx hb dL_law_145 rfl (lv_at hl 2 rfl) ?_
      refine lv_aload_n hx hb dL_law_146 rfl (lv_at hl 0 rfl) ?_
      refine lv_iload_n hx hb dL_law_147 rfl (lv_at hl 3 rfl) ?_
      refine lv_iconst (v := 1) hx hb dL_law_148 (by decide) ?_
      refine lv_iadd hx hb dL_law_149 ?_
      refine va_sld hx hb hX0 hbl hbA hS b1 dL_law_150 ?_
      refine k2_i hS hAM hdX hPX (va_runV (As := [.int (xs (x3 + 1).toNatClampNeg)]) (rest := [.int v]) ⟨hx, hb, hml, hown, hts⟩ (c_X4_tell l g LM hLM GM ma mr y hvM (xs (x3 + 1).toNatClampNeg) v y1 hF4) (cwV 1 hts gL_law_X4_tell rfl rfl rfl (by decide +kernel) ⟨Nat.le_of_ble_eq_true rfl, Nat.le_of_ble_eq_true rfl⟩) (k2_pre hC hAM hS hPM (vO.m hvM) (vO.o hvM) rfl) rfl rfl hl.1 rfl (lv_room (Nat.le_of_ble_eq_true rfl)) dL_law_151 ⟨Nat.le_refl _, Nat.le_refl _⟩) (fun G2 H locs hq hPM hPX hS => ?_)
      have hvM := hq.1
      refine lv_icmp_eq (tgt := 585) hx hb dL_law_154 (by decide) (fun _ => ?_) (fun c9 => absurd rfl c9)
      exact back x1 y1 hR1 _ _ _ _ hvX hvM hPX hPM hS
    rcases Decidable.em (op = 1) with k1 | k1
    · refine lv_tableIn (off := 127) (tgt := 159) hx hb dL_law_32 (by rw [k1]; decide) (by rw [k1]; decide) (by rw [k1]; rfl) (by decide) ?_
      obtain ⟨v, x1, y1, hF3, hF4, hR1⟩ := Sims.rank hsim x y hR (xs (x3 + 1).toNatClampNeg) (xs (x3 + 2).toNatClampNeg)
      refine lv_aload_n hx hb dL_law_159 rfl (lv_at hl 1 rfl) ?_
      refine lv_aload_n hx hb dL_law_160 rfl (lv_at hl 0 rfl) ?_
      refine lv_iload_n hx hb dL_law_161 rfl (lv_at hl 3 rfl) ?_
      refine lv_iconst (v := 1) hx hb dL_law_162 (by decide) ?_
      refine lv_iadd hx hb dL_law_163 ?_
      refine va_sld hx hb hX0 hbl hbA hS b1 dL_law_164 ?_
      refine lv_aload_n hx hb dL_law_165 rfl (lv_at hl 0 rfl) ?_
      refine lv_iload_n hx hb dL_law_166 rfl (lv_at hl 3 rfl) ?_
      refine lv_iconst (v := 2) hx hb dL_law_167 (by decide) ?_
      refine lv_iadd hx hb dL_law_168 ?_
      refine va_sld hx hb hX0 hbl hbA hS b2 dL_law_169 ?_
      refine k2_i hS hAX hdM hPM (va_runV (As := [.int (xs (x3 + 1).toNatClampNeg), .int (xs (x3 + 2).toNatClampNeg)]) (rest := []) ⟨hx, hb, hml, hown, hts⟩ (c_X3_rank l g LX hLX GX ad x hvX (xs (x3 + 1).toNatClampNeg) (xs (x3 + 2).toNatClampNeg) v x1 hF3) (cwV 2 hts gL_law_X3_rank rfl rfl rfl (by decide +kernel) ⟨Nat.le_of_ble_eq_true rfl, Nat.le_of_ble_eq_true rfl⟩) (k2_pre hC hAX hS hPX (vX.m hvX 0 (by omega)) (vX.o0 hvX) rfl) rfl rfl hl.1 rfl (lv_room (Nat.le_of_ble_eq_true rfl)) dL_law_170 ⟨Nat.le_refl _, Nat.le_refl _⟩) (fun G1 H locs hq hPX hPM hS => ?_)
      have hvX := hq
      refine lv_aload_n hx hb dL_law_173 rfl (lv_at hl 2 rfl) ?_
      refine lv_aload_n hx hb dL_law_174 rfl (lv_at hl 0 rfl) ?_
      refine lv_iload_n hx hb dL_law_175 rfl (lv_at hl 3 rfl) ?_
      refine lv_iconst (v := 1) hx hb dL_law_176 (by decide) ?_
      refine lv_iadd hx hb dL_law_177 ?_
      refine va_sld hx hb hX0 hbl hbA hS b1 dL_law_178 ?_
      refine lv_aload_n hx hb dL_law_179 rfl (lv_at hl 0 rfl) ?_
      refine lv_iload_n hx hb dL_law_180 rfl (lv_at hl 3 rfl) ?_
      refine lv_iconst (v := 2) hx hb dL_law_181 (by decide) ?_
      refine lv_iadd hx hb dL_law_182 ?_
      refine va_sld hx hb hX0 hbl hbA hS b2 dL_law_183 ?_
      refine k2_i hS hAM hdX hPX (va_runV (As := [.int (xs (x3 + 1).toNatClampNeg), .int (xs (x3 + 2).toNatClampNeg)]) (rest := [.int v]) ⟨hx, hb, hml, hown, hts⟩ (c_X4_rank l g LM hLM GM ma mr y hvM (xs (x3 + 1).toNatClampNeg) (xs (x3 + 2).toNatClampNeg) v y1 hF4) (cwV 2 hts gL_law_X4_rank rfl rfl rfl (by decide +kernel) ⟨Nat.le_of_ble_eq_true rfl, Nat.le_of_ble_eq_true rfl⟩) (k2_pre hC hAM hS hPM (vO.m hvM) (vO.o hvM) rfl) rfl rfl hl.1 rfl (lv_room (Nat.le_of_ble_eq_true rfl)) dL_law_184 ⟨Nat.le_refl _, Nat.le_refl _⟩) (fun G2 H locs hq hPM hPX hS => ?_)
      have hvM := hq.1
      refine lv_icmp_eq (tgt := 585) hx hb dL_law_187 (by decide) (fun _ => ?_) (fun c9 => absurd rfl c9)
      exact back x1 y1 hR1 _ _ _ _ hvX hvM hPX hPM hS
    rcases Decidable.em (op = 2) with k2 | k2
    · refine lv_tableIn (off := 160) (tgt := 192) hx hb dL_law_32 (by rw [k2]; decide) (by rw [k2]; decide) (by rw [k2]; rfl) (by decide) ?_
      obtain ⟨v, x1, y1, hF3, hF4, hR1⟩ := Sims.set hsim x y hR (xs (x3 + 1).toNatClampNeg)
      refine lv_aload_n hx hb dL_law_192 rfl (lv_at hl 1 rfl) ?_
      refine lv_aload_n hx hb dL_law_193 rfl (lv_at hl 0 rfl) ?_
      refine lv_iload_n hx hb dL_law_194 rfl (lv_at hl 3 rfl) ?_
      refine lv_iconst (v := 1) hx hb dL_law_195 (by decide) ?_
      refine lv_iadd hx hb dL_law_196 ?_
      refine va_sld hx hb hX0 hbl hbA hS b1 dL_law_197 ?_
      refine k2_i hS hAX hdM hPM (va_runV (As := [.int (xs (x3 + 1).toNatClampNeg)]) (rest := []) ⟨hx, hb, hml, hown, hts⟩ (c_X3_set l g LX hLX GX ad x hvX (xs (x3 + 1).toNatClampNeg) v x1 hF3) (cwV 1 hts gL_law_X3_set rfl rfl rfl (by decide +kernel) ⟨Nat.le_of_ble_eq_true rfl, Nat.le_of_ble_eq_true rfl⟩) (k2_pre hC hAX hS hPX (vX.m hvX 0 (by omega)) (vX.o0 hvX) rfl) rfl rfl hl.1 rfl (lv_room (Nat.le_of_ble_eq_true rfl)) dL_law_198 ⟨Nat.le_refl _, Nat.le_refl _⟩) (fun G1 H locs hq hPX hPM hS => ?_)
      have hvX := hq
      refine lv_aload_n hx hb dL_law_201 rfl (lv_at hl 2 rfl) ?_
      refine lv_aload_n hx hb dL_law_202 rfl (lv_at hl 0 rfl) ?_
      refine lv_iload_n hx hb dL_law_203 rfl (lv_at hl 3 rfl) ?_
      refine lv_iconst (v := 1) hx hb dL_law_204 (by decide) ?_
      refine lv_iadd hx hb dL_law_205 ?_
      refine va_sld hx hb hX0 hbl hbA hS b1 dL_law_206 ?_
      refine k2_i hS hAM hdX hPX (va_runV (As := [.int (xs (x3 + 1).toNatClampNeg)]) (rest := [.int v]) ⟨hx, hb, hml, hown, hts⟩ (c_X4_set l g LM hLM GM ma mr y hvM (xs (x3 + 1).toNatClampNeg) v y1 hF4) (cwV 1 hts gL_law_X4_set rfl rfl rfl (by decide +kernel) ⟨Nat.le_of_ble_eq_true rfl, Nat.le_of_ble_eq_true rfl⟩) (k2_pre hC hAM hS hPM (vO.m hvM) (vO.o hvM) rfl) rfl rfl hl.1 rfl (lv_room (Nat.le_of_ble_eq_true rfl)) dL_law_207 ⟨Nat.le_refl _, Nat.le_refl _⟩) (fun G2 H locs hq hPM hPX hS => ?_)
      have hvM := hq.1
      refine lv_icmp_eq (tgt := 585) hx hb dL_law_210 (by decide) (fun _ => ?_) (fun c9 => absurd rfl c9)
      exact back x1 y1 hR1 _ _ _ _ hvX hvM hPX hPM hS
    rcases Decidable.em (op = 3) with k3 | k3
    · refine lv_tableIn (off := 183) (tgt := 215) hx hb dL_law_32 (by rw [k3]; decide) (by rw [k3]; decide) (by rw [k3]; rfl) (by decide) ?_
      obtain ⟨v, x1, y1, hF3, hF4, hR1⟩ := Sims.step hsim x y hR 
      refine lv_aload_n hx hb dL_law_215 rfl (lv_at hl 1 rfl) ?_
      refine k2_i hS hAX hdM hPM (va_runV (As := []) (rest := []) ⟨hx, hb, hml, hown, hts⟩ (c_X3_step l g LX hLX GX ad x hvX  v x1 hF3) (cwV 0 hts gL_law_X3_step rfl rfl rfl (by decide +kernel) ⟨Nat.le_of_ble_eq_true rfl, Nat.le_of_ble_eq_true rfl⟩) (k2_pre hC hAX hS hPX (vX.m hvX 0 (by omega)) (vX.o0 hvX) rfl) rfl rfl hl.1 rfl (lv_room (Nat.le_of_ble_eq_true rfl)) dL_law_216 ⟨Nat.le_refl _, Nat.le_refl _⟩) (fun G1 H locs hq hPX hPM hS => ?_)
      have hvX := hq
      refine lv_aload_n hx hb dL_law_219 rfl (lv_at hl 2 rfl) ?_
      refine k2_i hS hAM hdX hPX (va_runV (As := []) (rest := [.int v]) ⟨hx, hb, hml, hown, hts⟩ (c_X4_step l g LM hLM GM ma mr y hvM  v y1 hF4) (cwV 0 hts gL_law_X4_step rfl rfl rfl (by decide +kernel) ⟨Nat.le_of_ble_eq_true rfl, Nat.le_of_ble_eq_true rfl⟩) (k2_pre hC hAM hS hPM (vO.m hvM) (vO.o hvM) rfl) rfl rfl hl.1 rfl (lv_room (Nat.le_of_ble_eq_true rfl)) dL_law_220 ⟨Nat.le_refl _, Nat.le_refl _⟩) (fun G2 H locs hq hPM hPX hS => ?_)
      have hvM := hq.1
      refine lv_icmp_eq (tgt := 585) hx hb dL_law_223 (by decide) (fun _ => ?_) (fun c9 => absurd rfl c9)
      exact back x1 y1 hR1 _ _ _ _ hvX hvM hPX hPM hS
    rcases Decidable.em (op = 4) with k4 | k4
    · refine lv_tableIn (off := 196) (tgt := 228) hx hb dL_law_32 (by rw [k4]; decide) (by rw [k4]; decide) (by rw [k4]; rfl) (by decide) ?_
      obtain ⟨v, x1, y1, hF3, hF4, hR1⟩ := Sims.run hsim x y hR (xs (x3 + 1).toNatClampNeg)
      refine lv_aload_n hx hb dL_law_228 rfl (lv_at hl 1 rfl) ?_
      refine lv_aload_n hx hb dL_law_229 rfl (lv_at hl 0 rfl) ?_
      refine lv_iload_n hx hb dL_law_230 rfl (lv_at hl 3 rfl) ?_
      refine lv_iconst (v := 1) hx hb dL_law_231 (by decide) ?_
      refine lv_iadd hx hb dL_law_232 ?_
      refine va_sld hx hb hX0 hbl hbA hS b1 dL_law_233 ?_
      refine k2_i hS hAX hdM hPM (va_runV (As := [.int (xs (x3 + 1).toNatClampNeg)]) (rest := []) ⟨hx, hb, hml, hown, hts⟩ (c_X3_run l g LX hLX GX ad x hvX (xs (x3 + 1).toNatClampNeg) v x1 hF3) (cwV 1 hts gL_law_X3_run rfl rfl rfl (by decide +kernel) ⟨Nat.le_of_ble_eq_true rfl, Nat.le_of_ble_eq_true rfl⟩) (k2_pre hC hAX hS hPX (vX.m hvX 0 (by omega)) (vX.o0 hvX) rfl) rfl rfl hl.1 rfl (lv_room (Nat.le_of_ble_eq_true rfl)) dL_law_234 ⟨Nat.le_refl _, Nat.le_refl _⟩) (fun G1 H locs hq hPX hPM hS => ?_)
      have hvX := hq
      refine lv_aload_n hx hb dL_law_237 rfl (lv_at hl 2 rfl) ?_
      refine lv_aload_n hx hb dL_law_238 rfl (lv_at hl 0 rfl) ?_
      refine lv_iload_n hx hb dL_law_239 rfl (lv_at hl 3 rfl) ?_
      refine lv_iconst (v := 1) hx hb dL_law_240 (by decide) ?_
      refine lv_iadd hx hb dL_law_241 ?_
      refine va_sld hx hb hX0 hbl hbA hS b1 dL_law_242 ?_
      refine k2_i hS hAM hdX hPX (va_runV (As := [.int (xs (x3 + 1).toNatClampNeg)]) (rest := [.int v]) ⟨hx, hb, hml, hown, hts⟩ (c_X4_run l g LM hLM GM ma mr y hvM (xs (x3 + 1).toNatClampNeg) v y1 hF4) (cwV 1 hts gL_law_X4_run rfl rfl rfl (by decide +kernel) ⟨Nat.le_of_ble_eq_true rfl, Nat.le_of_ble_eq_true rfl⟩) (k2_pre hC hAM hS hPM (vO.m hvM) (vO.o hvM) rfl) rfl rfl hl.1 rfl (lv_room (Nat.le_of_ble_eq_true rfl)) dL_law_243 ⟨Nat.le_refl _, Nat.le_refl _⟩) (fun G2 H locs hq hPM hPX hS => ?_)
      have hvM := hq.1
      refine lv_icmp_eq (tgt := 585) hx hb dL_law_246 (by decide) (fun _ => ?_) (fun c9 => absurd rfl c9)
      exact back x1 y1 hR1 _ _ _ _ hvX hvM hPX hPM hS
    rcases Decidable.em (op = 5) with k5 | k5
    · refine lv_tableIn (off := 219) (tgt := 251) hx hb dL_law_32 (by rw [k5]; decide) (by rw [k5]; decide) (by rw [k5]; rfl) (by decide) ?_
      obtain ⟨v, x1, y1, hF3, hF4, hR1⟩ := Sims.empty hsim x y hR 
      refine lv_aload_n hx hb dL_law_251 rfl (lv_at hl 1 rfl) ?_
      refine k2_i hS hAX hdM hPM (va_runV (As := []) (rest := []) ⟨hx, hb, hml, hown, hts⟩ (c_X3_empty l g LX hLX GX ad x hvX  v x1 hF3) (cwV 0 hts gL_law_X3_empty rfl rfl rfl (by decide +kernel) ⟨Nat.le_of_ble_eq_true rfl, Nat.le_of_ble_eq_true rfl⟩) (k2_pre hC hAX hS hPX (vX.m hvX 0 (by omega)) (vX.o0 hvX) rfl) rfl rfl hl.1 rfl (lv_room (Nat.le_of_ble_eq_true rfl)) dL_law_252 ⟨Nat.le_refl _, Nat.le_refl _⟩) (fun G1 H locs hq hPX hPM hS => ?_)
      have hvX := hq
      refine lv_aload_n hx hb dL_law_255 rfl (lv_at hl 2 rfl) ?_
      refine k2_i hS hAM hdX hPX (va_runV (As := []) (rest := [.int v]) ⟨hx, hb, hml, hown, hts⟩ (c_X4_empty l g LM hLM GM ma mr y hvM  v y1 hF4) (cwV 0 hts gL_law_X4_empty rfl rfl rfl (by decide +kernel) ⟨Nat.le_of_ble_eq_true rfl, Nat.le_of_ble_eq_true rfl⟩) (k2_pre hC hAM hS hPM (vO.m hvM) (vO.o hvM) rfl) rfl rfl hl.1 rfl (lv_room (Nat.le_of_ble_eq_true rfl)) dL_law_256 ⟨Nat.le_refl _, Nat.le_refl _⟩) (fun G2 H locs hq hPM hPX hS => ?_)
      have hvM := hq.1
      refine lv_icmp_eq (tgt := 585) hx hb dL_law_259 (by decide) (fun _ => ?_) (fun c9 => absurd rfl c9)
      exact back x1 y1 hR1 _ _ _ _ hvX hvM hPX hPM hS
    rcases Decidable.em (op = 6) with k6 | k6
    · refine lv_tableIn (off := 232) (tgt := 264) hx hb dL_law_32 (by rw [k6]; decide) (by rw [k6]; decide) (by rw [k6]; rfl) (by decide) ?_
      obtain ⟨v, hF3, hF4, hR1⟩ := Sims.clauseOf hsim x y hR (xs (x3 + 1).toNatClampNeg) (xs (x3 + 2).toNatClampNeg)
      refine lv_aload_n hx hb dL_law_264 rfl (lv_at hl 1 rfl) ?_
      refine lv_aload_n hx hb dL_law_265 rfl (lv_at hl 0 rfl) ?_
      refine lv_iload_n hx hb dL_law_266 rfl (lv_at hl 3 rfl) ?_
      refine lv_iconst (v := 1) hx hb dL_law_267 (by decide) ?_
      refine lv_iadd hx hb dL_law_268 ?_
      refine va_sld hx hb hX0 hbl hbA hS b1 dL_law_269 ?_
      refine lv_aload_n hx hb dL_law_270 rfl (lv_at hl 0 rfl) ?_
      refine lv_iload_n hx hb dL_law_271 rfl (lv_at hl 3 rfl) ?_
      refine lv_iconst (v := 2) hx hb dL_law_272 (by decide) ?_
      refine lv_iadd hx hb dL_law_273 ?_
      refine va_sld hx hb hX0 hbl hbA hS b2 dL_law_274 ?_
      refine k2_i hS hAX hdM hPM (va_runV (As := [.int (xs (x3 + 1).toNatClampNeg), .int (xs (x3 + 2).toNatClampNeg)]) (rest := []) ⟨hx, hb, hml, hown, hts⟩ (c_X3_clauseOf l g LX hLX GX ad x hvX (xs (x3 + 1).toNatClampNeg) (xs (x3 + 2).toNatClampNeg) v hF3) (cwV 2 hts gL_law_X3_clauseOf rfl rfl rfl (by decide +kernel) ⟨Nat.le_of_ble_eq_true rfl, Nat.le_of_ble_eq_true rfl⟩) (k2_pre hC hAX hS hPX (vX.m hvX 0 (by omega)) (vX.o0 hvX) rfl) rfl rfl hl.1 rfl (lv_room (Nat.le_of_ble_eq_true rfl)) dL_law_275 ⟨Nat.le_refl _, Nat.le_refl _⟩) (fun G1 H locs hq hPX hPM hS => ?_)
      have hvX := hq ▸ hvX
      refine lv_aload_n hx hb dL_law_278 rfl (lv_at hl 2 rfl) ?_
      refine lv_aload_n hx hb dL_law_279 rfl (lv_at hl 0 rfl) ?_
      refine lv_iload_n hx hb dL_law_280 rfl (lv_at hl 3 rfl) ?_
      refine lv_iconst (v := 1) hx hb dL_law_281 (by decide) ?_
      refine lv_iadd hx hb dL_law_282 ?_
      refine va_sld hx hb hX0 hbl hbA hS b1 dL_law_283 ?_
      refine lv_aload_n hx hb dL_law_284 rfl (lv_at hl 0 rfl) ?_
      refine lv_iload_n hx hb dL_law_285 rfl (lv_at hl 3 rfl) ?_
      refine lv_iconst (v := 2) hx hb dL_law_286 (by decide) ?_
      refine lv_iadd hx hb dL_law_287 ?_
      refine va_sld hx hb hX0 hbl hbA hS b2 dL_law_288 ?_
      refine k2_i hS hAM hdX hPX (va_runV (As := [.int (xs (x3 + 1).toNatClampNeg), .int (xs (x3 + 2).toNatClampNeg)]) (rest := [.int v]) ⟨hx, hb, hml, hown, hts⟩ (c_X4_clauseOf l g LM hLM GM ma mr y hvM (xs (x3 + 1).toNatClampNeg) (xs (x3 + 2).toNatClampNeg) v hF4) (cwV 2 hts gL_law_X4_clauseOf rfl rfl rfl (by decide +kernel) ⟨Nat.le_of_ble_eq_true rfl, Nat.le_of_ble_eq_true rfl⟩) (k2_pre hC hAM hS hPM (vO.m hvM) (vO.o hvM) rfl) rfl rfl hl.1 rfl (lv_room (Nat.le_of_ble_eq_true rfl)) dL_law_289 ⟨Nat.le_refl _, Nat.le_refl _⟩) (fun G2 H locs hq hPM hPX hS => ?_)
      have hvM := hq ▸ hvM
      refine lv_icmp_eq (tgt := 585) hx hb dL_law_292 (by decide) (fun _ => ?_) (fun c9 => absurd rfl c9)
      exact back x y hR1 _ _ _ _ hvX hvM hPX hPM hS
    rcases Decidable.em (op = 7) with k7 | k7
    · refine lv_tableIn (off := 265) (tgt := 297) hx hb dL_law_32 (by rw [k7]; decide) (by rw [k7]; decide) (by rw [k7]; rfl) (by decide) ?_
      obtain ⟨v, hF3, hF4, hR1⟩ := Sims.tree hsim x y hR (xs (x3 + 1).toNatClampNeg)
      refine lv_aload_n hx hb dL_law_297 rfl (lv_at hl 1 rfl) ?_
      refine lv_aload_n hx hb dL_law_298 rfl (lv_at hl 0 rfl) ?_
      refine lv_iload_n hx hb dL_law_299 rfl (lv_at hl 3 rfl) ?_
      refine lv_iconst (v := 1) hx hb dL_law_300 (by decide) ?_
      refine lv_iadd hx hb dL_law_301 ?_
      refine va_sld hx hb hX0 hbl hbA hS b1 dL_law_302 ?_
      refine k2_l hS hAX hdM hPM (va_runV (As := [.int (xs (x3 + 1).toNatClampNeg)]) (rest := []) ⟨hx, hb, hml, hown, hts⟩ (c_X3_tree l g LX hLX GX ad x hvX (xs (x3 + 1).toNatClampNeg) v hF3) (cwV 1 hts gL_law_X3_tree rfl rfl rfl (by decide +kernel) ⟨Nat.le_of_ble_eq_true rfl, Nat.le_of_ble_eq_true rfl⟩) (k2_pre hC hAX hS hPX (vX.m hvX 0 (by omega)) (vX.o0 hvX) rfl) rfl rfl hl.1 rfl (lv_room (Nat.le_of_ble_eq_true rfl)) dL_law_303 ⟨Nat.le_refl _, Nat.le_refl _⟩) (fun G1 H locs hq hPX hPM hS => ?_)
      have hvX := hq ▸ hvX
      refine lv_aload_n hx hb dL_law_306 rfl (lv_at hl 2 rfl) ?_
      refine lv_aload_n hx hb dL_law_307 rfl (lv_at hl 0 rfl) ?_
      refine lv_iload_n hx hb dL_law_308 rfl (lv_at hl 3 rfl) ?_
      refine lv_iconst (v := 1) hx hb dL_law_309 (by decide) ?_
      refine lv_iadd hx hb dL_law_310 ?_
      refine va_sld hx hb hX0 hbl hbA hS b1 dL_law_311 ?_
      refine k2_l hS hAM hdX hPX (va_runV (As := [.int (xs (x3 + 1).toNatClampNeg)]) (rest := [.long v]) ⟨hx, hb, hml, hown, hts⟩ (c_X4_tree l g LM hLM GM ma mr y hvM (xs (x3 + 1).toNatClampNeg) v hF4) (cwV 1 hts gL_law_X4_tree rfl rfl rfl (by decide +kernel) ⟨Nat.le_of_ble_eq_true rfl, Nat.le_of_ble_eq_true rfl⟩) (k2_pre hC hAM hS hPM (vO.m hvM) (vO.o hvM) rfl) rfl rfl hl.1 rfl (lv_room (Nat.le_of_ble_eq_true rfl)) dL_law_312 ⟨Nat.le_refl _, Nat.le_refl _⟩) (fun G2 H locs hq hPM hPX hS => ?_)
      have hvM := hq ▸ hvM
      refine W.lcmp hx hb dL_law_315 ?_
      refine lv_if_eq (tgt := 585) hx hb dL_law_316 (by decide) (fun _ => ?_) (fun c9 => absurd (lg_self v) c9)
      exact back x y hR1 _ _ _ _ hvX hvM hPX hPM hS
    rcases Decidable.em (op = 8) with k8 | k8
    · refine lv_tableIn (off := 289) (tgt := 321) hx hb dL_law_32 (by rw [k8]; decide) (by rw [k8]; decide) (by rw [k8]; rfl) (by decide) ?_
      obtain ⟨v, hF3, hF4, hR1⟩ := Sims.widest hsim x y hR (xs (x3 + 1).toNatClampNeg)
      refine lv_aload_n hx hb dL_law_321 rfl (lv_at hl 1 rfl) ?_
      refine lv_aload_n hx hb dL_law_322 rfl (lv_at hl 0 rfl) ?_
      refine lv_iload_n hx hb dL_law_323 rfl (lv_at hl 3 rfl) ?_
      refine lv_iconst (v := 1) hx hb dL_law_324 (by decide) ?_
      refine lv_iadd hx hb dL_law_325 ?_
      refine va_sld hx hb hX0 hbl hbA hS b1 dL_law_326 ?_
      refine k2_i hS hAX hdM hPM (va_runV (As := [.int (xs (x3 + 1).toNatClampNeg)]) (rest := []) ⟨hx, hb, hml, hown, hts⟩ (c_X3_widest l g LX hLX GX ad x hvX (xs (x3 + 1).toNatClampNeg) v hF3) (cwV 1 hts gL_law_X3_widest rfl rfl rfl (by decide +kernel) ⟨Nat.le_of_ble_eq_true rfl, Nat.le_of_ble_eq_true rfl⟩) (k2_pre hC hAX hS hPX (vX.m hvX 0 (by omega)) (vX.o0 hvX) rfl) rfl rfl hl.1 rfl (lv_room (Nat.le_of_ble_eq_true rfl)) dL_law_327 ⟨Nat.le_refl _, Nat.le_refl _⟩) (fun G1 H locs hq hPX hPM hS => ?_)
      have hvX := hq ▸ hvX
      refine lv_aload_n hx hb dL_law_330 rfl (lv_at hl 2 rfl) ?_
      refine lv_aload_n hx hb dL_law_331 rfl (lv_at hl 0 rfl) ?_
      refine lv_iload_n hx hb dL_law_332 rfl (lv_at hl 3 rfl) ?_
      refine lv_iconst (v := 1) hx hb dL_law_333 (by decide) ?_
      refine lv_iadd hx hb dL_law_334 ?_
      refine va_sld hx hb hX0 hbl hbA hS b1 dL_law_335 ?_
      refine k2_i hS hAM hdX hPX (va_runV (As := [.int (xs (x3 + 1).toNatClampNeg)]) (rest := [.int v]) ⟨hx, hb, hml, hown, hts⟩ (c_X4_widest l g LM hLM GM ma mr y hvM (xs (x3 + 1).toNatClampNeg) v hF4) (cwV 1 hts gL_law_X4_widest rfl rfl rfl (by decide +kernel) ⟨Nat.le_of_ble_eq_true rfl, Nat.le_of_ble_eq_true rfl⟩) (k2_pre hC hAM hS hPM (vO.m hvM) (vO.o hvM) rfl) rfl rfl hl.1 rfl (lv_room (Nat.le_of_ble_eq_true rfl)) dL_law_336 ⟨Nat.le_refl _, Nat.le_refl _⟩) (fun G2 H locs hq hPM hPX hS => ?_)
      have hvM := hq ▸ hvM
      refine lv_icmp_eq (tgt := 585) hx hb dL_law_339 (by decide) (fun _ => ?_) (fun c9 => absurd rfl c9)
      exact back x y hR1 _ _ _ _ hvX hvM hPX hPM hS
    rcases Decidable.em (op = 9) with k9 | k9
    · refine lv_tableIn (off := 312) (tgt := 344) hx hb dL_law_32 (by rw [k9]; decide) (by rw [k9]; decide) (by rw [k9]; rfl) (by decide) ?_
      obtain ⟨v, hF3, hF4, hR1⟩ := Sims.refutation hsim x y hR 
      refine lv_aload_n hx hb dL_law_344 rfl (lv_at hl 1 rfl) ?_
      refine k2_i hS hAX hdM hPM (va_runV (As := []) (rest := []) ⟨hx, hb, hml, hown, hts⟩ (c_X3_refutation l g LX hLX GX ad x hvX  v hF3) (cwV 0 hts gL_law_X3_refutation rfl rfl rfl (by decide +kernel) ⟨Nat.le_of_ble_eq_true rfl, Nat.le_of_ble_eq_true rfl⟩) (k2_pre hC hAX hS hPX (vX.m hvX 0 (by omega)) (vX.o0 hvX) rfl) rfl rfl hl.1 rfl (lv_room (Nat.le_of_ble_eq_true rfl)) dL_law_345 ⟨Nat.le_refl _, Nat.le_refl _⟩) (fun G1 H locs hq hPX hPM hS => ?_)
      have hvX := hq ▸ hvX
      refine lv_aload_n hx hb dL_law_348 rfl (lv_at hl 2 rfl) ?_
      refine k2_i hS hAM hdX hPX (va_runV (As := []) (rest := [.int v]) ⟨hx, hb, hml, hown, hts⟩ (c_X4_refutation l g LM hLM GM ma mr y hvM  v hF4) (cwV 0 hts gL_law_X4_refutation rfl rfl rfl (by decide +kernel) ⟨Nat.le_of_ble_eq_true rfl, Nat.le_of_ble_eq_true rfl⟩) (k2_pre hC hAM hS hPM (vO.m hvM) (vO.o hvM) rfl) rfl rfl hl.1 rfl (lv_room (Nat.le_of_ble_eq_true rfl)) dL_law_349 ⟨Nat.le_refl _, Nat.le_refl _⟩) (fun G2 H locs hq hPM hPX hS => ?_)
      have hvM := hq ▸ hvM
      refine lv_icmp_eq (tgt := 585) hx hb dL_law_352 (by decide) (fun _ => ?_) (fun c9 => absurd rfl c9)
      exact back x y hR1 _ _ _ _ hvX hvM hPX hPM hS
    rcases Decidable.em (op = 10) with k10 | k10
    · refine lv_tableIn (off := 325) (tgt := 357) hx hb dL_law_32 (by rw [k10]; decide) (by rw [k10]; decide) (by rw [k10]; rfl) (by decide) ?_
      obtain ⟨v, hF3, hF4, hR1⟩ := Sims.models hsim x y hR 
      refine lv_aload_n hx hb dL_law_357 rfl (lv_at hl 1 rfl) ?_
      refine k2_i hS hAX hdM hPM (va_runV (As := []) (rest := []) ⟨hx, hb, hml, hown, hts⟩ (c_X3_models l g LX hLX GX ad x hvX  v hF3) (cwV 0 hts gL_law_X3_models rfl rfl rfl (by decide +kernel) ⟨Nat.le_of_ble_eq_true rfl, Nat.le_of_ble_eq_true rfl⟩) (k2_pre hC hAX hS hPX (vX.m hvX 0 (by omega)) (vX.o0 hvX) rfl) rfl rfl hl.1 rfl (lv_room (Nat.le_of_ble_eq_true rfl)) dL_law_358 ⟨Nat.le_refl _, Nat.le_refl _⟩) (fun G1 H locs hq hPX hPM hS => ?_)
      have hvX := hq ▸ hvX
      refine lv_aload_n hx hb dL_law_361 rfl (lv_at hl 2 rfl) ?_
      refine k2_i hS hAM hdX hPX (va_runV (As := []) (rest := [.int v]) ⟨hx, hb, hml, hown, hts⟩ (c_X4_models l g LM hLM GM ma mr y hvM  v hF4) (cwV 0 hts gL_law_X4_models rfl rfl rfl (by decide +kernel) ⟨Nat.le_of_ble_eq_true rfl, Nat.le_of_ble_eq_true rfl⟩) (k2_pre hC hAM hS hPM (vO.m hvM) (vO.o hvM) rfl) rfl rfl hl.1 rfl (lv_room (Nat.le_of_ble_eq_true rfl)) dL_law_362 ⟨Nat.le_refl _, Nat.le_refl _⟩) (fun G2 H locs hq hPM hPX hS => ?_)
      have hvM := hq ▸ hvM
      refine lv_icmp_eq (tgt := 585) hx hb dL_law_365 (by decide) (fun _ => ?_) (fun c9 => absurd rfl c9)
      exact back x y hR1 _ _ _ _ hvX hvM hPX hPM hS
    rcases Decidable.em (op = 11) with k11 | k11
    · refine lv_tableIn (off := 338) (tgt := 370) hx hb dL_law_32 (by rw [k11]; decide) (by rw [k11]; decide) (by rw [k11]; rfl) (by decide) ?_
      obtain ⟨v, hF3, hF4, hR1⟩ := Sims.model hsim x y hR (xs (x3 + 1).toNatClampNeg)
      refine lv_aload_n hx hb dL_law_370 rfl (lv_at hl 1 rfl) ?_
      refine lv_aload_n hx hb dL_law_371 rfl (lv_at hl 0 rfl) ?_
      refine lv_iload_n hx hb dL_law_372 rfl (lv_at hl 3 rfl) ?_
      refine lv_iconst (v := 1) hx hb dL_law_373 (by decide) ?_
      refine lv_iadd hx hb dL_law_374 ?_
      refine va_sld hx hb hX0 hbl hbA hS b1 dL_law_375 ?_
      refine k2_i hS hAX hdM hPM (va_runV (As := [.int (xs (x3 + 1).toNatClampNeg)]) (rest := []) ⟨hx, hb, hml, hown, hts⟩ (c_X3_model l g LX hLX GX ad x hvX (xs (x3 + 1).toNatClampNeg) v hF3) (cwV 1 hts gL_law_X3_model rfl rfl rfl (by decide +kernel) ⟨Nat.le_of_ble_eq_true rfl, Nat.le_of_ble_eq_true rfl⟩) (k2_pre hC hAX hS hPX (vX.m hvX 0 (by omega)) (vX.o0 hvX) rfl) rfl rfl hl.1 rfl (lv_room (Nat.le_of_ble_eq_true rfl)) dL_law_376 ⟨Nat.le_refl _, Nat.le_refl _⟩) (fun G1 H locs hq hPX hPM hS => ?_)
      have hvX := hq ▸ hvX
      refine lv_aload_n hx hb dL_law_379 rfl (lv_at hl 2 rfl) ?_
      refine lv_aload_n hx hb dL_law_380 rfl (lv_at hl 0 rfl) ?_
      refine lv_iload_n hx hb dL_law_381 rfl (lv_at hl 3 rfl) ?_
      refine lv_iconst (v := 1) hx hb dL_law_382 (by decide) ?_
      refine lv_iadd hx hb dL_law_383 ?_
      refine va_sld hx hb hX0 hbl hbA hS b1 dL_law_384 ?_
      refine k2_i hS hAM hdX hPX (va_runV (As := [.int (xs (x3 + 1).toNatClampNeg)]) (rest := [.int v]) ⟨hx, hb, hml, hown, hts⟩ (c_X4_model l g LM hLM GM ma mr y hvM (xs (x3 + 1).toNatClampNeg) v hF4) (cwV 1 hts gL_law_X4_model rfl rfl rfl (by decide +kernel) ⟨Nat.le_of_ble_eq_true rfl, Nat.le_of_ble_eq_true rfl⟩) (k2_pre hC hAM hS hPM (vO.m hvM) (vO.o hvM) rfl) rfl rfl hl.1 rfl (lv_room (Nat.le_of_ble_eq_true rfl)) dL_law_385 ⟨Nat.le_refl _, Nat.le_refl _⟩) (fun G2 H locs hq hPM hPX hS => ?_)
      have hvM := hq ▸ hvM
      refine lv_icmp_eq (tgt := 585) hx hb dL_law_388 (by decide) (fun _ => ?_) (fun c9 => absurd rfl c9)
      exact back x y hR1 _ _ _ _ hvX hvM hPX hPM hS
    rcases Decidable.em (op = 12) with k12 | k12
    · refine lv_tableIn (off := 361) (tgt := 393) hx hb dL_law_32 (by rw [k12]; decide) (by rw [k12]; decide) (by rw [k12]; rfl) (by decide) ?_
      obtain ⟨v, hF3, hF4, hR1⟩ := Sims.broken hsim x y hR (xs (x3 + 1).toNatClampNeg)
      refine lv_aload_n hx hb dL_law_393 rfl (lv_at hl 1 rfl) ?_
      refine lv_aload_n hx hb dL_law_394 rfl (lv_at hl 0 rfl) ?_
      refine lv_iload_n hx hb dL_law_395 rfl (lv_at hl 3 rfl) ?_
      refine lv_iconst (v := 1) hx hb dL_law_396 (by decide) ?_
      refine lv_iadd hx hb dL_law_397 ?_
      refine va_sld hx hb hX0 hbl hbA hS b1 dL_law_398 ?_
      refine k2_l hS hAX hdM hPM (va_runV (As := [.int (xs (x3 + 1).toNatClampNeg)]) (rest := []) ⟨hx, hb, hml, hown, hts⟩ (c_X3_broken l g LX hLX GX ad x hvX (xs (x3 + 1).toNatClampNeg) v hF3) (cwV 1 hts gL_law_X3_broken rfl rfl rfl (by decide +kernel) ⟨Nat.le_of_ble_eq_true rfl, Nat.le_of_ble_eq_true rfl⟩) (k2_pre hC hAX hS hPX (vX.m hvX 0 (by omega)) (vX.o0 hvX) rfl) rfl rfl hl.1 rfl (lv_room (Nat.le_of_ble_eq_true rfl)) dL_law_399 ⟨Nat.le_refl _, Nat.le_refl _⟩) (fun G1 H locs hq hPX hPM hS => ?_)
      have hvX := hq ▸ hvX
      refine lv_aload_n hx hb dL_law_402 rfl (lv_at hl 2 rfl) ?_
      refine lv_aload_n hx hb dL_law_403 rfl (lv_at hl 0 rfl) ?_
      refine lv_iload_n hx hb dL_law_404 rfl (lv_at hl 3 rfl) ?_
      refine lv_iconst (v := 1) hx hb dL_law_405 (by decide) ?_
      refine lv_iadd hx hb dL_law_406 ?_
      refine va_sld hx hb hX0 hbl hbA hS b1 dL_law_407 ?_
      refine k2_l hS hAM hdX hPX (va_runV (As := [.int (xs (x3 + 1).toNatClampNeg)]) (rest := [.long v]) ⟨hx, hb, hml, hown, hts⟩ (c_X4_broken l g LM hLM GM ma mr y hvM (xs (x3 + 1).toNatClampNeg) v hF4) (cwV 1 hts gL_law_X4_broken rfl rfl rfl (by decide +kernel) ⟨Nat.le_of_ble_eq_true rfl, Nat.le_of_ble_eq_true rfl⟩) (k2_pre hC hAM hS hPM (vO.m hvM) (vO.o hvM) rfl) rfl rfl hl.1 rfl (lv_room (Nat.le_of_ble_eq_true rfl)) dL_law_408 ⟨Nat.le_refl _, Nat.le_refl _⟩) (fun G2 H locs hq hPM hPX hS => ?_)
      have hvM := hq ▸ hvM
      refine W.lcmp hx hb dL_law_411 ?_
      refine lv_if_eq (tgt := 585) hx hb dL_law_412 (by decide) (fun _ => ?_) (fun c9 => absurd (lg_self v) c9)
      exact back x y hR1 _ _ _ _ hvX hvM hPX hPM hS
    rcases Decidable.em (op = 13) with k13 | k13
    · refine lv_tableIn (off := 385) (tgt := 417) hx hb dL_law_32 (by rw [k13]; decide) (by rw [k13]; decide) (by rw [k13]; rfl) (by decide) ?_
      obtain ⟨v, hF3, hF4, hR1⟩ := Sims.core hsim x y hR 
      refine lv_aload_n hx hb dL_law_417 rfl (lv_at hl 1 rfl) ?_
      refine k2_l hS hAX hdM hPM (va_runV (As := []) (rest := []) ⟨hx, hb, hml, hown, hts⟩ (c_X3_core l g LX hLX GX ad x hvX  v hF3) (cwV 0 hts gL_law_X3_core rfl rfl rfl (by decide +kernel) ⟨Nat.le_of_ble_eq_true rfl, Nat.le_of_ble_eq_true rfl⟩) (k2_pre hC hAX hS hPX (vX.m hvX 0 (by omega)) (vX.o0 hvX) rfl) rfl rfl hl.1 rfl (lv_room (Nat.le_of_ble_eq_true rfl)) dL_law_418 ⟨Nat.le_refl _, Nat.le_refl _⟩) (fun G1 H locs hq hPX hPM hS => ?_)
      have hvX := hq ▸ hvX
      refine lv_aload_n hx hb dL_law_421 rfl (lv_at hl 2 rfl) ?_
      refine k2_l hS hAM hdX hPX (va_runV (As := []) (rest := [.long v]) ⟨hx, hb, hml, hown, hts⟩ (c_X4_core l g LM hLM GM ma mr y hvM  v hF4) (cwV 0 hts gL_law_X4_core rfl rfl rfl (by decide +kernel) ⟨Nat.le_of_ble_eq_true rfl, Nat.le_of_ble_eq_true rfl⟩) (k2_pre hC hAM hS hPM (vO.m hvM) (vO.o hvM) rfl) rfl rfl hl.1 rfl (lv_room (Nat.le_of_ble_eq_true rfl)) dL_law_422 ⟨Nat.le_refl _, Nat.le_refl _⟩) (fun G2 H locs hq hPM hPX hS => ?_)
      have hvM := hq ▸ hvM
      refine W.lcmp hx hb dL_law_425 ?_
      refine lv_if_eq (tgt := 585) hx hb dL_law_426 (by decide) (fun _ => ?_) (fun c9 => absurd (lg_self v) c9)
      exact back x y hR1 _ _ _ _ hvX hvM hPX hPM hS
    rcases Decidable.em (op = 14) with k14 | k14
    · refine lv_tableIn (off := 399) (tgt := 431) hx hb dL_law_32 (by rw [k14]; decide) (by rw [k14]; decide) (by rw [k14]; rfl) (by decide) ?_
      obtain ⟨v, hF3, hF4, hR1⟩ := Sims.follows hsim x y hR (xs (x3 + 1).toNatClampNeg)
      refine lv_aload_n hx hb dL_law_431 rfl (lv_at hl 1 rfl) ?_
      refine lv_aload_n hx hb dL_law_432 rfl (lv_at hl 0 rfl) ?_
      refine lv_iload_n hx hb dL_law_433 rfl (lv_at hl 3 rfl) ?_
      refine lv_iconst (v := 1) hx hb dL_law_434 (by decide) ?_
      refine lv_iadd hx hb dL_law_435 ?_
      refine va_sld hx hb hX0 hbl hbA hS b1 dL_law_436 ?_
      refine k2_i hS hAX hdM hPM (va_runV (As := [.int (xs (x3 + 1).toNatClampNeg)]) (rest := []) ⟨hx, hb, hml, hown, hts⟩ (c_X3_follows l g LX hLX GX ad x hvX (xs (x3 + 1).toNatClampNeg) v hF3) (cwV 1 hts gL_law_X3_follows rfl rfl rfl (by decide +kernel) ⟨Nat.le_of_ble_eq_true rfl, Nat.le_of_ble_eq_true rfl⟩) (k2_pre hC hAX hS hPX (vX.m hvX 0 (by omega)) (vX.o0 hvX) rfl) rfl rfl hl.1 rfl (lv_room (Nat.le_of_ble_eq_true rfl)) dL_law_437 ⟨Nat.le_refl _, Nat.le_refl _⟩) (fun G1 H locs hq hPX hPM hS => ?_)
      have hvX := hq ▸ hvX
      refine lv_aload_n hx hb dL_law_440 rfl (lv_at hl 2 rfl) ?_
      refine lv_aload_n hx hb dL_law_441 rfl (lv_at hl 0 rfl) ?_
      refine lv_iload_n hx hb dL_law_442 rfl (lv_at hl 3 rfl) ?_
      refine lv_iconst (v := 1) hx hb dL_law_443 (by decide) ?_
      refine lv_iadd hx hb dL_law_444 ?_
      refine va_sld hx hb hX0 hbl hbA hS b1 dL_law_445 ?_
      refine k2_i hS hAM hdX hPX (va_runV (As := [.int (xs (x3 + 1).toNatClampNeg)]) (rest := [.int v]) ⟨hx, hb, hml, hown, hts⟩ (c_X4_follows l g LM hLM GM ma mr y hvM (xs (x3 + 1).toNatClampNeg) v hF4) (cwV 1 hts gL_law_X4_follows rfl rfl rfl (by decide +kernel) ⟨Nat.le_of_ble_eq_true rfl, Nat.le_of_ble_eq_true rfl⟩) (k2_pre hC hAM hS hPM (vO.m hvM) (vO.o hvM) rfl) rfl rfl hl.1 rfl (lv_room (Nat.le_of_ble_eq_true rfl)) dL_law_446 ⟨Nat.le_refl _, Nat.le_refl _⟩) (fun G2 H locs hq hPM hPX hS => ?_)
      have hvM := hq ▸ hvM
      refine lv_icmp_eq (tgt := 585) hx hb dL_law_449 (by decide) (fun _ => ?_) (fun c9 => absurd rfl c9)
      exact back x y hR1 _ _ _ _ hvX hvM hPX hPM hS
    rcases Decidable.em (op = 15) with k15 | k15
    · refine lv_tableIn (off := 422) (tgt := 454) hx hb dL_law_32 (by rw [k15]; decide) (by rw [k15]; decide) (by rw [k15]; rfl) (by decide) ?_
      obtain ⟨v, hF3, hF4, hR1⟩ := Sims.share hsim x y hR (xs (x3 + 1).toNatClampNeg)
      refine lv_aload_n hx hb dL_law_454 rfl (lv_at hl 1 rfl) ?_
      refine lv_aload_n hx hb dL_law_455 rfl (lv_at hl 0 rfl) ?_
      refine lv_iload_n hx hb dL_law_456 rfl (lv_at hl 3 rfl) ?_
      refine lv_iconst (v := 1) hx hb dL_law_457 (by decide) ?_
      refine lv_iadd hx hb dL_law_458 ?_
      refine va_sld hx hb hX0 hbl hbA hS b1 dL_law_459 ?_
      refine k2_i hS hAX hdM hPM (va_runV (As := [.int (xs (x3 + 1).toNatClampNeg)]) (rest := []) ⟨hx, hb, hml, hown, hts⟩ (c_X3_share l g LX hLX GX ad x hvX (xs (x3 + 1).toNatClampNeg) v hF3) (cwV 1 hts gL_law_X3_share rfl rfl rfl (by decide +kernel) ⟨Nat.le_of_ble_eq_true rfl, Nat.le_of_ble_eq_true rfl⟩) (k2_pre hC hAX hS hPX (vX.m hvX 0 (by omega)) (vX.o0 hvX) rfl) rfl rfl hl.1 rfl (lv_room (Nat.le_of_ble_eq_true rfl)) dL_law_460 ⟨Nat.le_refl _, Nat.le_refl _⟩) (fun G1 H locs hq hPX hPM hS => ?_)
      have hvX := hq ▸ hvX
      refine lv_aload_n hx hb dL_law_463 rfl (lv_at hl 2 rfl) ?_
      refine lv_aload_n hx hb dL_law_464 rfl (lv_at hl 0 rfl) ?_
      refine lv_iload_n hx hb dL_law_465 rfl (lv_at hl 3 rfl) ?_
      refine lv_iconst (v := 1) hx hb dL_law_466 (by decide) ?_
      refine lv_iadd hx hb dL_law_467 ?_
      refine va_sld hx hb hX0 hbl hbA hS b1 dL_law_468 ?_
      refine k2_i hS hAM hdX hPX (va_runV (As := [.int (xs (x3 + 1).toNatClampNeg)]) (rest := [.int v]) ⟨hx, hb, hml, hown, hts⟩ (c_X4_share l g LM hLM GM ma mr y hvM (xs (x3 + 1).toNatClampNeg) v hF4) (cwV 1 hts gL_law_X4_share rfl rfl rfl (by decide +kernel) ⟨Nat.le_of_ble_eq_true rfl, Nat.le_of_ble_eq_true rfl⟩) (k2_pre hC hAM hS hPM (vO.m hvM) (vO.o hvM) rfl) rfl rfl hl.1 rfl (lv_room (Nat.le_of_ble_eq_true rfl)) dL_law_469 ⟨Nat.le_refl _, Nat.le_refl _⟩) (fun G2 H locs hq hPM hPX hS => ?_)
      have hvM := hq ▸ hvM
      refine lv_icmp_eq (tgt := 585) hx hb dL_law_472 (by decide) (fun _ => ?_) (fun c9 => absurd rfl c9)
      exact back x y hR1 _ _ _ _ hvX hvM hPX hPM hS
    rcases Decidable.em (op = 16) with k16 | k16
    · refine lv_tableIn (off := 445) (tgt := 477) hx hb dL_law_32 (by rw [k16]; decide) (by rw [k16]; decide) (by rw [k16]; rfl) (by decide) ?_
      obtain ⟨v, hF3, hF4, hR1⟩ := Sims.count hsim x y hR (xs (x3 + 1).toNatClampNeg)
      refine lv_aload_n hx hb dL_law_477 rfl (lv_at hl 1 rfl) ?_
      refine lv_aload_n hx hb dL_law_478 rfl (lv_at hl 0 rfl) ?_
      refine lv_iload_n hx hb dL_law_479 rfl (lv_at hl 3 rfl) ?_
      refine lv_iconst (v := 1) hx hb dL_law_480 (by decide) ?_
      refine lv_iadd hx hb dL_law_481 ?_
      refine va_sld hx hb hX0 hbl hbA hS b1 dL_law_482 ?_
      refine k2_i hS hAX hdM hPM (va_runV (As := [.int (xs (x3 + 1).toNatClampNeg)]) (rest := []) ⟨hx, hb, hml, hown, hts⟩ (c_X3_count l g LX hLX GX ad x hvX (xs (x3 + 1).toNatClampNeg) v hF3) (cwV 1 hts gL_law_X3_count rfl rfl rfl (by decide +kernel) ⟨Nat.le_of_ble_eq_true rfl, Nat.le_of_ble_eq_true rfl⟩) (k2_pre hC hAX hS hPX (vX.m hvX 0 (by omega)) (vX.o0 hvX) rfl) rfl rfl hl.1 rfl (lv_room (Nat.le_of_ble_eq_true rfl)) dL_law_483 ⟨Nat.le_refl _, Nat.le_refl _⟩) (fun G1 H locs hq hPX hPM hS => ?_)
      have hvX := hq ▸ hvX
      refine lv_aload_n hx hb dL_law_486 rfl (lv_at hl 2 rfl) ?_
      refine lv_aload_n hx hb dL_law_487 rfl (lv_at hl 0 rfl) ?_
      refine lv_iload_n hx hb dL_law_488 rfl (lv_at hl 3 rfl) ?_
      refine lv_iconst (v := 1) hx hb dL_law_489 (by decide) ?_
      refine lv_iadd hx hb dL_law_490 ?_
      refine va_sld hx hb hX0 hbl hbA hS b1 dL_law_491 ?_
      refine k2_i hS hAM hdX hPX (va_runV (As := [.int (xs (x3 + 1).toNatClampNeg)]) (rest := [.int v]) ⟨hx, hb, hml, hown, hts⟩ (c_X4_count l g LM hLM GM ma mr y hvM (xs (x3 + 1).toNatClampNeg) v hF4) (cwV 1 hts gL_law_X4_count rfl rfl rfl (by decide +kernel) ⟨Nat.le_of_ble_eq_true rfl, Nat.le_of_ble_eq_true rfl⟩) (k2_pre hC hAM hS hPM (vO.m hvM) (vO.o hvM) rfl) rfl rfl hl.1 rfl (lv_room (Nat.le_of_ble_eq_true rfl)) dL_law_492 ⟨Nat.le_refl _, Nat.le_refl _⟩) (fun G2 H locs hq hPM hPX hS => ?_)
      have hvM := hq ▸ hvM
      refine lv_icmp_eq (tgt := 585) hx hb dL_law_495 (by decide) (fun _ => ?_) (fun c9 => absurd rfl c9)
      exact back x y hR1 _ _ _ _ hvX hvM hPX hPM hS
    rcases Decidable.em (op = 17) with k17 | k17
    · refine lv_tableIn (off := 468) (tgt := 500) hx hb dL_law_32 (by rw [k17]; decide) (by rw [k17]; decide) (by rw [k17]; rfl) (by decide) ?_
      obtain ⟨v, x1, y1, hF3, hF4, hR1⟩ := Sims.undo hsim x y hR 
      refine lv_aload_n hx hb dL_law_500 rfl (lv_at hl 1 rfl) ?_
      refine k2_i hS hAX hdM hPM (va_runV (As := []) (rest := []) ⟨hx, hb, hml, hown, hts⟩ (c_X3_undo l g LX hLX GX ad x hvX  v x1 hF3) (cwV 0 hts gL_law_X3_undo rfl rfl rfl (by decide +kernel) ⟨Nat.le_of_ble_eq_true rfl, Nat.le_of_ble_eq_true rfl⟩) (k2_pre hC hAX hS hPX (vX.m hvX 0 (by omega)) (vX.o0 hvX) rfl) rfl rfl hl.1 rfl (lv_room (Nat.le_of_ble_eq_true rfl)) dL_law_501 ⟨Nat.le_refl _, Nat.le_refl _⟩) (fun G1 H locs hq hPX hPM hS => ?_)
      have hvX := hq
      refine lv_aload_n hx hb dL_law_504 rfl (lv_at hl 2 rfl) ?_
      refine k2_i hS hAM hdX hPX (va_runV (As := []) (rest := [.int v]) ⟨hx, hb, hml, hown, hts⟩ (c_X4_undo l g LM hLM GM ma mr y hvM  v y1 hF4) (cwV 0 hts gL_law_X4_undo rfl rfl rfl (by decide +kernel) ⟨Nat.le_of_ble_eq_true rfl, Nat.le_of_ble_eq_true rfl⟩) (k2_pre hC hAM hS hPM (vO.m hvM) (vO.o hvM) rfl) rfl rfl hl.1 rfl (lv_room (Nat.le_of_ble_eq_true rfl)) dL_law_505 ⟨Nat.le_refl _, Nat.le_refl _⟩) (fun G2 H locs hq hPM hPX hS => ?_)
      have hvM := hq.1
      refine lv_icmp_eq (tgt := 585) hx hb dL_law_508 (by decide) (fun _ => ?_) (fun c9 => absurd rfl c9)
      exact back x1 y1 hR1 _ _ _ _ hvX hvM hPX hPM hS
    rcases Decidable.em (op = 18) with k18 | k18
    · refine lv_tableIn (off := 481) (tgt := 513) hx hb dL_law_32 (by rw [k18]; decide) (by rw [k18]; decide) (by rw [k18]; rfl) (by decide) ?_
      obtain ⟨v, x1, y1, hF3, hF4, hR1⟩ := Sims.type hsim x y hR (xs (x3 + 1).toNatClampNeg)
      refine lv_aload_n hx hb dL_law_513 rfl (lv_at hl 1 rfl) ?_
      refine lv_aload_n hx hb dL_law_514 rfl (lv_at hl 0 rfl) ?_
      refine lv_iload_n hx hb dL_law_515 rfl (lv_at hl 3 rfl) ?_
      refine lv_iconst (v := 1) hx hb dL_law_516 (by decide) ?_
      refine lv_iadd hx hb dL_law_517 ?_
      refine va_sld hx hb hX0 hbl hbA hS b1 dL_law_518 ?_
      refine k2_i hS hAX hdM hPM (va_runV (As := [.int (xs (x3 + 1).toNatClampNeg)]) (rest := []) ⟨hx, hb, hml, hown, hts⟩ (c_X3_type l g LX hLX GX ad x hvX (xs (x3 + 1).toNatClampNeg) v x1 hF3) (cwV 1 hts gL_law_X3_type rfl rfl rfl (by decide +kernel) ⟨Nat.le_of_ble_eq_true rfl, Nat.le_of_ble_eq_true rfl⟩) (k2_pre hC hAX hS hPX (vX.m hvX 0 (by omega)) (vX.o0 hvX) rfl) rfl rfl hl.1 rfl (lv_room (Nat.le_of_ble_eq_true rfl)) dL_law_519 ⟨Nat.le_refl _, Nat.le_refl _⟩) (fun G1 H locs hq hPX hPM hS => ?_)
      have hvX := hq
      refine lv_aload_n hx hb dL_law_522 rfl (lv_at hl 2 rfl) ?_
      refine lv_aload_n hx hb dL_law_523 rfl (lv_at hl 0 rfl) ?_
      refine lv_iload_n hx hb dL_law_524 rfl (lv_at hl 3 rfl) ?_
      refine lv_iconst (v := 1) hx hb dL_law_525 (by decide) ?_
      refine lv_iadd hx hb dL_law_526 ?_
      refine va_sld hx hb hX0 hbl hbA hS b1 dL_law_527 ?_
      refine k2_i hS hAM hdX hPX (va_runV (As := [.int (xs (x3 + 1).toNatClampNeg)]) (rest := [.int v]) ⟨hx, hb, hml, hown, hts⟩ (c_X4_type l g LM hLM GM ma mr y hvM (xs (x3 + 1).toNatClampNeg) v y1 hF4) (cwV 1 hts gL_law_X4_type rfl rfl rfl (by decide +kernel) ⟨Nat.le_of_ble_eq_true rfl, Nat.le_of_ble_eq_true rfl⟩) (k2_pre hC hAM hS hPM (vO.m hvM) (vO.o hvM) rfl) rfl rfl hl.1 rfl (lv_room (Nat.le_of_ble_eq_true rfl)) dL_law_528 ⟨Nat.le_refl _, Nat.le_refl _⟩) (fun G2 H locs hq hPM hPX hS => ?_)
      have hvM := hq.1
      refine lv_icmp_eq (tgt := 585) hx hb dL_law_531 (by decide) (fun _ => ?_) (fun c9 => absurd rfl c9)
      exact back x1 y1 hR1 _ _ _ _ hvX hvM hPX hPM hS
    rcases Decidable.em (op = 19) with k19 | k19
    · refine lv_tableIn (off := 504) (tgt := 536) hx hb dL_law_32 (by rw [k19]; decide) (by rw [k19]; decide) (by rw [k19]; rfl) (by decide) ?_
      obtain ⟨v, x1, y1, hF3, hF4, hR1⟩ := Sims.clearText hsim x y hR 
      refine lv_aload_n hx hb dL_law_536 rfl (lv_at hl 1 rfl) ?_
      refine k2_i hS hAX hdM hPM (va_runV (As := []) (rest := []) ⟨hx, hb, hml, hown, hts⟩ (c_X3_clearText l g LX hLX GX ad x hvX  v x1 hF3) (cwV 0 hts gL_law_X3_clearText rfl rfl rfl (by decide +kernel) ⟨Nat.le_of_ble_eq_true rfl, Nat.le_of_ble_eq_true rfl⟩) (k2_pre hC hAX hS hPX (vX.m hvX 0 (by omega)) (vX.o0 hvX) rfl) rfl rfl hl.1 rfl (lv_room (Nat.le_of_ble_eq_true rfl)) dL_law_537 ⟨Nat.le_refl _, Nat.le_refl _⟩) (fun G1 H locs hq hPX hPM hS => ?_)
      have hvX := hq
      refine lv_aload_n hx hb dL_law_540 rfl (lv_at hl 2 rfl) ?_
      refine k2_i hS hAM hdX hPX (va_runV (As := []) (rest := [.int v]) ⟨hx, hb, hml, hown, hts⟩ (c_X4_clearText l g LM hLM GM ma mr y hvM  v y1 hF4) (cwV 0 hts gL_law_X4_clearText rfl rfl rfl (by decide +kernel) ⟨Nat.le_of_ble_eq_true rfl, Nat.le_of_ble_eq_true rfl⟩) (k2_pre hC hAM hS hPM (vO.m hvM) (vO.o hvM) rfl) rfl rfl hl.1 rfl (lv_room (Nat.le_of_ble_eq_true rfl)) dL_law_541 ⟨Nat.le_refl _, Nat.le_refl _⟩) (fun G2 H locs hq hPM hPX hS => ?_)
      have hvM := hq.1
      refine lv_icmp_eq (tgt := 585) hx hb dL_law_544 (by decide) (fun _ => ?_) (fun c9 => absurd rfl c9)
      exact back x1 y1 hR1 _ _ _ _ hvX hvM hPX hPM hS
    rcases Decidable.em (op = 20) with k20 | k20
    · refine lv_tableIn (off := 517) (tgt := 549) hx hb dL_law_32 (by rw [k20]; decide) (by rw [k20]; decide) (by rw [k20]; rfl) (by decide) ?_
      obtain ⟨v, y1, hF3, hF4, hR1⟩ := Sims.fault hsim x y hR (xs (x3 + 1).toNatClampNeg)
      refine lv_aload_n hx hb dL_law_549 rfl (lv_at hl 1 rfl) ?_
      refine lv_aload_n hx hb dL_law_550 rfl (lv_at hl 0 rfl) ?_
      refine lv_iload_n hx hb dL_law_551 rfl (lv_at hl 3 rfl) ?_
      refine lv_iconst (v := 1) hx hb dL_law_552 (by decide) ?_
      refine lv_iadd hx hb dL_law_553 ?_
      refine va_sld hx hb hX0 hbl hbA hS b1 dL_law_554 ?_
      refine k2_i hS hAX hdM hPM (va_runV (As := [.int (xs (x3 + 1).toNatClampNeg)]) (rest := []) ⟨hx, hb, hml, hown, hts⟩ (c_X3_fault l g LX hLX GX ad x hvX (xs (x3 + 1).toNatClampNeg) v hF3) (cwV 1 hts gL_law_X3_fault rfl rfl rfl (by decide +kernel) ⟨Nat.le_of_ble_eq_true rfl, Nat.le_of_ble_eq_true rfl⟩) (k2_pre hC hAX hS hPX (vX.m hvX 0 (by omega)) (vX.o0 hvX) rfl) rfl rfl hl.1 rfl (lv_room (Nat.le_of_ble_eq_true rfl)) dL_law_555 ⟨Nat.le_refl _, Nat.le_refl _⟩) (fun G1 H locs hq hPX hPM hS => ?_)
      have hvX := hq ▸ hvX
      refine lv_aload_n hx hb dL_law_558 rfl (lv_at hl 2 rfl) ?_
      refine lv_aload_n hx hb dL_law_559 rfl (lv_at hl 0 rfl) ?_
      refine lv_iload_n hx hb dL_law_560 rfl (lv_at hl 3 rfl) ?_
      refine lv_iconst (v := 1) hx hb dL_law_561 (by decide) ?_
      refine lv_iadd hx hb dL_law_562 ?_
      refine va_sld hx hb hX0 hbl hbA hS b1 dL_law_563 ?_
      refine k2_i hS hAM hdX hPX (va_runV (As := [.int (xs (x3 + 1).toNatClampNeg)]) (rest := [.int v]) ⟨hx, hb, hml, hown, hts⟩ (c_X4_fault l g LM hLM GM ma mr y hvM (xs (x3 + 1).toNatClampNeg) v y1 hF4) (cwV 1 hts gL_law_X4_fault rfl rfl rfl (by decide +kernel) ⟨Nat.le_of_ble_eq_true rfl, Nat.le_of_ble_eq_true rfl⟩) (k2_pre hC hAM hS hPM (vO.m hvM) (vO.o hvM) rfl) rfl rfl hl.1 rfl (lv_room (Nat.le_of_ble_eq_true rfl)) dL_law_564 ⟨Nat.le_refl _, Nat.le_refl _⟩) (fun G2 H locs hq hPM hPX hS => ?_)
      have hvM := hq.1
      refine lv_icmp_eq (tgt := 585) hx hb dL_law_567 (by decide) (fun _ => ?_) (fun c9 => absurd rfl c9)
      exact back x y1 hR1 _ _ _ _ hvX hvM hPX hPM hS
    rcases Decidable.em (op = 21) with k21 | k21
    · refine lv_tableIn (off := 540) (tgt := 572) hx hb dL_law_32 (by rw [k21]; decide) (by rw [k21]; decide) (by rw [k21]; rfl) (by decide) ?_
      obtain ⟨v, x1, y1, hF3, hF4, hR1⟩ := Sims.play hsim x y hR 
      refine lv_aload_n hx hb dL_law_572 rfl (lv_at hl 1 rfl) ?_
      refine k2_i hS hAX hdM hPM (va_runV (As := []) (rest := []) ⟨hx, hb, hml, hown, hts⟩ (c_X3_play l g LX hLX GX ad x hvX  v x1 hF3) (cwV 0 hts gL_law_X3_play rfl rfl rfl (by decide +kernel) ⟨Nat.le_of_ble_eq_true rfl, Nat.le_of_ble_eq_true rfl⟩) (k2_pre hC hAX hS hPX (vX.m hvX 0 (by omega)) (vX.o0 hvX) rfl) rfl rfl hl.1 rfl (lv_room (Nat.le_of_ble_eq_true rfl)) dL_law_573 ⟨Nat.le_refl _, Nat.le_refl _⟩) (fun G1 H locs hq hPX hPM hS => ?_)
      have hvX := hq
      refine lv_aload_n hx hb dL_law_576 rfl (lv_at hl 2 rfl) ?_
      refine k2_i hS hAM hdX hPX (va_runV (As := []) (rest := [.int v]) ⟨hx, hb, hml, hown, hts⟩ (c_X4_play l g LM hLM GM ma mr y hvM  v y1 hF4) (cwV 0 hts gL_law_X4_play rfl rfl rfl (by decide +kernel) ⟨Nat.le_of_ble_eq_true rfl, Nat.le_of_ble_eq_true rfl⟩) (k2_pre hC hAM hS hPM (vO.m hvM) (vO.o hvM) rfl) rfl rfl hl.1 rfl (lv_room (Nat.le_of_ble_eq_true rfl)) dL_law_577 ⟨Nat.le_refl _, Nat.le_refl _⟩) (fun G2 H locs hq hPM hPX hS => ?_)
      have hvM := hq.1
      refine lv_icmp_eq (tgt := 585) hx hb dL_law_580 (by decide) (fun _ => ?_) (fun c9 => absurd rfl c9)
      exact back x1 y1 hR1 _ _ _ _ hvX hvM hPX hPM hS
    refine lv_tableOut (tgt := 585) hx hb dL_law_32 (ts_out (n := 22) (by decide) (fun j hj => by rcases (show j = 0 ∨ j = 1 ∨ j = 2 ∨ j = 3 ∨ j = 4 ∨ j = 5 ∨ j = 6 ∨ j = 7 ∨ j = 8 ∨ j = 9 ∨ j = 10 ∨ j = 11 ∨ j = 12 ∨ j = 13 ∨ j = 14 ∨ j = 15 ∨ j = 16 ∨ j = 17 ∨ j = 18 ∨ j = 19 ∨ j = 20 ∨ j = 21 by omega) with rfl | rfl | rfl | rfl | rfl | rfl | rfl | rfl | rfl | rfl | rfl | rfl | rfl | rfl | rfl | rfl | rfl | rfl | rfl | rfl | rfl | rfl <;> first | exact k0 | exact k1 | exact k2 | exact k3 | exact k4 | exact k5 | exact k6 | exact k7 | exact k8 | exact k9 | exact k10 | exact k11 | exact k12 | exact k13 | exact k14 | exact k15 | exact k16 | exact k17 | exact k18 | exact k19 | exact k20 | exact k21)) (by decide) ?_
    exact back x y hR _ _ _ _ hvX hvM hPX hPM hS
set_option maxHeartbeats 16000000 in
set_option maxRecDepth 100000 in
theorem law_start {Rel : XS → St → Prop} (hsim : Sims Rel) (hR0 : Rel xI mdI) {p : Program} {e : Env} {s : State} {m : MethodId} {below : List Frame} {meth : Method} {c : Code} (l : Launch) {b L : Nat} {xs : Nat → Int32} (hL : L ≤ 1536) (C0 : lw_At p s m meth c b L xs) : W p l e room_1 s m #[Value.ref b] below meth c s.heap [] 0 0 (lw_Z below #[Value.ref b] s) (entryFrame m ([Value.ref b] : List Value).toArray 4) := by
  obtain ⟨hx, hb, hr, hml, hown0, hts0, hX0, hbl, hlocks, hgv⟩ := id C0
  have hown : s.vm.findClass RL = some m.cls := hown0
  have hts : ∀ w ∈ wsL_law, w.before #[Value.ref b] s = true := fun w h => hts0 w (wsL_law_in w h)
  have hA9 : ∀ a : Nat, a < s.heap.size → ¬ (fun q : Nat => s.heap.size ≤ q) a := fun a ha q => absurd ha (Nat.not_lt.mpr q)
  obtain ⟨c0, i0, hK0⟩ := u_known (C := RX0) (T := TX0) (N := 2) (n := 2) hts inlX0 (hts (.instantiable RX0 2) (List.mem_of_getElem? (i := 17) rfl))
  obtain ⟨c1, i1, hK1⟩ := u_known (C := RX1) (T := TX1) (N := 13) (n := 13) hts inlX1 (hts (.instantiable RX1 13) (List.mem_of_getElem? (i := 13) rfl))
  obtain ⟨c2, i2, hK2⟩ := u_known (C := RX2) (T := TX2) (N := 2) (n := 2) hts inlX2 (hts (.instantiable RX2 2) (List.mem_of_getElem? (i := 21) rfl))
  obtain ⟨c3, i3, hK3⟩ := u_known (C := RX3) (T := TX3) (N := 3) (n := 3) hts inlX3 (hts (.instantiable RX3 3) (List.mem_of_getElem? (i := 1) rfl))
  obtain ⟨c4, i4, hK4⟩ := u_known (C := RX4) (T := TX4) (N := 8) (n := 8) hts inlX4 (hts (.instantiable RX4 8) (List.mem_of_getElem? (i := 4) rfl))
  obtain ⟨cI, kI, pI, f1, f2, f3⟩ := Cond.arrayClass_spec (hts0 _ ai_in)
  obtain ⟨cJ, kJ, pJ, f4, f5, f6⟩ := Cond.arrayClass_spec (hts0 _ aj_in)
  have hAO : va_AO RX1 s := va_AO.of (hts0 _ ao_in)
  obtain ⟨pR, cR, kR, g1, g2, g3, g4, g5⟩ := Cond.arrayOver_spec hAO
  have hflat := flat_of_before _ hgv
  have hz : ∃ t : Nat, (Term.static "OrderedClauses" "VALUES_WITH_ATOM" "[J").eval #[Value.ref b] s none [] s = some (.ref t) ∧ va_T .long t 6 (fun j => .long (tabv j)) (fun q : Nat => s.heap.size ≤ q) s s.heap := by
    refine va_Tof (by decide) (hflat (Cond.arrayOf (Term.static "OrderedClauses" "VALUES_WITH_ATOM" "[J") .long) (by decide +kernel)) (va_eqt (hflat (Cond.eq (.length (Term.static "OrderedClauses" "VALUES_WITH_ATOM" "[J")) (.int 6)) (by decide +kernel))) (fun j hj => ?_) hA9
    rcases (show j = 0 ∨ j = 1 ∨ j = 2 ∨ j = 3 ∨ j = 4 ∨ j = 5 by omega) with rfl | rfl | rfl | rfl | rfl | rfl
    · exact va_eqtl (hflat (Cond.eq (.elem (Term.static "OrderedClauses" "VALUES_WITH_ATOM" "[J") (.int 0)) (.long (-6148914691236517206))) (by decide +kernel))
    · exact va_eqtl (hflat (Cond.eq (.elem (Term.static "OrderedClauses" "VALUES_WITH_ATOM" "[J") (.int 1)) (.long (-3689348814741910324))) (by decide +kernel))
    · exact va_eqtl (hflat (Cond.eq (.elem (Term.static "OrderedClauses" "VALUES_WITH_ATOM" "[J") (.int 2)) (.long (-1085102592571150096))) (by decide +kernel))
    · exact va_eqtl (hflat (Cond.eq (.elem (Term.static "OrderedClauses" "VALUES_WITH_ATOM" "[J") (.int 3)) (.long (-71777214294589696))) (by decide +kernel))
    · exact va_eqtl (hflat (Cond.eq (.elem (Term.static "OrderedClauses" "VALUES_WITH_ATOM" "[J") (.int 4)) (.long (-281470681808896))) (by decide +kernel))
    · exact va_eqtl (hflat (Cond.eq (.elem (Term.static "OrderedClauses" "VALUES_WITH_ATOM" "[J") (.int 5)) (.long (-4294967296))) (by decide +kernel))
  obtain ⟨tb, ht1, hT⟩ := hz
  have hZ : va_Z "OrderedClauses" "VALUES_WITH_ATOM" "[J" (.ref tb) (fun q : Nat => s.heap.size ≤ q) s s.heap := va_Zof (hts0 _ ls_in) (hts0 _ in3_in) ht1 hA9
  obtain ⟨g, hg⟩ : ∃ g : Gm, g = ((fun k => if k = 0 then c0 else if k = 1 then c1 else if k = 2 then c2 else if k = 3 then c3 else c4, fun k => if k = 0 then i0 else if k = 1 then i1 else if k = 2 then i2 else if k = 3 then i3 else i4), (cI, cJ, cR), tb) := ⟨_, rfl⟩
  have hK : va_K g.1 vwCl (tyl g) s := by
    rw [hg]
    refine ⟨fun k q hq => ?_, fun k q hq => ?_⟩
    · match k, hq with
      | 0, hq => cases hq; exact hK0
      | 1, hq => cases hq; exact hK1
      | 2, hq => cases hq; exact hK2
      | 3, hq => cases hq; exact hK3
      | 4, hq => cases hq; exact hK4
      | k + 5, hq => simp [vwCl] at hq
    · match k, hq with
      | 0, hq => cases hq; exact ⟨fun n z => ⟨fun k h => (by cases h), kI, f2, pI, f3⟩, f1⟩
      | 1, hq => cases hq; exact ⟨fun n z => ⟨fun k h => (by cases h), kJ, f5, pJ, f6⟩, f4⟩
      | 2, hq => cases hq; exact ⟨fun n z => ⟨fun k h => (by cases h), kR, g3, pR, g4⟩, kR, pR, g3, g4, g1, g5⟩
      | k + 3, hq => simp [tyl] at hq
  have hN : nst s := ⟨fun q hq => va_Nw.of rfl (hts0 _ (nestF_in q hq)), fun q hq => va_Nw.of rfl (hts0 _ (nestM_in q hq))⟩
  have hC : Cx g (fun q : Nat => s.heap.size ≤ q) s s.heap := ⟨hK, hN, by rw [hg]; exact hZ, by rw [hg]; exact hT⟩
  have hO : kO (fun q : Nat => s.heap.size ≤ q) s := ⟨hAO, fun _ h => h⟩
  have hL0 : kL [] (fun q : Nat => s.heap.size ≤ q) := ⟨List.nodup_nil, fun _ h => absurd h List.not_mem_nil⟩
  have hP : va_P g.1 vwCl (va_pl [] (fun _ => .inr (0, []))) s.heap := fun k q h => by simp [va_pl] at h
  have hS : va_S (fun q : Nat => s.heap.size ≤ q) s.heap s.heap [] := va_S.rf
  have hl := lv_entry ([.ref b]) (n := 4) (Nat.le_of_ble_eq_true rfl)
  rw [lg_entry_eq]
  generalize (lg_sl ([.ref b]) ++ List.replicate (4 - (lg_sl ([.ref b])).length) Slot.unset).toArray = ls at hl ⊢
  have hl : lv_has ls 4 [(0, .ref b)] := hl
  refine n_obj (ci := 3) (fs := [.null, .null, .null]) (C := RX3) (T := TX3) (N := 3) hx hb hts inlX3 tyX3 tyX3_ok hown (hts (.classLink RL 7 RX3) (List.mem_of_getElem? (i := 0) rfl)) (hts (.instantiable RX3 3) (List.mem_of_getElem? (i := 1) rfl)) (hts (.initialized RX3) (List.mem_of_getElem? (i := 2) rfl)) hL0 hC hO hP hS rfl (fun j hj => by rcases (show j = 0 ∨ j = 1 ∨ j = 2 by omega) with rfl | rfl | rfl <;> rfl) (Nat.le_of_ble_eq_true rfl) (Nat.le_of_ble_eq_true rfl) dL_law_0 (fun q3 G3 H hq3 hL3 hG3 hk3 hP hS => ?_)
  refine W.widen (k := 1) (n := 3) (by omega) (by omega) ?_
  refine lv_dup hx hb dL_law_3 rfl ?_
  refine n_init hS (va_runI (As := []) (rest := [.ref q3]) ⟨hx, hb, hml, hown, hts⟩ (c_X3_init l g ([] ++ [q3]) hL3 G3 q3 (n_last _ _) hG3) (cwI 0 hts gL_law_X3_init rfl rfl rfl (hts (.initialized RX3) (List.mem_of_getElem? (i := 2) rfl)) (hts (.methodLink RL 9 yX3_init) (List.mem_of_getElem? (i := 6) rfl)) (hts (.instanceMethod yX3_init) (List.mem_of_getElem? (i := 7) rfl)) rfl (by decide +kernel) ⟨Nat.le_of_ble_eq_true rfl, Nat.le_of_ble_eq_true rfl⟩) (k_preO hC hO hS hP) rfl rfl hl.1 rfl (lv_room (Nat.le_of_ble_eq_true rfl)) dL_law_4 ⟨Nat.le_of_ble_eq_true rfl, Nat.le_of_ble_eq_true rfl⟩) (fun L3 G3b H locs hp3 hP hS => ?_)
  refine W.widen (k := 59) (n := 1866) (by omega) (by omega) ?_
  obtain ⟨N3, ad, ha0, e3, hL3b, hvX, hk3b⟩ := hp3
  dsimp only at e3 hL3b hvX hk3b
  refine lv_astore_n (lv' := [(1, .ref q3), (0, .ref b)]) hx hb dL_law_7 rfl hl (by decide) rfl (fun ls hl => ?_)
  refine n_obj (ci := 4) (fs := [.null, .null, .null, .int 0, .null, .int 0, .int 0, .int 0]) (C := RX4) (T := TX4) (N := 8) hx hb hts inlX4 tyX4 tyX4_ok hown (hts (.classLink RL 10 RX4) (List.mem_of_getElem? (i := 3) rfl)) (hts (.instantiable RX4 8) (List.mem_of_getElem? (i := 4) rfl)) (hts (.initialized RX4) (List.mem_of_getElem? (i := 5) rfl)) hL3b hC hO hP hS rfl (fun j hj => by rcases (show j = 0 ∨ j = 1 ∨ j = 2 ∨ j = 3 ∨ j = 4 ∨ j = 5 ∨ j = 6 ∨ j = 7 by omega) with rfl | rfl | rfl | rfl | rfl | rfl | rfl | rfl <;> rfl) (Nat.le_of_ble_eq_true rfl) (Nat.le_of_ble_eq_true rfl) dL_law_8 (fun q4 G4 H hq4 hL4 hG4 hk4 hP hS => ?_)
  refine W.widen (k := 60) (n := 1874) (by omega) (by omega) ?_
  refine lv_dup hx hb dL_law_11 rfl ?_
  refine n_init hS (va_runI (As := []) (rest := [.ref q4]) ⟨hx, hb, hml, hown, hts⟩ (c_X4_init l g (L3 ++ [q4]) hL4 G4 q4 (n_last _ _) hG4) (cwI 0 hts gL_law_X4_init rfl rfl rfl (hts (.initialized RX4) (List.mem_of_getElem? (i := 5) rfl)) (hts (.methodLink RL 12 yX4_init) (List.mem_of_getElem? (i := 55) rfl)) (hts (.instanceMethod yX4_init) (List.mem_of_getElem? (i := 56) rfl)) rfl (by decide +kernel) ⟨Nat.le_of_ble_eq_true rfl, Nat.le_of_ble_eq_true rfl⟩) (k_preO hC hO hS hP) rfl rfl hl.1 rfl (lv_room (Nat.le_of_ble_eq_true rfl)) dL_law_12 ⟨Nat.le_of_ble_eq_true rfl, Nat.le_of_ble_eq_true rfl⟩) (fun L4 G4b H locs hp4 hP hS => ?_)
  refine W.widen (k := 600000) (n := 7302250) (Nat.le_of_ble_eq_true rfl) (Nat.le_of_ble_eq_true rfl) ?_
  obtain ⟨qs, hqs, e4, hL4b, hvM, hk4b⟩ := hp4
  dsimp only at e4 hvM hk4b
  rw [e4] at hP
  refine lv_astore_n (lv' := [(2, .ref q4), (1, .ref q3), (0, .ref b)]) hx hb dL_law_15 rfl hl (by decide) rfl (fun ls hl => ?_)
  refine lv_iconst (v := 0) hx hb dL_law_16 (by decide) ?_
  refine lv_istore_n (lv' := [(3, .int 0), (2, .ref q4), (1, .ref q3), (0, .ref b)]) hx hb dL_law_17 rfl hl (by decide) rfl (fun ls hl => ?_)
  rw [List.append_assoc] at hP hL4b hvM
  have hnd := List.nodup_append.mp hL4b.1
  have hvX2 : vX g L3 G4b ad xI := vX.congr (vX.congr hvX hk4) (fun q hq => hk4b q (n_left q4 hq) (n_ne hq4 hq))
  have hvM2 : vM g ([q4] ++ qs) G4b q4 (rOf qs) mdI := vO.pool hvM (fun q hq => by
    rcases hq with rfl | ⟨j, hj, rfl⟩
    · exact List.mem_append_left _ (List.mem_singleton.mpr rfl)
    · refine List.mem_append_right _ ?_
      unfold rOf
      rw [List.getD_eq_getElem?_getD, List.getElem?_eq_getElem (by omega)]
      exact List.getElem_mem _)
  have hPz := hP
  have hSz := hS
  have hlz := hl
  subst ha0
  exact law_loop hsim hL C0 (LX := L3) (LM := [q4] ++ qs) ⟨hnd.1, fun _ h => h⟩ ⟨hnd.2.1, fun _ h => h⟩ (fun q h h2 => hnd.2.2 q h q h2 rfl) (fun q h h2 => hnd.2.2 q h2 q h rfl) (fun q h => hL4b.2 q (List.mem_append_left _ h)) (fun q h => hL4b.2 q (List.mem_append_right _ h)) hC ad q4 (rOf qs) (L + 4) 0 0 (by omega) (by omega) nI_0.symm xI mdI hR0 _ _ _ _ hvX2 hvM2 (pl_l hPz) (pl_r hPz) hSz ls (lv_sub hlz [3, 2, 1, 0] rfl)
