/-! The whole object: the store in use, the five of the history by their numbers, which of them stands at which place, how many are kept, the text -/
abbrev XS : Type := St × (Nat → St) × (Nat → Nat) × Int32 × St
def sA (ad : Nat → Nat) (p : Nat) : Nat := ad (5 + 9 * p)
def sR (ad : Nat → Nat) (p : Nat) : Nat → Nat := fun j => ad (6 + 9 * p + j)
def tR (ad : Nat → Nat) : Nat → Nat := fun _ => ad 4
/-- the places of the history: which store stands where -/
def rfc (ad : Nat → Nat) (pi : Nat → Nat) : Nat → Option Nat := fun i => if i < 5 then some (sA ad (pi i)) else none
def vX (g : Gm) (L : List Nat) (G : Nat → va_E) (ad : Nat → Nat) (x : XS) : Prop :=
  (∀ i j, i < 59 → j < 59 → ad i = ad j → i = j) ∧ (∀ i, i < 59 → ad i ∈ L) ∧ G (ad 0) = .inr (3, [.ref (sA ad 5), .ref (ad 1), .ref (ad 3)]) ∧ G (ad 1) = .inr (0, [.ref (ad 2), .int x.2.2.2.1]) ∧ G (ad 2) = .inl (gR g, 5, .inr (.inr (.inr (.inr (rfc ad x.2.2.1))))) ∧ vS g L G (sA ad 5) (sR ad 5) x.1 ∧ (∀ p, p < 5 → vS g L G (sA ad p) (sR ad p) (x.2.1 p)) ∧ vT g L G (ad 3) (tR ad) x.2.2.2.2
def oM {β : Type} (q : Option Nat) (b : Option β) (f : Nat → Option β) : Option β := match q with
  | none => b
  | some p => if p < 5 then f p else none
section VX
variable {g : Gm} {L : List Nat} {G G1 : Nat → va_E} {ad : Nat → Nat}
theorem sown {p i : Nat} (inj : ∀ i j, i < 59 → j < 59 → ad i = ad j → i = j) (hp : p < 6) (hi : i < 59) (h : ownS (sA ad p) (sR ad p) 8 (ad i)) : 5 + 9 * p ≤ i ∧ i < 14 + 9 * p := by
  rcases h with h | ⟨j, hj, h⟩
  · have := inj i (5 + 9 * p) hi (by omega) h
    omega
  · have := inj i (6 + 9 * p + j) hi (by omega) h
    omega
theorem sown2 {p q : Nat} (inj : ∀ i j, i < 59 → j < 59 → ad i = ad j → i = j) (hp : p < 6) (hq : q < 6) (hpq : p ≠ q) (a : Nat) (h : ownS (sA ad p) (sR ad p) 8 a) : ¬ ownS (sA ad q) (sR ad q) 8 a := by
  intro h2
  rcases h with rfl | ⟨j, hj, rfl⟩
  · have := sown (i := 5 + 9 * p) inj hq (by omega) h2
    omega
  · have := sown (i := 6 + 9 * p + j) inj hq (by omega) h2
    omega
theorem vX.i {x : XS} (h : vX g L G ad x) : ∀ i j, i < 59 → j < 59 → ad i = ad j → i = j := h.1
theorem vX.m {x : XS} (h : vX g L G ad x) (i : Nat) (hi : i < 59) : ad i ∈ L := h.2.1 i hi
theorem vX.o0 {x : XS} (h : vX g L G ad x) : G (ad 0) = .inr (3, [.ref (sA ad 5), .ref (ad 1), .ref (ad 3)]) := h.2.2.1
theorem vX.o1 {x : XS} (h : vX g L G ad x) : G (ad 1) = .inr (0, [.ref (ad 2), .int x.2.2.2.1]) := h.2.2.2.1
theorem vX.o2 {x : XS} (h : vX g L G ad x) : G (ad 2) = .inl (gR g, 5, .inr (.inr (.inr (.inr (rfc ad x.2.2.1))))) := h.2.2.2.2.1
theorem vX.sm {x : XS} (h : vX g L G ad x) : vS g L G (sA ad 5) (sR ad 5) x.1 := h.2.2.2.2.2.1
theorem vX.sc {x : XS} (h : vX g L G ad x) {p : Nat} (hp : p < 5) : vS g L G (sA ad p) (sR ad p) (x.2.1 p) := h.2.2.2.2.2.2.1 p hp
theorem vX.t {x : XS} (h : vX g L G ad x) : vT g L G (ad 3) (tR ad) x.2.2.2.2 := h.2.2.2.2.2.2.2
theorem vX.apM {x : XS} (h : vX g L G ad x) {p : Nat} (hp : p < 5) : ∀ q, ownS (sA ad p) (sR ad p) 8 q → ¬ ownS (sA ad 5) (sR ad 5) 8 q := fun a => sown2 h.1 (by omega) (by omega) (by omega) a
theorem vX.apC {x : XS} (h : vX g L G ad x) {p : Nat} (hp : p < 5) : ∀ q, ownS (sA ad 5) (sR ad 5) 8 q → ¬ ownS (sA ad p) (sR ad p) 8 q := fun a => sown2 h.1 (by omega) (by omega) (by omega) a
theorem vX.upM {M : St} {C : Nat → St} {pi : Nat → Nat} {k : Int32} {T M1 : St} (h : vX g L G ad (M, C, pi, k, T)) (hV : vS g L G1 (sA ad 5) (sR ad 5) M1) (hf : frS (sA ad 5) (sR ad 5) 8 G G1) : vX g L G1 ad (M1, C, pi, k, T) := by
  obtain ⟨h1, h2, h3, h4, h5, h6, h7, h8⟩ := h
  have o : ∀ i, i < 59 → ¬ (50 ≤ i ∧ i < 59) → G1 (ad i) = G (ad i) := fun i hi hn => hf _ (fun z => hn (sown (p := 5) h1 (by omega) hi z))
  refine ⟨h1, h2, by rw [o 0 (by omega) (by omega)]; exact h3, by rw [o 1 (by omega) (by omega)]; exact h4, by rw [o 2 (by omega) (by omega)]; exact h5, hV, fun p hp => ?_, ?_⟩
  · exact vO.keep (h7 p hp) (by decide) (fun q hq => hf q (sown2 h1 (by omega) (by omega) (by omega) q hq))
  · refine vO.keep h8 (by decide) (fun q hq => ?_)
    rcases hq with rfl | ⟨j, _, rfl⟩
    · exact o 3 (by omega) (by omega)
    · exact o 4 (by omega) (by omega)
theorem vX.upC {M : St} {C : Nat → St} {pi : Nat → Nat} {k : Int32} {T C1 : St} {p : Nat} (h : vX g L G ad (M, C, pi, k, T)) (hp : p < 5) (hV : vS g L G1 (sA ad p) (sR ad p) C1) (hf : frS (sA ad p) (sR ad p) 8 G G1) : vX g L G1 ad (M, va_up C p C1, pi, k, T) := by
  obtain ⟨h1, h2, h3, h4, h5, h6, h7, h8⟩ := h
  have o : ∀ i, i < 59 → ¬ (5 + 9 * p ≤ i ∧ i < 14 + 9 * p) → G1 (ad i) = G (ad i) := fun i hi hn => hf _ (fun z => hn (sown (p := p) h1 (by omega) hi z))
  refine ⟨h1, h2, by rw [o 0 (by omega) (by omega)]; exact h3, by rw [o 1 (by omega) (by omega)]; exact h4, by rw [o 2 (by omega) (by omega)]; exact h5, ?_, fun q hq => ?_, ?_⟩
  · exact vO.keep h6 (by decide) (fun q hq => hf q (sown2 h1 (by omega) (by omega) (by omega) q hq))
  · by_cases e : q = p
    · subst e
      show vS g L G1 _ _ (va_up C q C1 q)
      rw [va_up_self]
      exact hV
    · show vS g L G1 _ _ (va_up C p C1 q)
      rw [va_up_ne _ _ e]
      exact vO.keep (h7 q hq) (by decide) (fun a ha => hf a (sown2 h1 (by omega) (by omega) e a ha))
  · refine vO.keep h8 (by decide) (fun q hq => ?_)
    rcases hq with rfl | ⟨j, _, rfl⟩
    · exact o 3 (by omega) (by omega)
    · exact o 4 (by omega) (by omega)
theorem vX.upT {M : St} {C : Nat → St} {pi : Nat → Nat} {k : Int32} {T T1 : St} (h : vX g L G ad (M, C, pi, k, T)) (hV : vT g L G1 (ad 3) (tR ad) T1) (hf : frS (ad 3) (tR ad) 1 G G1) : vX g L G1 ad (M, C, pi, k, T1) := by
  obtain ⟨h1, h2, h3, h4, h5, h6, h7, h8⟩ := h
  have o : ∀ i, i < 59 → i ≠ 3 → i ≠ 4 → G1 (ad i) = G (ad i) := fun i hi n3 n4 => hf _ (fun z => by
    rcases z with z | ⟨j, _, z⟩
    · exact n3 (h1 i 3 hi (by omega) z)
    · exact n4 (h1 i 4 hi (by omega) z))
  have os : ∀ p, p < 6 → ∀ q, ownS (sA ad p) (sR ad p) 8 q → G1 q = G q := fun p hp q hq => by
    rcases hq with rfl | ⟨j, hj, rfl⟩
    · exact o _ (by omega) (by omega) (by omega)
    · exact o _ (by omega) (by omega) (by omega)
  exact ⟨h1, h2, by rw [o 0 (by omega) (by omega) (by omega)]; exact h3, by rw [o 1 (by omega) (by omega) (by omega)]; exact h4, by rw [o 2 (by omega) (by omega) (by omega)]; exact h5, vO.keep h6 (by decide) (os 5 (by omega)), fun p hp => vO.keep (h7 p hp) (by decide) (os p (by omega)), hV⟩
theorem vX.one {x : XS} (h : vX g L G ad x) {k : Nat} (hk : k < 59) (e : va_E) : ∀ i, i < 59 → i ≠ k → va_up G (ad k) e (ad i) = G (ad i) := fun i hi n => va_up_ne _ _ (fun z => n (h.1 i k hi hk z))
theorem vX.oneS {x : XS} (h : vX g L G ad x) {k : Nat} (hk : k < 3) (e : va_E) (p : Nat) (hp : p < 6) : ∀ q, ownS (sA ad p) (sR ad p) 8 q → va_up G (ad k) e q = G q := fun q hq => by
  rcases hq with rfl | ⟨j, hj, rfl⟩
  · exact vX.one h (by omega) e _ (by omega) (by omega)
  · exact vX.one h (by omega) e _ (by omega) (by omega)
theorem vX.oneT {x : XS} (h : vX g L G ad x) {k : Nat} (hk : k < 3) (e : va_E) : ∀ q, ownS (ad 3) (tR ad) 1 q → va_up G (ad k) e q = G q := fun q hq => by
  rcases hq with rfl | ⟨j, hj, rfl⟩
  · exact vX.one h (by omega) e _ (by omega) (by omega)
  · exact vX.one h (by omega) e _ (by omega) (by omega)
theorem vX.upK {M : St} {C : Nat → St} {pi : Nat → Nat} {k k1 : Int32} {T : St} (h : vX g L G ad (M, C, pi, k, T)) : vX g L (va_up G (ad 1) (.inr (0, [.ref (ad 2), .int k1]))) ad (M, C, pi, k1, T) := by
  have h0 := h
  obtain ⟨h1, h2, h3, h4, h5, h6, h7, h8⟩ := h
  refine ⟨h1, h2, by rw [vX.one h0 (by omega) _ 0 (by omega) (by omega)]; exact h3, va_up_self _ _ _, by rw [vX.one h0 (by omega) _ 2 (by omega) (by omega)]; exact h5, vO.keep h6 (by decide) (vX.oneS h0 (by omega) _ 5 (by omega)), fun p hp => vO.keep (h7 p hp) (by decide) (vX.oneS h0 (by omega) _ p (by omega)), vO.keep h8 (by decide) (vX.oneT h0 (by omega) _)⟩
theorem vX.upA {M : St} {C : Nat → St} {pi : Nat → Nat} {k : Int32} {T : St} (h : vX g L G ad (M, C, pi, k, T)) (i p : Nat) (hi : i < 5) : vX g L (va_up G (ad 2) (.inl (gR g, 5, .inr (.inr (.inr (.inr (va_up (rfc ad pi) i (some (sA ad p))))))))) ad (M, C, va_up pi i p, k, T) := by
  have h0 := h
  obtain ⟨h1, h2, h3, h4, h5, h6, h7, h8⟩ := h
  refine ⟨h1, h2, by rw [vX.one h0 (by omega) _ 0 (by omega) (by omega)]; exact h3, by rw [vX.one h0 (by omega) _ 1 (by omega) (by omega)]; exact h4, ?_, vO.keep h6 (by decide) (vX.oneS h0 (by omega) _ 5 (by omega)), fun q hq => vO.keep (h7 q hq) (by decide) (vX.oneS h0 (by omega) _ q (by omega)), vO.keep h8 (by decide) (vX.oneT h0 (by omega) _)⟩
  rw [va_up_self]
  have e : va_up (rfc ad pi) i (some (sA ad p)) = rfc ad (va_up pi i p) := by
    funext j
    by_cases hj : j = i
    · subst hj
      rw [va_up_self]
      show _ = if j < 5 then some (sA ad (va_up pi j p j)) else none
      rw [if_pos hi, va_up_self]
    · rw [va_up_ne _ _ hj]
      show (if j < 5 then some (sA ad (pi j)) else none) = if j < 5 then some (sA ad (va_up pi i p j)) else none
      rw [va_up_ne _ _ hj]
  rw [e]
end VX
def rLd (pi : Nat → Nat) (i : Int32) : Option (Option Nat) := if i < 0 ∨ 5 ≤ i.toNatClampNeg then none else some (some (pi i.toNatClampNeg))
def rSt (pi : Nat → Nat) (i : Int32) (p : Nat) : Option (Nat → Nat) := if i < 0 ∨ 5 ≤ i.toNatClampNeg then none else some (va_up pi i.toNatClampNeg p)
section KW
variable {p : Program} {l : Launch} {e : Env} {R : Room} {s : State} {m : MethodId} {args : Array Value} {below : List Frame} {meth : Method} {c : Code} {H : Heap} {locs : List Loc} {cells slots : Nat} {Q : State → Prop} {cc : ByteArray} {pc : Nat} {ls : Array Slot} {rest st0 : List Value} {a : Array Value} {g : Gm} {L : List Nat} {A : Nat → Prop} {G : Nat → va_E}
theorem k_rldE (hexec : p.tables.exec = Jvm.exec) (hb : c.code = cc) (hC : Cx g A s s.heap) (hP : va_P g.1 vwCl (va_pl L G) H) {ad : Nat → Nat} {x : XS} (hX : vX g L G ad x) {i : Int32} {q : Option Nat} (hv : rLd x.2.2.1 i = some q) (hdg : decode cc pc = .ok (.aaload, 1))
    (kk : ∀ y, q = some y → W p l e R s m args below meth c H locs cells slots Q (F0 m (pc + 1) ls (.ref (sA ad y) :: rest))) : W p l e R s m args below meth c H locs cells slots Q (F0 m pc ls (.int i :: .ref (ad 2) :: rest)) := by
  unfold rLd at hv
  split at hv
  · cases hv
  · rename_i h1
    have h2 : i.toNatClampNeg < 5 := Nat.not_le.mp (fun q => h1 (Or.inr q))
    refine k_rld hexec hb hC hP (hX.m 2 (by omega)) hX.o2 h1 hdg ?_
    have e : rfc ad x.2.2.1 i.toNatClampNeg = some (sA ad (x.2.2.1 i.toNatClampNeg)) := if_pos h2
    rw [e]
    exact kk _ (Option.some.inj hv).symm
theorem k_rstE (hexec : p.tables.exec = Jvm.exec) (hb : c.code = cc) (hL : kL L A) (hC : Cx g A s s.heap) (hP : va_P g.1 vwCl (va_pl L G) H) (hS : va_S A s.heap H locs) {ad : Nat → Nat} {M : St} {C : Nat → St} {pi pi1 : Nat → Nat} {k : Int32} {T : St} (hX : vX g L G ad (M, C, pi, k, T)) {i : Int32} {y : Nat} (hy : y < 5) (hv : rSt pi i y = some pi1) (hdg : decode cc pc = .ok (.aastore, 1))
    (kk : ∀ (G1 : Nat → va_E) (H1 : Heap) (locs1 : List Loc), vX g L G1 ad (M, C, pi1, k, T) → va_P g.1 vwCl (va_pl L G1) H1 → va_S A s.heap H1 locs1 → W p l e R s m args below meth c H1 locs1 cells slots Q (F0 m (pc + 1) ls rest)) : W p l e R s m args below meth c H locs cells slots Q (F0 m pc ls (.ref (sA ad y) :: .int i :: .ref (ad 2) :: rest)) := by
  unfold rSt at hv
  split at hv
  · cases hv
  · rename_i h1
    obtain rfl := Option.some.inj hv
    exact k_rst hexec hb hL hC hP hS (hX.m 2 (by omega)) hX.o2 (vO.m (hX.sc hy)) (vO.o (hX.sc hy)) h1 hdg (fun H1 locs1 hP1 hS1 => kk _ H1 locs1 (vX.upA hX _ _ (Nat.not_le.mp (fun q => h1 (Or.inr q)))) hP1 hS1)
theorem k_qR {rv : Option Nat} (hS : va_S A s.heap H locs) (hr : va_Run p l e R s m args below meth c H locs cells slots 0 0 (F0 m pc ls st0) rest (va_Qq (fun x (G1 : Nat → va_E) => x = rv ∧ G1 = G) (kE g L) A a) A) (kk : ∀ (H1 : Heap) (locs1 : List Loc), va_P g.1 vwCl (va_pl L G) H1 → va_S A s.heap H1 locs1 → W p l e R s m args below meth c H1 locs1 cells slots Q (F0 m (pc + 3) ls (va_rf rv :: rest))) : W p l e R s m args below meth c H locs cells slots Q (F0 m pc ls st0) :=
  k_q hS hr (fun r G1 H1 locs1 hq hP1 hS1 => by obtain ⟨rfl, rfl⟩ := hq; exact kk H1 locs1 hP1 hS1)
theorem k_qretR (hexec : p.tables.exec = Jvm.exec) (hb : c.code = cc) {n : String} (hr : meth.sig.returnType = some (.object n)) {v : Value} {rv : Option Nat} (hE : v = va_rf rv) (hP : va_P g.1 vwCl (va_pl L G) H) (hS : va_S A s.heap H locs) (hlocks : meth.locks = false) (hdg : decode cc pc = .ok (.areturn, 1)) : W p l e R s m args below meth c H locs cells slots (MQ below (va_Qq (fun x (G1 : Nat → va_E) => x = rv ∧ G1 = G) (kE g L) A) args s cells slots A) (F0 m pc ls [v]) := by
  subst hE
  exact W.aret (v := va_rf rv) hexec hb hr (Or.inl ⟨n, rfl⟩) (va_rf_or rv) (fun t ht _ => ⟨⟨rv, G, rfl, ⟨rfl, rfl⟩, by show va_P _ _ _ t.heap; rw [ht]; exact hP⟩, hS.F ht⟩) hS.2.2 hdg hlocks
end KW
theorem oM_some {β : Type} {p : Nat} {b : Option β} {f : Nat → Option β} {r : β} (h : oM (some p) b f = some r) : p < 5 ∧ f p = some r := by
  unfold oM at h
  simp only at h
  split at h
  · rename_i h1
    exact ⟨h1, h⟩
  · cases h
def F_X0_stateAt (x : XS) (p0 : Int32) : Option (Option Nat) := if p0 < 0 then some none else if (Int32.ofNat 5) ≤ p0 then some none else oB (rLd x.2.2.1 p0) fun q3 => some q3
def F_X0_putAside (x : XS) : Option (XS) := oB (F_X0_stateAt (x.1, x.2.1, x.2.2.1, x.2.2.2.1, x.2.2.2.2) x.2.2.2.1) fun v1 => oM v1 (none) fun p3 => oB (F_X1_copyFrom (x.2.1 p3) x.1) fun w5 => some (x.1, (va_up x.2.1 p3 w5), x.2.2.1, x.2.2.2.1, x.2.2.2.2)
def F_X0_takeBack (x : XS) : Option (XS) := oB (F_X0_stateAt (x.1, x.2.1, x.2.2.1, x.2.2.2.1, x.2.2.2.2) x.2.2.2.1) fun v1 => oM v1 (none) fun p3 => oB (F_X1_copyFrom x.1 (x.2.1 p3)) fun w5 => some (w5, x.2.1, x.2.2.1, x.2.2.2.1, x.2.2.2.2)
def FL_X0_dropOldest_16  : Nat → XS → Nat → Int32 → Int32 → Option (XS)
  | 0, _, _, _, _ => none
  | n + 1, x, x1, x2, x3 => if x2 ≤ x3 then if x2 < 0 then some (x.1, x.2.1, x.2.2.1, x.2.2.2.1, x.2.2.2.2) else oB (rSt x.2.2.1 x2 x1) fun pi6 => some (x.1, x.2.1, pi6, x.2.2.2.1, x.2.2.2.2) else oB (F_X0_stateAt (x.1, x.2.1, x.2.2.1, x.2.2.2.1, x.2.2.2.2) (x3 + (1 : Int32))) fun v8 => oM v8 (none) fun p10 => oB (rSt x.2.2.1 x3 p10) fun pi11 => FL_X0_dropOldest_16  n (x.1, x.2.1, pi11, x.2.2.2.1, x.2.2.2.2) x1 x2 (x3 + 1)
def F_X0_dropOldest (x : XS) : Option (XS) := oB (F_X0_stateAt (x.1, x.2.1, x.2.2.1, x.2.2.2.1, x.2.2.2.2) (0 : Int32)) fun v1 => oM v1 (none) fun p3 => FL_X0_dropOldest_16  fuel (x.1, x.2.1, x.2.2.1, x.2.2.2.1, x.2.2.2.2) p3 ((Int32.ofNat 5) - (1 : Int32)) (0 : Int32)
def F_X0_keep (x : XS) : Option (XS) := if (4 : Int32) ≤ x.2.2.2.1 then oB (F_X0_dropOldest (x.1, x.2.1, x.2.2.1, x.2.2.2.1, x.2.2.2.2)) fun w3 => some (w3.1, w3.2.1, w3.2.2.1, w3.2.2.2.1, w3.2.2.2.2) else some (x.1, x.2.1, x.2.2.1, (x.2.2.2.1 + (1 : Int32)), x.2.2.2.2)
def F_X0_restoreLatest (x : XS) : Option (Int32 × XS) := if 0 < x.2.2.2.1 then oB (F_X0_stateAt (x.1, x.2.1, x.2.2.1, (x.2.2.2.1 - (1 : Int32)), x.2.2.2.2) (x.2.2.2.1 - (1 : Int32))) fun v3 => oM v3 (none) fun p5 => oB (F_X1_copyFrom x.1 (x.2.1 p5)) fun w7 => some ((1 : Int32), (w7, x.2.1, x.2.2.1, (x.2.2.2.1 - (1 : Int32)), x.2.2.2.2)) else some ((0 : Int32), (x.1, x.2.1, x.2.2.1, x.2.2.2.1, x.2.2.2.2))
def F_X3_settle (x : XS) (p0 : Int32) : Option (Int32 × XS) := if ((-1000001) : Int32) < p0 then oB (F_X0_keep (x.1, x.2.1, x.2.2.1, x.2.2.2.1, x.2.2.2.2)) fun w3 => some (p0, (w3.1, w3.2.1, w3.2.2.1, w3.2.2.2.1, w3.2.2.2.2)) else oB (F_X0_takeBack (x.1, x.2.1, x.2.2.1, x.2.2.2.1, x.2.2.2.2)) fun w6 => some (p0, (w6.1, w6.2.1, w6.2.2.1, w6.2.2.2.1, w6.2.2.2.2))
def F_X3_tell (x : XS) (p0 : Int32) : Option (Int32 × XS) := if p0 < 0 then some (((-1000001) : Int32), (x.1, x.2.1, x.2.2.1, x.2.2.2.1, x.2.2.2.2)) else if p0 ≤ (4095 : Int32) then oB (F_X0_putAside (x.1, x.2.1, x.2.2.1, x.2.2.2.1, x.2.2.2.2)) fun w4 => oB2 (F_X1_bring w4.1 p0 ((-1) : Int32) ((-1) : Int32) ((-1) : Int32)) fun v6 w7 => oB2 (F_X3_settle (w7, w4.2.1, w4.2.2.1, w4.2.2.2.1, w4.2.2.2.2) v6) fun v9 w10 => some (v9, (w10.1, w10.2.1, w10.2.2.1, w10.2.2.2.1, w10.2.2.2.2)) else some (((-1000001) : Int32), (x.1, x.2.1, x.2.2.1, x.2.2.2.1, x.2.2.2.2))
def F_X3_rank (x : XS) (p0 : Int32) (p1 : Int32) : Option (Int32 × XS) := if p0 < 0 then some (((-1000001) : Int32), (x.1, x.2.1, x.2.2.1, x.2.2.2.1, x.2.2.2.2)) else if (6 : Int32) ≤ p0 then some (((-1000001) : Int32), (x.1, x.2.1, x.2.2.1, x.2.2.2.1, x.2.2.2.2)) else if p1 < 0 then some (((-1000001) : Int32), (x.1, x.2.1, x.2.2.1, x.2.2.2.1, x.2.2.2.2)) else if p1 < (6 : Int32) then oB (F_X0_putAside (x.1, x.2.1, x.2.2.1, x.2.2.2.1, x.2.2.2.2)) fun w6 => oB2 (F_X1_changeRank w6.1 p0 p1) fun v8 w9 => oB2 (F_X3_settle (w9, w6.2.1, w6.2.2.1, w6.2.2.2.1, w6.2.2.2.2) v8) fun v11 w12 => some (v11, (w12.1, w12.2.1, w12.2.2.1, w12.2.2.2.1, w12.2.2.2.2)) else some (((-1000001) : Int32), (x.1, x.2.1, x.2.2.1, x.2.2.2.1, x.2.2.2.2))
def F_X3_set (x : XS) (p0 : Int32) : Option (Int32 × XS) := if p0 < (1 : Int32) then some (((-1000001) : Int32), (x.1, x.2.1, x.2.2.1, x.2.2.2.1, x.2.2.2.2)) else if p0 ≤ (9 : Int32) then oB (F_X0_putAside (x.1, x.2.1, x.2.2.1, x.2.2.2.1, x.2.2.2.2)) fun w4 => oB2 (F_X3_settle ((w4.1.1, w4.1.2.1, va_up w4.1.2.2 2 p0), w4.2.1, w4.2.2.1, w4.2.2.2.1, w4.2.2.2.2) (w4.1.2.2 2)) fun v7 w8 => some (v7, (w8.1, w8.2.1, w8.2.2.1, w8.2.2.2.1, w8.2.2.2.2)) else some (((-1000001) : Int32), (x.1, x.2.1, x.2.2.1, x.2.2.2.1, x.2.2.2.2))
def F_X3_step (x : XS) : Option (Int32 × XS) := oB (F_X0_putAside (x.1, x.2.1, x.2.2.1, x.2.2.2.1, x.2.2.2.2)) fun w2 => oB2 (F_X1_takeStep w2.1) fun v4 w5 => oB2 (F_X3_settle (w5, w2.2.1, w2.2.2.1, w2.2.2.2.1, w2.2.2.2.2) v4) fun v7 w8 => some (v7, (w8.1, w8.2.1, w8.2.2.1, w8.2.2.2.1, w8.2.2.2.2))
def FL_X3_run_29  : Nat → XS → Int32 → Int32 → Int32 → Option (Int32 × XS)
  | 0, _, _, _, _ => none
  | n + 1, x, x1, x2, x3 => if x1 ≤ x3 then oB2 (F_X3_settle (x.1, x.2.1, x.2.2.1, x.2.2.2.1, x.2.2.2.2) x2) fun v7 w8 => some (v7, (w8.1, w8.2.1, w8.2.2.1, w8.2.2.2.1, w8.2.2.2.2)) else oB2 (F_X1_takeStep x.1) fun v10 w11 => if v10 = ((-1000003) : Int32) then oB2 (F_X3_settle (w11, x.2.1, x.2.2.1, x.2.2.2.1, x.2.2.2.2) ((-1000003) : Int32)) fun v18 w19 => some (v18, (w19.1, w19.2.1, w19.2.2.1, w19.2.2.2.1, w19.2.2.2.2)) else if v10 = ((-1000002) : Int32) then oB2 (F_X3_settle (w11, x.2.1, x.2.2.1, x.2.2.2.1, x.2.2.2.2) x2) fun v15 w16 => some (v15, (w16.1, w16.2.1, w16.2.2.1, w16.2.2.2.1, w16.2.2.2.2)) else FL_X3_run_29  n (w11, x.2.1, x.2.2.1, x.2.2.2.1, x.2.2.2.2) x1 (x2 + 1) (x3 + 1)
def F_X3_run (x : XS) (p0 : Int32) : Option (Int32 × XS) := if p0 < (1 : Int32) then some (((-1000001) : Int32), (x.1, x.2.1, x.2.2.1, x.2.2.2.1, x.2.2.2.2)) else if p0 ≤ (40 : Int32) then oB (F_X0_putAside (x.1, x.2.1, x.2.2.1, x.2.2.2.1, x.2.2.2.2)) fun w4 => FL_X3_run_29  fuel (w4.1, w4.2.1, w4.2.2.1, w4.2.2.2.1, w4.2.2.2.2) p0 (0 : Int32) (0 : Int32) else some (((-1000001) : Int32), (x.1, x.2.1, x.2.2.1, x.2.2.2.1, x.2.2.2.2))
def F_X3_empty (x : XS) : Option (Int32 × XS) := oB (F_X0_putAside (x.1, x.2.1, x.2.2.1, x.2.2.2.1, x.2.2.2.2)) fun w2 => oB2 (F_X3_settle (((w2.1.1, w2.1.2.1, va_up w2.1.2.2 0 (0 : Int32)).1, (w2.1.1, w2.1.2.1, va_up w2.1.2.2 0 (0 : Int32)).2.1, va_up (w2.1.1, w2.1.2.1, va_up w2.1.2.2 0 (0 : Int32)).2.2 1 (0 : Int32)), w2.2.1, w2.2.2.1, w2.2.2.2.1, w2.2.2.2.2) (w2.1.2.2 0)) fun v6 w7 => some (v6, (w7.1, w7.2.1, w7.2.2.1, w7.2.2.2.1, w7.2.2.2.2))
def F_X3_clauseOf (x : XS) (p0 : Int32) (p1 : Int32) : Option (Int32) := oB (F_X1_has x.1 p0) fun v1 => if v1 = 0 then some ((-1000001) : Int32) else if p1 = 0 then oB (F_X3_at (x.1.1 1) (lnS 1) p0) fun v5 => some v5 else if p1 = 1 then oB (F_X3_at (x.1.1 2) (lnS 2) p0) fun v8 => some v8 else if p1 = 2 then oB (F_X3_at (x.1.1 1) (lnS 1) p0) fun v11 => oB (F_X1_greatestOf x.1 v11) fun v13 => oB (F_X3_foundOrNot v13) fun v15 => some v15 else if p1 = 3 then oB (F_X3_at (x.1.1 3) (lnS 3) p0) fun v18 => oB (F_X3_foundOrNot v18) fun v20 => some v20 else if p1 = 4 then oB (F_X3_at (x.1.1 4) (lnS 4) p0) fun v23 => oB (F_X3_foundOrNot v23) fun v25 => some v25 else if p1 = 5 then oB (F_X3_at (x.1.1 5) (lnS 5) p0) fun v28 => oB (F_X3_foundOrNot v28) fun v30 => some v30 else if p1 = 6 then oB (F_X3_at (x.1.1 1) (lnS 1) p0) fun v33 => oB (F_J6_bitCount_0f7a4 v33) fun v35 => some v35 else if p1 = 7 then oB (F_X1_howManyLessThan x.1 p0) fun v38 => some v38 else if p1 = 8 then oB (F_X3_at (x.1.1 6) (lnS 6) p0) fun v41 => some v41 else some ((-1000001) : Int32)
def F_X3_tree (x : XS) (p0 : Int32) : Option (Int64) := oB (F_X1_has x.1 p0) fun v1 => if v1 = 0 then some ((-1000001) : Int64) else oB (F_X1_treeOf x.1 p0) fun v4 => some v4
def F_X3_widest (x : XS) (p0 : Int32) : Option (Int32) := oB (F_X1_has x.1 p0) fun v1 => if v1 = 0 then some ((-1000001) : Int32) else oB (F_X1_treeOf x.1 p0) fun v4 => oB (F_X1_mostLiterals x.1 v4) fun v6 => some v6
def F_X3_refutation (x : XS) : Option (Int32) := oB (F_X1_emptyClause x.1) fun v1 => oB (F_X3_foundOrNot v1) fun v3 => some v3
def F_X3_models (x : XS) : Option (Int32) := oB (F_X1_toldClauses x.1) fun v1 => oB (F_X1_valuesFulfilling x.1 v1) fun v3 => oB (F_J13_bitCount_95d88 v3) fun v5 => some v5
def FL_X3_model_28 (x : XS) : Nat → Int32 → Int64 → Int32 → Int32 → Option (Int32)
  | 0, _, _, _, _ => none
  | n + 1, x1, x2, x4, x5 => if (64 : Int32) ≤ x5 then some ((-1000004) : Int32) else oB (F_X3_isIn x2 x5) fun v7 => if v7 = 0 then FL_X3_model_28 x n x1 x2 x4 (x5 + 1) else if x4 = x1 then some x5 else FL_X3_model_28 x n x1 x2 (x4 + 1) (x5 + 1)
def F_X3_model (x : XS) (p0 : Int32) : Option (Int32) := if 0 ≤ p0 then oB (F_X1_toldClauses x.1) fun v2 => oB (F_X1_valuesFulfilling x.1 v2) fun v4 => FL_X3_model_28 x fuel p0 v4 (0 : Int32) (0 : Int32) else some ((-1000001) : Int32)
def F_X3_broken (x : XS) (p0 : Int32) : Option (Int64) := if p0 < 0 then some ((-1000001) : Int64) else if p0 < (64 : Int32) then oB (F_X1_clausesBrokenBy x.1 p0) fun v3 => some v3 else some ((-1000001) : Int64)
def F_X3_core (x : XS) : Option (Int64) := oB (F_X1_toldClauses x.1) fun v1 => oB (F_X1_valuesFulfilling x.1 v1) fun v3 => if (lg_cmp v3 (0 : Int64)) = 0 then oB (F_X1_fewestUnfulfillable x.1 v1) fun v6 => some v6 else some ((-1000004) : Int64)
def F_X3_follows (x : XS) (p0 : Int32) : Option (Int32) := if p0 < 0 then some ((-1000001) : Int32) else if p0 ≤ (4095 : Int32) then oB (F_X1_toldClauses x.1) fun v3 => oB (F_X1_valuesFulfilling x.1 v3) fun v5 => oB (F_X3_valuesOfClause p0) fun v7 => if (lg_cmp (v5 &&& (v7 ^^^ ((-1) : Int64))) (0 : Int64)) = 0 then some (1 : Int32) else some (0 : Int32) else some ((-1000001) : Int32)
def F_X3_share (x : XS) (p0 : Int32) : Option (Int32) := if p0 < 0 then some ((-1000001) : Int32) else if p0 ≤ (4095 : Int32) then oB (F_X3_valuesOfClause p0) fun v3 => oB (F_J13_bitCount_95d88 v3) fun v5 => oB (F_X3_floatBitsOf64ths v5) fun v7 => some v7 else some ((-1000001) : Int32)
def F_X3_count (x : XS) (p0 : Int32) : Option (Int32) := if p0 = 0 then some (x.1.2.2 0) else if p0 = 1 then oB (F_X1_howMany x.1 (0 : Int32)) fun v3 => some v3 else if p0 = 2 then oB (F_X1_howMany x.1 (1 : Int32)) fun v6 => some v6 else if p0 = 3 then oB (F_X1_howMany x.1 (2 : Int32)) fun v9 => some v9 else if p0 = 4 then some (x.1.2.2 1) else if p0 = 5 then some (x.1.2.2 2) else if p0 = 6 then some (x.1.2.2 3) else if p0 = 7 then some (x.1.2.2 4) else if p0 = 8 then some x.2.2.2.1 else if p0 = 9 then some (x.2.2.2.2.2.2 0) else if p0 < (10 : Int32) then some ((-1000001) : Int32) else if (16 : Int32) ≤ p0 then some ((-1000001) : Int32) else oB (F_X1_rankOf x.1 (p0 - (10 : Int32))) fun v19 => some v19
def F_X3_undo (x : XS) : Option (Int32 × XS) := oB2 (F_X0_restoreLatest (x.1, x.2.1, x.2.2.1, x.2.2.2.1, x.2.2.2.2)) fun v1 w2 => if v1 = 0 then some (((-1000002) : Int32), (w2.1, w2.2.1, w2.2.2.1, w2.2.2.2.1, w2.2.2.2.2)) else some (w2.2.2.2.1, (w2.1, w2.2.1, w2.2.2.1, w2.2.2.2.1, w2.2.2.2.2))
def F_X3_type (x : XS) (p0 : Int32) : Option (Int32 × XS) := if p0 < (32 : Int32) then some (((-1000001) : Int32), (x.1, x.2.1, x.2.2.1, x.2.2.2.1, x.2.2.2.2)) else if p0 ≤ (126 : Int32) then oB2 (F_X2_add x.2.2.2.2 p0) fun v3 w4 => if v3 = 0 then some (((-1000003) : Int32), (x.1, x.2.1, x.2.2.1, x.2.2.2.1, w4)) else some ((w4.2.2 0), (x.1, x.2.1, x.2.2.1, x.2.2.2.1, w4)) else some (((-1000001) : Int32), (x.1, x.2.1, x.2.2.1, x.2.2.2.1, x.2.2.2.2))
def F_X3_clearText (x : XS) : Option (Int32 × XS) := some ((x.2.2.2.2.2.2 0), (x.1, x.2.1, x.2.2.1, x.2.2.2.1, (x.2.2.2.2.1, x.2.2.2.2.2.1, va_up x.2.2.2.2.2.2 0 (0 : Int32))))
def F_X3_fault (x : XS) (p0 : Int32) : Option (Int32) := if p0 < 0 then some ((-1000001) : Int32) else if p0 ≤ (1 : Int32) then oB (F_X2_whereItBreaksOff x.2.2.2.2) fun v3 => if v3 = ((-1) : Int32) then some ((-1000004) : Int32) else oB (F_X2_startOfClause x.2.2.2.2 v3) fun v6 => if p0 = 0 then some v6 else some (v3 - v6) else some ((-1000001) : Int32)
def FL_X3_bringText_9  : Nat → XS → Int32 → Int32 → Int32 → Int32 → Option (Int32 × XS)
  | 0, _, _, _, _, _ => none
  | n + 1, x, x1, x2, x3, x4 => if (x.2.2.2.2.2.2 0) ≤ x4 then some (x1, (x.1, x.2.1, x.2.2.1, x.2.2.2.1, x.2.2.2.2)) else oB (F_X3_at (x.2.2.2.2.1 0) (lnT 0) x4) fun v2 => if v2 = (59 : Int32) then oB2 (F_X1_bring x.1 x2 ((-1) : Int32) ((-1) : Int32) ((-1) : Int32)) fun v6 w7 => if v6 = ((-1000003) : Int32) then some (((-1000003) : Int32), (w7, x.2.1, x.2.2.1, x.2.2.2.1, x.2.2.2.2)) else if v6 < 0 then FL_X3_bringText_9  n (w7, x.2.1, x.2.2.1, x.2.2.2.1, x.2.2.2.2) (x1 + (0 : Int32)) (0 : Int32) x3 (x4 + 1) else FL_X3_bringText_9  n (w7, x.2.1, x.2.2.1, x.2.2.2.1, x.2.2.2.2) (x1 + (1 : Int32)) (0 : Int32) x3 (x4 + 1) else if v2 = (45 : Int32) then FL_X3_bringText_9  n (x.1, x.2.1, x.2.2.1, x.2.2.2.1, x.2.2.2.2) x1 x2 (1 : Int32) (x4 + 1) else FL_X3_bringText_9  n (x.1, x.2.1, x.2.2.1, x.2.2.2.1, x.2.2.2.2) x1 (x2 ||| ((1 : Int32) <<< ((((2 : Int32) * (v2 - (97 : Int32))) + x3) &&& 31))) (0 : Int32) (x4 + 1)
def F_X3_bringText (x : XS) : Option (Int32 × XS) := FL_X3_bringText_9  fuel (x.1, x.2.1, x.2.2.1, x.2.2.2.1, x.2.2.2.2) (0 : Int32) (0 : Int32) (0 : Int32) (0 : Int32)
def F_X3_play (x : XS) : Option (Int32 × XS) := oB (F_X2_whereItBreaksOff x.2.2.2.2) fun v1 => if v1 = ((-1) : Int32) then oB (F_X0_putAside (x.1, x.2.1, x.2.2.1, x.2.2.2.1, x.2.2.2.2)) fun w5 => oB2 (F_X3_bringText (w5.1, w5.2.1, w5.2.2.1, w5.2.2.2.1, w5.2.2.2.2)) fun v7 w8 => oB2 (F_X3_settle (w8.1, w8.2.1, w8.2.2.1, w8.2.2.2.1, w8.2.2.2.2) v7) fun v10 w11 => some (v10, (w11.1, w11.2.1, w11.2.2.1, w11.2.2.2.1, w11.2.2.2.2)) else some (((-1000002) : Int32), (x.1, x.2.1, x.2.2.1, x.2.2.2.1, x.2.2.2.2))
