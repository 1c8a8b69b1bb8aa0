section
-- ===== PART A: goes FIRST, ahead of the names: the tables' words, and 'selects' of the private methods out of them =====
/-- a private method of a class that the tables say can be made, by its rows of tables_1 -/
def lw_okq (q : MethodName × Nat) : Prop := (q.1.cls ≠ "java/lang/invoke/MethodHandle" ∧ q.1.cls ≠ "java/lang/invoke/VarHandle") ∧ Cond.instantiable q.1.cls q.2 ∈ tables_1 ∧ Cond.privateMethod q.1 ∈ tables_1 ∧ Cond.instanceMethod q.1 ∈ tables_1
theorem lw_p0 : lw_okq (⟨"OrderedClauses$Store", "howMany", "(I)I"⟩, 13) := ⟨⟨by decide +kernel, by decide +kernel⟩, List.mem_of_getElem? (i := 18) (by decide +kernel), List.mem_of_getElem? (i := 126) (by decide +kernel), List.mem_of_getElem? (i := 127) (by decide +kernel)⟩
theorem lw_p1 : lw_okq (⟨"OrderedClauses$Store", "rankOf", "(I)I"⟩, 13) := ⟨⟨by decide +kernel, by decide +kernel⟩, List.mem_of_getElem? (i := 18) (by decide +kernel), List.mem_of_getElem? (i := 133) (by decide +kernel), List.mem_of_getElem? (i := 134) (by decide +kernel)⟩
theorem lw_p2 : lw_okq (⟨"OrderedClauses$History", "restoreLatest", "(LOrderedClauses$Store;)Z"⟩, 2) := ⟨⟨by decide +kernel, by decide +kernel⟩, List.mem_of_getElem? (i := 80) (by decide +kernel), List.mem_of_getElem? (i := 142) (by decide +kernel), List.mem_of_getElem? (i := 143) (by decide +kernel)⟩
theorem lw_p3 : lw_okq (⟨"OrderedClauses$History", "stateAt", "(I)LOrderedClauses$Store;"⟩, 2) := ⟨⟨by decide +kernel, by decide +kernel⟩, List.mem_of_getElem? (i := 80) (by decide +kernel), List.mem_of_getElem? (i := 146) (by decide +kernel), List.mem_of_getElem? (i := 147) (by decide +kernel)⟩
theorem lw_p4 : lw_okq (⟨"OrderedClauses$Store", "copyFrom", "(LOrderedClauses$Store;)V"⟩, 13) := ⟨⟨by decide +kernel, by decide +kernel⟩, List.mem_of_getElem? (i := 18) (by decide +kernel), List.mem_of_getElem? (i := 150) (by decide +kernel), List.mem_of_getElem? (i := 151) (by decide +kernel)⟩
theorem lw_p5 : lw_okq (⟨"OrderedClauses$Store", "has", "(I)Z"⟩, 13) := ⟨⟨by decide +kernel, by decide +kernel⟩, List.mem_of_getElem? (i := 18) (by decide +kernel), List.mem_of_getElem? (i := 184) (by decide +kernel), List.mem_of_getElem? (i := 185) (by decide +kernel)⟩
theorem lw_p6 : lw_okq (⟨"OrderedClauses$Store", "greatestOf", "(I)I"⟩, 13) := ⟨⟨by decide +kernel, by decide +kernel⟩, List.mem_of_getElem? (i := 18) (by decide +kernel), List.mem_of_getElem? (i := 189) (by decide +kernel), List.mem_of_getElem? (i := 190) (by decide +kernel)⟩
theorem lw_p7 : lw_okq (⟨"OrderedClauses$Store", "howManyLessThan", "(I)I"⟩, 13) := ⟨⟨by decide +kernel, by decide +kernel⟩, List.mem_of_getElem? (i := 18) (by decide +kernel), List.mem_of_getElem? (i := 203) (by decide +kernel), List.mem_of_getElem? (i := 204) (by decide +kernel)⟩
theorem lw_p8 : lw_okq (⟨"OrderedClauses$Store", "isDropped", "(I)Z"⟩, 13) := ⟨⟨by decide +kernel, by decide +kernel⟩, List.mem_of_getElem? (i := 18) (by decide +kernel), List.mem_of_getElem? (i := 207) (by decide +kernel), List.mem_of_getElem? (i := 208) (by decide +kernel)⟩
theorem lw_p9 : lw_okq (⟨"OrderedClauses$Store", "isLess", "(II)Z"⟩, 13) := ⟨⟨by decide +kernel, by decide +kernel⟩, List.mem_of_getElem? (i := 18) (by decide +kernel), List.mem_of_getElem? (i := 211) (by decide +kernel), List.mem_of_getElem? (i := 212) (by decide +kernel)⟩
theorem lw_p10 : lw_okq (⟨"OrderedClauses$Store", "toldClauses", "()J"⟩, 13) := ⟨⟨by decide +kernel, by decide +kernel⟩, List.mem_of_getElem? (i := 18) (by decide +kernel), List.mem_of_getElem? (i := 226) (by decide +kernel), List.mem_of_getElem? (i := 227) (by decide +kernel)⟩
theorem lw_p11 : lw_okq (⟨"OrderedClauses$Store", "wasTold", "(I)Z"⟩, 13) := ⟨⟨by decide +kernel, by decide +kernel⟩, List.mem_of_getElem? (i := 18) (by decide +kernel), List.mem_of_getElem? (i := 230) (by decide +kernel), List.mem_of_getElem? (i := 231) (by decide +kernel)⟩
theorem lw_p12 : lw_okq (⟨"OrderedClauses$Store", "valuesFulfilling", "(J)J"⟩, 13) := ⟨⟨by decide +kernel, by decide +kernel⟩, List.mem_of_getElem? (i := 18) (by decide +kernel), List.mem_of_getElem? (i := 237) (by decide +kernel), List.mem_of_getElem? (i := 238) (by decide +kernel)⟩
theorem lw_p13 : lw_okq (⟨"OrderedClauses$Store", "emptyClause", "()I"⟩, 13) := ⟨⟨by decide +kernel, by decide +kernel⟩, List.mem_of_getElem? (i := 18) (by decide +kernel), List.mem_of_getElem? (i := 270) (by decide +kernel), List.mem_of_getElem? (i := 271) (by decide +kernel)⟩
theorem lw_p14 : lw_okq (⟨"OrderedClauses$Store", "treeOf", "(I)J"⟩, 13) := ⟨⟨by decide +kernel, by decide +kernel⟩, List.mem_of_getElem? (i := 18) (by decide +kernel), List.mem_of_getElem? (i := 278) (by decide +kernel), List.mem_of_getElem? (i := 279) (by decide +kernel)⟩
theorem lw_p15 : lw_okq (⟨"OrderedClauses$Store", "fewestUnfulfillable", "(J)J"⟩, 13) := ⟨⟨by decide +kernel, by decide +kernel⟩, List.mem_of_getElem? (i := 18) (by decide +kernel), List.mem_of_getElem? (i := 287) (by decide +kernel), List.mem_of_getElem? (i := 288) (by decide +kernel)⟩
def lw_privs_1 : List (MethodName × Nat) := [(⟨"OrderedClauses$Store", "howMany", "(I)I"⟩, 13), (⟨"OrderedClauses$Store", "rankOf", "(I)I"⟩, 13), (⟨"OrderedClauses$History", "restoreLatest", "(LOrderedClauses$Store;)Z"⟩, 2), (⟨"OrderedClauses$History", "stateAt", "(I)LOrderedClauses$Store;"⟩, 2), (⟨"OrderedClauses$Store", "copyFrom", "(LOrderedClauses$Store;)V"⟩, 13), (⟨"OrderedClauses$Store", "has", "(I)Z"⟩, 13), (⟨"OrderedClauses$Store", "greatestOf", "(I)I"⟩, 13), (⟨"OrderedClauses$Store", "howManyLessThan", "(I)I"⟩, 13), (⟨"OrderedClauses$Store", "isDropped", "(I)Z"⟩, 13), (⟨"OrderedClauses$Store", "isLess", "(II)Z"⟩, 13), (⟨"OrderedClauses$Store", "toldClauses", "()J"⟩, 13), (⟨"OrderedClauses$Store", "wasTold", "(I)Z"⟩, 13), (⟨"OrderedClauses$Store", "valuesFulfilling", "(J)J"⟩, 13), (⟨"OrderedClauses$Store", "emptyClause", "()I"⟩, 13), (⟨"OrderedClauses$Store", "treeOf", "(I)J"⟩, 13), (⟨"OrderedClauses$Store", "fewestUnfulfillable", "(J)J"⟩, 13)]
theorem lw_r1 : ∀ q ∈ lw_privs_1, lw_okq q := List.forall_mem_cons.mpr ⟨lw_p0, List.forall_mem_cons.mpr ⟨lw_p1, List.forall_mem_cons.mpr ⟨lw_p2, List.forall_mem_cons.mpr ⟨lw_p3, List.forall_mem_cons.mpr ⟨lw_p4, List.forall_mem_cons.mpr ⟨lw_p5, List.forall_mem_cons.mpr ⟨lw_p6, List.forall_mem_cons.mpr ⟨lw_p7, List.forall_mem_cons.mpr ⟨lw_p8, List.forall_mem_cons.mpr ⟨lw_p9, List.forall_mem_cons.mpr ⟨lw_p10, List.forall_mem_cons.mpr ⟨lw_p11, List.forall_mem_cons.mpr ⟨lw_p12, List.forall_mem_cons.mpr ⟨lw_p13, List.forall_mem_cons.mpr ⟨lw_p14, List.forall_mem_cons.mpr ⟨lw_p15, fun _ h => absurd h List.not_mem_nil⟩⟩⟩⟩⟩⟩⟩⟩⟩⟩⟩⟩⟩⟩⟩⟩
theorem lw_p16 : lw_okq (⟨"OrderedClauses$History", "putAside", "(LOrderedClauses$Store;)V"⟩, 2) := ⟨⟨by decide +kernel, by decide +kernel⟩, List.mem_of_getElem? (i := 80) (by decide +kernel), List.mem_of_getElem? (i := 301) (by decide +kernel), List.mem_of_getElem? (i := 302) (by decide +kernel)⟩
theorem lw_p17 : lw_okq (⟨"OrderedClauses$Store", "bring", "(IIII)I"⟩, 13) := ⟨⟨by decide +kernel, by decide +kernel⟩, List.mem_of_getElem? (i := 18) (by decide +kernel), List.mem_of_getElem? (i := 305) (by decide +kernel), List.mem_of_getElem? (i := 306) (by decide +kernel)⟩
theorem lw_p18 : lw_okq (⟨"OrderedClauses$Store", "hasAnotherWithin", "(I)Z"⟩, 13) := ⟨⟨by decide +kernel, by decide +kernel⟩, List.mem_of_getElem? (i := 18) (by decide +kernel), List.mem_of_getElem? (i := 312) (by decide +kernel), List.mem_of_getElem? (i := 313) (by decide +kernel)⟩
theorem lw_p19 : lw_okq (⟨"OrderedClauses$Store", "dropAllAround", "(I)V"⟩, 13) := ⟨⟨by decide +kernel, by decide +kernel⟩, List.mem_of_getElem? (i := 18) (by decide +kernel), List.mem_of_getElem? (i := 320) (by decide +kernel), List.mem_of_getElem? (i := 321) (by decide +kernel)⟩
theorem lw_p20 : lw_okq (⟨"OrderedClauses$Store", "takeIn", "(IIII)I"⟩, 13) := ⟨⟨by decide +kernel, by decide +kernel⟩, List.mem_of_getElem? (i := 18) (by decide +kernel), List.mem_of_getElem? (i := 324) (by decide +kernel), List.mem_of_getElem? (i := 325) (by decide +kernel)⟩
theorem lw_p21 : lw_okq (⟨"OrderedClauses", "settle", "(I)I"⟩, 3) := ⟨⟨by decide +kernel, by decide +kernel⟩, List.mem_of_getElem? (i := 10) (by decide +kernel), List.mem_of_getElem? (i := 335) (by decide +kernel), List.mem_of_getElem? (i := 336) (by decide +kernel)⟩
theorem lw_p22 : lw_okq (⟨"OrderedClauses$History", "takeBack", "(LOrderedClauses$Store;)V"⟩, 2) := ⟨⟨by decide +kernel, by decide +kernel⟩, List.mem_of_getElem? (i := 80) (by decide +kernel), List.mem_of_getElem? (i := 339) (by decide +kernel), List.mem_of_getElem? (i := 340) (by decide +kernel)⟩
theorem lw_p23 : lw_okq (⟨"OrderedClauses$History", "keep", "()V"⟩, 2) := ⟨⟨by decide +kernel, by decide +kernel⟩, List.mem_of_getElem? (i := 80) (by decide +kernel), List.mem_of_getElem? (i := 343) (by decide +kernel), List.mem_of_getElem? (i := 344) (by decide +kernel)⟩
theorem lw_p24 : lw_okq (⟨"OrderedClauses$History", "dropOldest", "()V"⟩, 2) := ⟨⟨by decide +kernel, by decide +kernel⟩, List.mem_of_getElem? (i := 80) (by decide +kernel), List.mem_of_getElem? (i := 347) (by decide +kernel), List.mem_of_getElem? (i := 348) (by decide +kernel)⟩
theorem lw_p25 : lw_okq (⟨"OrderedClauses$Store", "changeRank", "(II)I"⟩, 13) := ⟨⟨by decide +kernel, by decide +kernel⟩, List.mem_of_getElem? (i := 18) (by decide +kernel), List.mem_of_getElem? (i := 366) (by decide +kernel), List.mem_of_getElem? (i := 367) (by decide +kernel)⟩
theorem lw_p26 : lw_okq (⟨"OrderedClauses$Store", "takeStep", "()I"⟩, 13) := ⟨⟨by decide +kernel, by decide +kernel⟩, List.mem_of_getElem? (i := 18) (by decide +kernel), List.mem_of_getElem? (i := 383) (by decide +kernel), List.mem_of_getElem? (i := 384) (by decide +kernel)⟩
theorem lw_p27 : lw_okq (⟨"OrderedClauses$Store", "nextChoice", "()I"⟩, 13) := ⟨⟨by decide +kernel, by decide +kernel⟩, List.mem_of_getElem? (i := 18) (by decide +kernel), List.mem_of_getElem? (i := 388) (by decide +kernel), List.mem_of_getElem? (i := 389) (by decide +kernel)⟩
theorem lw_p28 : lw_okq (⟨"OrderedClauses$Store", "resolveWithDone", "(I)Z"⟩, 13) := ⟨⟨by decide +kernel, by decide +kernel⟩, List.mem_of_getElem? (i := 18) (by decide +kernel), List.mem_of_getElem? (i := 394) (by decide +kernel), List.mem_of_getElem? (i := 395) (by decide +kernel)⟩
theorem lw_p29 : lw_okq (⟨"OrderedClauses$Text", "add", "(I)Z"⟩, 2) := ⟨⟨by decide +kernel, by decide +kernel⟩, List.mem_of_getElem? (i := 97) (by decide +kernel), List.mem_of_getElem? (i := 416) (by decide +kernel), List.mem_of_getElem? (i := 417) (by decide +kernel)⟩
theorem lw_p30 : lw_okq (⟨"OrderedClauses$Text", "whereItBreaksOff", "()I"⟩, 2) := ⟨⟨by decide +kernel, by decide +kernel⟩, List.mem_of_getElem? (i := 97) (by decide +kernel), List.mem_of_getElem? (i := 428) (by decide +kernel), List.mem_of_getElem? (i := 429) (by decide +kernel)⟩
theorem lw_p31 : lw_okq (⟨"OrderedClauses$Text", "startOfClause", "(I)I"⟩, 2) := ⟨⟨by decide +kernel, by decide +kernel⟩, List.mem_of_getElem? (i := 97) (by decide +kernel), List.mem_of_getElem? (i := 433) (by decide +kernel), List.mem_of_getElem? (i := 434) (by decide +kernel)⟩
def lw_privs_2 : List (MethodName × Nat) := [(⟨"OrderedClauses$History", "putAside", "(LOrderedClauses$Store;)V"⟩, 2), (⟨"OrderedClauses$Store", "bring", "(IIII)I"⟩, 13), (⟨"OrderedClauses$Store", "hasAnotherWithin", "(I)Z"⟩, 13), (⟨"OrderedClauses$Store", "dropAllAround", "(I)V"⟩, 13), (⟨"OrderedClauses$Store", "takeIn", "(IIII)I"⟩, 13), (⟨"OrderedClauses", "settle", "(I)I"⟩, 3), (⟨"OrderedClauses$History", "takeBack", "(LOrderedClauses$Store;)V"⟩, 2), (⟨"OrderedClauses$History", "keep", "()V"⟩, 2), (⟨"OrderedClauses$History", "dropOldest", "()V"⟩, 2), (⟨"OrderedClauses$Store", "changeRank", "(II)I"⟩, 13), (⟨"OrderedClauses$Store", "takeStep", "()I"⟩, 13), (⟨"OrderedClauses$Store", "nextChoice", "()I"⟩, 13), (⟨"OrderedClauses$Store", "resolveWithDone", "(I)Z"⟩, 13), (⟨"OrderedClauses$Text", "add", "(I)Z"⟩, 2), (⟨"OrderedClauses$Text", "whereItBreaksOff", "()I"⟩, 2), (⟨"OrderedClauses$Text", "startOfClause", "(I)I"⟩, 2)]
theorem lw_r2 : ∀ q ∈ lw_privs_2, lw_okq q := List.forall_mem_cons.mpr ⟨lw_p16, List.forall_mem_cons.mpr ⟨lw_p17, List.forall_mem_cons.mpr ⟨lw_p18, List.forall_mem_cons.mpr ⟨lw_p19, List.forall_mem_cons.mpr ⟨lw_p20, List.forall_mem_cons.mpr ⟨lw_p21, List.forall_mem_cons.mpr ⟨lw_p22, List.forall_mem_cons.mpr ⟨lw_p23, List.forall_mem_cons.mpr ⟨lw_p24, List.forall_mem_cons.mpr ⟨lw_p25, List.forall_mem_cons.mpr ⟨lw_p26, List.forall_mem_cons.mpr ⟨lw_p27, List.forall_mem_cons.mpr ⟨lw_p28, List.forall_mem_cons.mpr ⟨lw_p29, List.forall_mem_cons.mpr ⟨lw_p30, List.forall_mem_cons.mpr ⟨lw_p31, fun _ h => absurd h List.not_mem_nil⟩⟩⟩⟩⟩⟩⟩⟩⟩⟩⟩⟩⟩⟩⟩⟩
theorem lw_p32 : lw_okq (⟨"OrderedClauses", "bringText", "()I"⟩, 3) := ⟨⟨by decide +kernel, by decide +kernel⟩, List.mem_of_getElem? (i := 10) (by decide +kernel), List.mem_of_getElem? (i := 441) (by decide +kernel), List.mem_of_getElem? (i := 442) (by decide +kernel)⟩
def lw_privs_3 : List (MethodName × Nat) := [(⟨"OrderedClauses", "bringText", "()I"⟩, 3)]
theorem lw_r3 : ∀ q ∈ lw_privs_3, lw_okq q := List.forall_mem_cons.mpr ⟨lw_p32, fun _ h => absurd h List.not_mem_nil⟩
def lw_privs : List (MethodName × Nat) := lw_privs_1 ++ (lw_privs_2 ++ (lw_privs_3))
def lw_tbl : List Cond := k2_sels lw_privs ++ tables_1
theorem lw_privs_ok : ∀ q ∈ lw_privs, lw_okq q := by
  show ∀ q ∈ lw_privs_1 ++ (lw_privs_2 ++ (lw_privs_3)), lw_okq q
  exact List.forall_mem_append.mpr ⟨lw_r1, List.forall_mem_append.mpr ⟨lw_r2, lw_r3⟩⟩
-- ===== end of PART A; then your names; then what follows =====
end
section
/-! ===== BEGIN words of one list among another's, by their places ===== -/
theorem goodIn_r {big : List Cond} (ws : List Cond) (ps : List Nat) (hp : ws = ps.filterMap (fun i => big[i]?)) (h : ws.all goodWord = true) : GoodIn big ws := by
  intro w hw
  have h1 := List.all_eq_true.mp h w hw
  rw [hp] at hw
  obtain ⟨i, -, hi⟩ := List.mem_filterMap.mp hw
  have hm : w ∈ big := by first | exact List.mem_of_getElem? hi | exact List.getElem?_mem hi
  exact ⟨hm, good_of_word h1⟩
theorem goodIn_app {big a b : List Cond} (ha : GoodIn big a) (hb : GoodIn big b) : GoodIn big (a ++ b) := fun w h => (List.mem_append.mp h).elim (ha w) (hb w)
theorem goodIn_ca {big a b : List Cond} {c : Cond} (ha : GoodIn big (c :: a)) (hb : GoodIn big b) : GoodIn big (c :: (a ++ b)) := fun w h => (List.mem_cons.mp h).elim (fun e => ha w (List.mem_cons.mpr (Or.inl e))) (fun h => (List.mem_append.mp h).elim (fun h => ha w (List.mem_cons.mpr (Or.inr h))) (hb w))
theorem goodIn_sub {big ws : List Cond} (hm : ∀ w ∈ ws, w ∈ big) (h : ws.all goodWord = true) : GoodIn big ws := fun w hw => ⟨hm w hw, good_of_word (List.all_eq_true.mp h w hw)⟩
/-! ===== END ===== -/

/-! ===== BEGIN printed: names, fields, word lists, decode rows ===== -/
def RX0 : String := "OrderedClauses$History"
def TX0 : u_T := fun k => match k with
  | 0 => ("OrderedClauses$History", "states", "[LOrderedClauses$Store;", true)
  | _ => ("OrderedClauses$History", "kept", "I", false)
def tyX0 : Nat → FieldType := fun k => match k with
  | 0 => .array (.object "OrderedClauses$Store")
  | _ => .int
abbrev wsX00 : List Cond := u_ws RX0 TX0 2
theorem nmX0 : ∀ a, a < 2 → ∀ b, b < 2 → a ≠ b → (TX0 a).2.1 ≠ (TX0 b).2.1 := by decide +kernel
theorem tyX0_ok : ∀ k, k < 2 → parseFieldDescriptor (TX0 k).2.2.1 = some (tyX0 k) := by decide +kernel
abbrev cX0_init : ByteArray := prog_2_method_1_code
def yX0_init : MethodName := ⟨RX0, "<init>", "()V"⟩
abbrev cX0_stateAt : ByteArray := prog_2_method_2_code
def yX0_stateAt : MethodName := ⟨RX0, "stateAt", "(I)LOrderedClauses$Store;"⟩
abbrev cX0_putAside : ByteArray := prog_2_method_3_code
def yX0_putAside : MethodName := ⟨RX0, "putAside", "(LOrderedClauses$Store;)V"⟩
abbrev cX0_takeBack : ByteArray := prog_2_method_4_code
def yX0_takeBack : MethodName := ⟨RX0, "takeBack", "(LOrderedClauses$Store;)V"⟩
abbrev cX0_keep : ByteArray := prog_2_method_5_code
def yX0_keep : MethodName := ⟨RX0, "keep", "()V"⟩
abbrev cX0_dropOldest : ByteArray := prog_2_method_6_code
def yX0_dropOldest : MethodName := ⟨RX0, "dropOldest", "()V"⟩
abbrev cX0_restoreLatest : ByteArray := prog_2_method_7_code
def yX0_restoreLatest : MethodName := ⟨RX0, "restoreLatest", "(LOrderedClauses$Store;)Z"⟩
def RX1 : String := "OrderedClauses$Store"
def TX1 : u_T := fun k => match k with
  | 0 => ("OrderedClauses$Store", "atomOfRank", "[I", true)
  | 1 => ("OrderedClauses$Store", "literals", "[I", true)
  | 2 => ("OrderedClauses$Store", "status", "[I", true)
  | 3 => ("OrderedClauses$Store", "holdingParent", "[I", true)
  | 4 => ("OrderedClauses$Store", "otherParent", "[I", true)
  | 5 => ("OrderedClauses$Store", "atomMadeBy", "[I", true)
  | 6 => ("OrderedClauses$Store", "depth", "[I", true)
  | 7 => ("OrderedClauses$Store", "fulfilledBy", "[J", true)
  | 8 => ("OrderedClauses$Store", "clauses", "I", false)
  | 9 => ("OrderedClauses$Store", "steps", "I", false)
  | 10 => ("OrderedClauses$Store", "setting", "I", false)
  | 11 => ("OrderedClauses$Store", "heldAlways", "I", false)
  | _ => ("OrderedClauses$Store", "hadAnotherWithin", "I", false)
def tyX1 : Nat → FieldType := fun k => match k with
  | 0 => .array .int
  | 1 => .array .int
  | 2 => .array .int
  | 3 => .array .int
  | 4 => .array .int
  | 5 => .array .int
  | 6 => .array .int
  | 7 => .array .long
  | 8 => .int
  | 9 => .int
  | 10 => .int
  | 11 => .int
  | _ => .int
abbrev wsX10 : List Cond := u_ws RX1 TX1 13
theorem nmX1 : ∀ a, a < 13 → ∀ b, b < 13 → a ≠ b → (TX1 a).2.1 ≠ (TX1 b).2.1 := by decide +kernel
theorem tyX1_ok : ∀ k, k < 13 → parseFieldDescriptor (TX1 k).2.2.1 = some (tyX1 k) := by decide +kernel
abbrev cX1_init : ByteArray := prog_3_method_1_code
def yX1_init : MethodName := ⟨RX1, "<init>", "()V"⟩
abbrev cX1_copyFrom : ByteArray := prog_3_method_2_code
def yX1_copyFrom : MethodName := ⟨RX1, "copyFrom", "(LOrderedClauses$Store;)V"⟩
abbrev cX1_has : ByteArray := prog_3_method_3_code
def yX1_has : MethodName := ⟨RX1, "has", "(I)Z"⟩
abbrev cX1_isDropped : ByteArray := prog_3_method_4_code
def yX1_isDropped : MethodName := ⟨RX1, "isDropped", "(I)Z"⟩
abbrev cX1_wasTold : ByteArray := prog_3_method_5_code
def yX1_wasTold : MethodName := ⟨RX1, "wasTold", "(I)Z"⟩
abbrev cX1_rankOf : ByteArray := prog_3_method_6_code
def yX1_rankOf : MethodName := ⟨RX1, "rankOf", "(I)I"⟩
abbrev cX1_changeRank : ByteArray := prog_3_method_7_code
def yX1_changeRank : MethodName := ⟨RX1, "changeRank", "(II)I"⟩
abbrev cX1_greatestOf : ByteArray := prog_3_method_8_code
def yX1_greatestOf : MethodName := ⟨RX1, "greatestOf", "(I)I"⟩
abbrev cX1_isLess : ByteArray := prog_3_method_9_code
def yX1_isLess : MethodName := ⟨RX1, "isLess", "(II)Z"⟩
abbrev cX1_howManyLessThan : ByteArray := prog_3_method_10_code
def yX1_howManyLessThan : MethodName := ⟨RX1, "howManyLessThan", "(I)I"⟩
abbrev cX1_howMany : ByteArray := prog_3_method_11_code
def yX1_howMany : MethodName := ⟨RX1, "howMany", "(I)I"⟩
abbrev cX1_emptyClause : ByteArray := prog_3_method_12_code
def yX1_emptyClause : MethodName := ⟨RX1, "emptyClause", "()I"⟩
abbrev cX1_bring : ByteArray := prog_3_method_13_code
def yX1_bring : MethodName := ⟨RX1, "bring", "(IIII)I"⟩
abbrev cX1_hasAnotherWithin : ByteArray := prog_3_method_14_code
def yX1_hasAnotherWithin : MethodName := ⟨RX1, "hasAnotherWithin", "(I)Z"⟩
abbrev cX1_dropAllAround : ByteArray := prog_3_method_15_code
def yX1_dropAllAround : MethodName := ⟨RX1, "dropAllAround", "(I)V"⟩
abbrev cX1_takeIn : ByteArray := prog_3_method_16_code
def yX1_takeIn : MethodName := ⟨RX1, "takeIn", "(IIII)I"⟩
abbrev cX1_takeStep : ByteArray := prog_3_method_17_code
def yX1_takeStep : MethodName := ⟨RX1, "takeStep", "()I"⟩
abbrev cX1_nextChoice : ByteArray := prog_3_method_18_code
def yX1_nextChoice : MethodName := ⟨RX1, "nextChoice", "()I"⟩
abbrev cX1_resolveWithDone : ByteArray := prog_3_method_19_code
def yX1_resolveWithDone : MethodName := ⟨RX1, "resolveWithDone", "(I)Z"⟩
abbrev cX1_treeOf : ByteArray := prog_3_method_20_code
def yX1_treeOf : MethodName := ⟨RX1, "treeOf", "(I)J"⟩
abbrev cX1_toldClauses : ByteArray := prog_3_method_22_code
def yX1_toldClauses : MethodName := ⟨RX1, "toldClauses", "()J"⟩
abbrev cX1_valuesFulfilling : ByteArray := prog_3_method_23_code
def yX1_valuesFulfilling : MethodName := ⟨RX1, "valuesFulfilling", "(J)J"⟩
abbrev cX1_fewestUnfulfillable : ByteArray := prog_3_method_25_code
def yX1_fewestUnfulfillable : MethodName := ⟨RX1, "fewestUnfulfillable", "(J)J"⟩
def RX2 : String := "OrderedClauses$Text"
def TX2 : u_T := fun k => match k with
  | 0 => ("OrderedClauses$Text", "characters", "[I", true)
  | _ => ("OrderedClauses$Text", "length", "I", false)
def tyX2 : Nat → FieldType := fun k => match k with
  | 0 => .array .int
  | _ => .int
abbrev wsX20 : List Cond := u_ws RX2 TX2 2
theorem nmX2 : ∀ a, a < 2 → ∀ b, b < 2 → a ≠ b → (TX2 a).2.1 ≠ (TX2 b).2.1 := by decide +kernel
theorem tyX2_ok : ∀ k, k < 2 → parseFieldDescriptor (TX2 k).2.2.1 = some (tyX2 k) := by decide +kernel
abbrev cX2_init : ByteArray := prog_4_method_1_code
def yX2_init : MethodName := ⟨RX2, "<init>", "()V"⟩
abbrev cX2_add : ByteArray := prog_4_method_2_code
def yX2_add : MethodName := ⟨RX2, "add", "(I)Z"⟩
abbrev cX2_whereItBreaksOff : ByteArray := prog_4_method_3_code
def yX2_whereItBreaksOff : MethodName := ⟨RX2, "whereItBreaksOff", "()I"⟩
abbrev cX2_startOfClause : ByteArray := prog_4_method_4_code
def yX2_startOfClause : MethodName := ⟨RX2, "startOfClause", "(I)I"⟩
def RX3 : String := "OrderedClauses"
def TX3 : u_T := fun k => match k with
  | 0 => ("OrderedClauses", "store", "LOrderedClauses$Store;", true)
  | 1 => ("OrderedClauses", "history", "LOrderedClauses$History;", true)
  | _ => ("OrderedClauses", "text", "LOrderedClauses$Text;", true)
def tyX3 : Nat → FieldType := fun k => match k with
  | 0 => .object "OrderedClauses$Store"
  | 1 => .object "OrderedClauses$History"
  | _ => .object "OrderedClauses$Text"
abbrev wsX30 : List Cond := u_ws RX3 TX3 3
theorem nmX3 : ∀ a, a < 3 → ∀ b, b < 3 → a ≠ b → (TX3 a).2.1 ≠ (TX3 b).2.1 := by decide +kernel
theorem tyX3_ok : ∀ k, k < 3 → parseFieldDescriptor (TX3 k).2.2.1 = some (tyX3 k) := by decide +kernel
abbrev cX3_init : ByteArray := prog_1_method_1_code
def yX3_init : MethodName := ⟨RX3, "<init>", "()V"⟩
abbrev cX3_tell : ByteArray := prog_1_method_2_code
def yX3_tell : MethodName := ⟨RX3, "tell", "(I)I"⟩
abbrev cX3_rank : ByteArray := prog_1_method_3_code
def yX3_rank : MethodName := ⟨RX3, "rank", "(II)I"⟩
abbrev cX3_set : ByteArray := prog_1_method_4_code
def yX3_set : MethodName := ⟨RX3, "set", "(I)I"⟩
abbrev cX3_step : ByteArray := prog_1_method_5_code
def yX3_step : MethodName := ⟨RX3, "step", "()I"⟩
abbrev cX3_run : ByteArray := prog_1_method_6_code
def yX3_run : MethodName := ⟨RX3, "run", "(I)I"⟩
abbrev cX3_empty : ByteArray := prog_1_method_7_code
def yX3_empty : MethodName := ⟨RX3, "empty", "()I"⟩
abbrev cX3_clauseOf : ByteArray := prog_1_method_8_code
def yX3_clauseOf : MethodName := ⟨RX3, "clauseOf", "(II)I"⟩
abbrev cX3_tree : ByteArray := prog_1_method_9_code
def yX3_tree : MethodName := ⟨RX3, "tree", "(I)J"⟩
abbrev cX3_refutation : ByteArray := prog_1_method_11_code
def yX3_refutation : MethodName := ⟨RX3, "refutation", "()I"⟩
abbrev cX3_models : ByteArray := prog_1_method_12_code
def yX3_models : MethodName := ⟨RX3, "models", "()I"⟩
abbrev cX3_core : ByteArray := prog_1_method_15_code
def yX3_core : MethodName := ⟨RX3, "core", "()J"⟩
abbrev cX3_follows : ByteArray := prog_1_method_16_code
def yX3_follows : MethodName := ⟨RX3, "follows", "(I)I"⟩
abbrev cX3_share : ByteArray := prog_1_method_17_code
def yX3_share : MethodName := ⟨RX3, "share", "(I)I"⟩
abbrev cX3_count : ByteArray := prog_1_method_18_code
def yX3_count : MethodName := ⟨RX3, "count", "(I)I"⟩
abbrev cX3_undo : ByteArray := prog_1_method_19_code
def yX3_undo : MethodName := ⟨RX3, "undo", "()I"⟩
abbrev cX3_type : ByteArray := prog_1_method_20_code
def yX3_type : MethodName := ⟨RX3, "type", "(I)I"⟩
abbrev cX3_clearText : ByteArray := prog_1_method_21_code
def yX3_clearText : MethodName := ⟨RX3, "clearText", "()I"⟩
abbrev cX3_fault : ByteArray := prog_1_method_22_code
def yX3_fault : MethodName := ⟨RX3, "fault", "(I)I"⟩
abbrev cX3_play : ByteArray := prog_1_method_23_code
def yX3_play : MethodName := ⟨RX3, "play", "()I"⟩
abbrev cX3_settle : ByteArray := prog_1_method_24_code
def yX3_settle : MethodName := ⟨RX3, "settle", "(I)I"⟩
abbrev cX3_bringText : ByteArray := prog_1_method_25_code
def yX3_bringText : MethodName := ⟨RX3, "bringText", "()I"⟩
abbrev cX3_foundOrNot : ByteArray := prog_1_method_26_code
def yX3_foundOrNot : MethodName := ⟨RX3, "foundOrNot", "(I)I"⟩
abbrev cX3_at : ByteArray := prog_1_method_27_code
def yX3_at : MethodName := ⟨RX3, "at", "([II)I"⟩
abbrev cX3_put : ByteArray := prog_1_method_28_code
def yX3_put : MethodName := ⟨RX3, "put", "([III)V"⟩
abbrev cX3_longAt : ByteArray := prog_1_method_29_code
def yX3_longAt : MethodName := ⟨RX3, "longAt", "([JI)J"⟩
abbrev cX3_putLong : ByteArray := prog_1_method_30_code
def yX3_putLong : MethodName := ⟨RX3, "putLong", "([JIJ)V"⟩
abbrev cX3_copyRow : ByteArray := prog_1_method_31_code
def yX3_copyRow : MethodName := ⟨RX3, "copyRow", "([I[I)V"⟩
abbrev cX3_copyLongRow : ByteArray := prog_1_method_32_code
def yX3_copyLongRow : MethodName := ⟨RX3, "copyLongRow", "([J[J)V"⟩
abbrev cX3_isIn : ByteArray := prog_1_method_33_code
def yX3_isIn : MethodName := ⟨RX3, "isIn", "(JI)Z"⟩
abbrev cX3_setOf : ByteArray := prog_1_method_34_code
def yX3_setOf : MethodName := ⟨RX3, "setOf", "(I)J"⟩
abbrev cX3_isWithin : ByteArray := prog_1_method_35_code
def yX3_isWithin : MethodName := ⟨RX3, "isWithin", "(II)Z"⟩
abbrev cX3_holdsAlways : ByteArray := prog_1_method_36_code
def yX3_holdsAlways : MethodName := ⟨RX3, "holdsAlways", "(I)Z"⟩
abbrev cX3_valuesOfClause : ByteArray := prog_1_method_37_code
def yX3_valuesOfClause : MethodName := ⟨RX3, "valuesOfClause", "(I)J"⟩
abbrev cX3_floatBitsOf64ths : ByteArray := prog_1_method_38_code
def yX3_floatBitsOf64ths : MethodName := ⟨RX3, "floatBitsOf64ths", "(I)I"⟩
def RX4 : String := "OrderedClausesModel"
def TX4 : u_T := fun k => match k with
  | _ => ("", "", "", false)
def tyX4 : Nat → FieldType := fun k => match k with
  | _ => .int
abbrev wsX40 : List Cond := u_ws RX4 TX4 0
theorem nmX4 : ∀ a, a < 0 → ∀ b, b < 0 → a ≠ b → (TX4 a).2.1 ≠ (TX4 b).2.1 := by decide +kernel
theorem tyX4_ok : ∀ k, k < 0 → parseFieldDescriptor (TX4 k).2.2.1 = some (tyX4 k) := by decide +kernel
def RJ6 : String := "java/lang/Integer"
def TJ6 : u_T := fun k => match k with
  | _ => ("", "", "", false)
def tyJ6 : Nat → FieldType := fun k => match k with
  | _ => .int
abbrev wsJ60 : List Cond := u_ws RJ6 TJ6 0
theorem nmJ6 : ∀ a, a < 0 → ∀ b, b < 0 → a ≠ b → (TJ6 a).2.1 ≠ (TJ6 b).2.1 := by decide +kernel
theorem tyJ6_ok : ∀ k, k < 0 → parseFieldDescriptor (TJ6 k).2.2.1 = some (tyJ6 k) := by decide +kernel
abbrev cJ6_bitCount_0f7a4 : ByteArray := prog_7_method_49_code
def yJ6_bitCount_0f7a4 : MethodName := ⟨RJ6, "bitCount", "(I)I"⟩
def RJ13 : String := "java/lang/Long"
def TJ13 : u_T := fun k => match k with
  | _ => ("", "", "", false)
def tyJ13 : Nat → FieldType := fun k => match k with
  | _ => .int
abbrev wsJ130 : List Cond := u_ws RJ13 TJ13 0
theorem nmJ13 : ∀ a, a < 0 → ∀ b, b < 0 → a ≠ b → (TJ13 a).2.1 ≠ (TJ13 b).2.1 := by decide +kernel
theorem tyJ13_ok : ∀ k, k < 0 → parseFieldDescriptor (TJ13 k).2.2.1 = some (tyJ13 k) := by decide +kernel
abbrev cJ13_bitCount_95d88 : ByteArray := prog_8_method_50_code
def yJ13_bitCount_95d88 : MethodName := ⟨RJ13, "bitCount", "(J)I"⟩
def RJ9 : String := "java/lang/Math"
def TJ9 : u_T := fun k => match k with
  | _ => ("", "", "", false)
def tyJ9 : Nat → FieldType := fun k => match k with
  | _ => .int
abbrev wsJ90 : List Cond := u_ws RJ9 TJ9 0
theorem nmJ9 : ∀ a, a < 0 → ∀ b, b < 0 → a ≠ b → (TJ9 a).2.1 ≠ (TJ9 b).2.1 := by decide +kernel
theorem tyJ9_ok : ∀ k, k < 0 → parseFieldDescriptor (TJ9 k).2.2.1 = some (tyJ9 k) := by decide +kernel
abbrev cJ9_max_7cf53 : ByteArray := prog_9_method_65_code
def yJ9_max_7cf53 : MethodName := ⟨RJ9, "max", "(II)I"⟩
abbrev cJ9_min_7cf53 : ByteArray := prog_9_method_69_code
def yJ9_min_7cf53 : MethodName := ⟨RJ9, "min", "(II)I"⟩
def RJ10 : String := "java/lang/System"
def TJ10 : u_T := fun k => match k with
  | _ => ("", "", "", false)
def tyJ10 : Nat → FieldType := fun k => match k with
  | _ => .int
abbrev wsJ100 : List Cond := u_ws RJ10 TJ10 0
theorem nmJ10 : ∀ a, a < 0 → ∀ b, b < 0 → a ≠ b → (TJ10 a).2.1 ≠ (TJ10 b).2.1 := by decide +kernel
theorem tyJ10_ok : ∀ k, k < 0 → parseFieldDescriptor (TJ10 k).2.2.1 = some (tyJ10 k) := by decide +kernel
def RL : String := "OrderedClausesLaw"
abbrev cL_lot : ByteArray := method_2_code
def yL_lot : MethodName := ⟨RL, "lot", "([II)I"⟩
abbrev cL_low : ByteArray := method_3_code
def yL_low : MethodName := ⟨RL, "low", "(II)I"⟩
abbrev cL_digest : ByteArray := method_4_code
def yL_digest : MethodName := ⟨RL, "digest", "(LOrderedClauses;)J"⟩
abbrev cL_holds : ByteArray := method_5_code
def yL_holds : MethodName := ⟨RL, "holds", "(LOrderedClauses;)Z"⟩
abbrev cL_types : ByteArray := method_6_code
def yL_types : MethodName := ⟨RL, "types", "(LOrderedClauses;I)Z"⟩
abbrev cL_plays : ByteArray := method_7_code
def yL_plays : MethodName := ⟨RL, "plays", "(LOrderedClauses;)Z"⟩
abbrev cL_acts : ByteArray := method_8_code
def yL_acts : MethodName := ⟨RL, "acts", "(LOrderedClauses;II)Z"⟩
abbrev cL_law : ByteArray := code
def yL_law : MethodName := ⟨RL, "law", "([I)Z"⟩
def wsX3_put : List Cond := .code yX3_put cX3_put 3 none :: ([])
def wsX1_init : List Cond := .code yX1_init cX1_init 2 none :: ([.methodLink RX1 3 objectInit, .instanceMethod objectInit, .code objectInit ⟨#[0xb1]⟩ 1 none, .arrayClass .int, .fieldLink RX1 9 "OrderedClauses$Store" "atomOfRank" "[I", .fieldLink RX1 15 "OrderedClauses$Store" "literals" "[I", .fieldLink RX1 18 "OrderedClauses$Store" "status" "[I", .fieldLink RX1 21 "OrderedClauses$Store" "holdingParent" "[I", .fieldLink RX1 24 "OrderedClauses$Store" "otherParent" "[I", .fieldLink RX1 27 "OrderedClauses$Store" "atomMadeBy" "[I", .fieldLink RX1 30 "OrderedClauses$Store" "depth" "[I", .arrayClass .long, .fieldLink RX1 33 "OrderedClauses$Store" "fulfilledBy" "[J", .fieldLink RX1 37 "OrderedClauses$Store" "clauses" "I", .fieldLink RX1 41 "OrderedClauses$Store" "steps" "I", .fieldLink RX1 44 "OrderedClauses$Store" "setting" "I", .fieldLink RX1 47 "OrderedClauses$Store" "heldAlways" "I", .fieldLink RX1 50 "OrderedClauses$Store" "hadAnotherWithin" "I", .static yX3_put, .initialized RX3, .code yX3_put cX3_put 3 none] ++ wsX10)
def wsX0_init_r1 : List Cond := [Cond.methodLink RX0 3 objectInit, Cond.instanceMethod objectInit, Cond.code objectInit ⟨#[0xb1]⟩ 1 none, Cond.classLink RX0 9 RX1, Cond.fieldLink RX0 11 "OrderedClauses$History" "states" "[LOrderedClauses$Store;", Cond.fieldLink RX0 17 "OrderedClauses$History" "kept" "I", Cond.instantiable RX1 13, Cond.initialized RX1, Cond.instanceMethod yX1_init, Cond.code yX1_init cX1_init 2 none, Cond.methodLink RX1 3 objectInit, Cond.arrayClass .int, Cond.fieldLink RX1 9 "OrderedClauses$Store" "atomOfRank" "[I", Cond.fieldLink RX1 15 "OrderedClauses$Store" "literals" "[I", Cond.fieldLink RX1 18 "OrderedClauses$Store" "status" "[I", Cond.fieldLink RX1 21 "OrderedClauses$Store" "holdingParent" "[I", Cond.fieldLink RX1 24 "OrderedClauses$Store" "otherParent" "[I", Cond.fieldLink RX1 27 "OrderedClauses$Store" "atomMadeBy" "[I", Cond.fieldLink RX1 30 "OrderedClauses$Store" "depth" "[I", Cond.arrayClass .long, Cond.fieldLink RX1 33 "OrderedClauses$Store" "fulfilledBy" "[J", Cond.fieldLink RX1 37 "OrderedClauses$Store" "clauses" "I", Cond.fieldLink RX1 41 "OrderedClauses$Store" "steps" "I", Cond.fieldLink RX1 44 "OrderedClauses$Store" "setting" "I"]
def wsX0_init_r2 : List Cond := [Cond.fieldLink RX1 47 "OrderedClauses$Store" "heldAlways" "I", Cond.fieldLink RX1 50 "OrderedClauses$Store" "hadAnotherWithin" "I", Cond.static yX3_put, Cond.initialized RX3, Cond.code yX3_put cX3_put 3 none]
def wsX0_init : List Cond := .code yX0_init cX0_init 2 none :: ((wsX0_init_r1 ++ wsX0_init_r2) ++ wsX00 ++ wsX10)
def wsX0_stateAt : List Cond := .code yX0_stateAt cX0_stateAt 2 (some (.object "OrderedClauses$Store")) :: ([.fieldLink RX0 11 "OrderedClauses$History" "states" "[LOrderedClauses$Store;"] ++ wsX00)
def wsX3_copyRow : List Cond := .code yX3_copyRow cX3_copyRow 2 none :: ([.methodLink RX3 193 Lib.Math.min.name, .static Lib.Math.min.name, .initialized "java/lang/Math", .code Lib.Math.min.name Lib.Math.min.code 2 (some .int), .methodLink RX3 198 arraycopyName, .native arraycopyName, .static arraycopyName, .initialized "java/lang/System"])
def wsX3_copyLongRow : List Cond := .code yX3_copyLongRow cX3_copyLongRow 2 none :: ([.methodLink RX3 193 Lib.Math.min.name, .static Lib.Math.min.name, .initialized "java/lang/Math", .code Lib.Math.min.name Lib.Math.min.code 2 (some .int), .methodLink RX3 198 arraycopyName, .native arraycopyName, .static arraycopyName, .initialized "java/lang/System"])
def wsX1_copyFrom_r1 : List Cond := [Cond.fieldLink RX1 9 "OrderedClauses$Store" "atomOfRank" "[I", Cond.fieldLink RX1 15 "OrderedClauses$Store" "literals" "[I", Cond.fieldLink RX1 18 "OrderedClauses$Store" "status" "[I", Cond.fieldLink RX1 21 "OrderedClauses$Store" "holdingParent" "[I", Cond.fieldLink RX1 24 "OrderedClauses$Store" "otherParent" "[I", Cond.fieldLink RX1 27 "OrderedClauses$Store" "atomMadeBy" "[I", Cond.fieldLink RX1 30 "OrderedClauses$Store" "depth" "[I", Cond.fieldLink RX1 33 "OrderedClauses$Store" "fulfilledBy" "[J", Cond.fieldLink RX1 37 "OrderedClauses$Store" "clauses" "I", Cond.fieldLink RX1 41 "OrderedClauses$Store" "steps" "I", Cond.fieldLink RX1 44 "OrderedClauses$Store" "setting" "I", Cond.fieldLink RX1 47 "OrderedClauses$Store" "heldAlways" "I", Cond.fieldLink RX1 50 "OrderedClauses$Store" "hadAnotherWithin" "I", Cond.static yX3_copyRow, Cond.initialized RX3, Cond.code yX3_copyRow cX3_copyRow 2 none, Cond.methodLink RX3 193 Lib.Math.min.name, Cond.static Lib.Math.min.name, Cond.initialized "java/lang/Math", Cond.code Lib.Math.min.name Lib.Math.min.code 2 (some .int), Cond.methodLink RX3 198 arraycopyName, Cond.native arraycopyName, Cond.static arraycopyName, Cond.initialized "java/lang/System"]
def wsX1_copyFrom_r2 : List Cond := [Cond.static yX3_copyLongRow, Cond.code yX3_copyLongRow cX3_copyLongRow 2 none]
def wsX1_copyFrom : List Cond := .code yX1_copyFrom cX1_copyFrom 2 none :: ((wsX1_copyFrom_r1 ++ wsX1_copyFrom_r2) ++ wsX10)
def wsX0_putAside_r1 : List Cond := [Cond.fieldLink RX0 17 "OrderedClauses$History" "kept" "I", Cond.methodLink RX0 22 yX0_stateAt, Cond.instanceMethod yX0_stateAt, Cond.selects RX0 yX0_stateAt yX0_stateAt, Cond.initialized RX0, Cond.code yX0_stateAt cX0_stateAt 2 (some (.object "OrderedClauses$Store")), Cond.fieldLink RX0 11 "OrderedClauses$History" "states" "[LOrderedClauses$Store;", Cond.instanceMethod yX1_copyFrom, Cond.initialized RX1, Cond.selects RX1 yX1_copyFrom yX1_copyFrom, Cond.code yX1_copyFrom cX1_copyFrom 2 none, Cond.fieldLink RX1 9 "OrderedClauses$Store" "atomOfRank" "[I", Cond.fieldLink RX1 15 "OrderedClauses$Store" "literals" "[I", Cond.fieldLink RX1 18 "OrderedClauses$Store" "status" "[I", Cond.fieldLink RX1 21 "OrderedClauses$Store" "holdingParent" "[I", Cond.fieldLink RX1 24 "OrderedClauses$Store" "otherParent" "[I", Cond.fieldLink RX1 27 "OrderedClauses$Store" "atomMadeBy" "[I", Cond.fieldLink RX1 30 "OrderedClauses$Store" "depth" "[I", Cond.fieldLink RX1 33 "OrderedClauses$Store" "fulfilledBy" "[J", Cond.fieldLink RX1 37 "OrderedClauses$Store" "clauses" "I", Cond.fieldLink RX1 41 "OrderedClauses$Store" "steps" "I", Cond.fieldLink RX1 44 "OrderedClauses$Store" "setting" "I", Cond.fieldLink RX1 47 "OrderedClauses$Store" "heldAlways" "I", Cond.fieldLink RX1 50 "OrderedClauses$Store" "hadAnotherWithin" "I"]
def wsX0_putAside_r2 : List Cond := [Cond.static yX3_copyRow, Cond.initialized RX3, Cond.code yX3_copyRow cX3_copyRow 2 none, Cond.methodLink RX3 193 Lib.Math.min.name, Cond.static Lib.Math.min.name, Cond.initialized "java/lang/Math", Cond.code Lib.Math.min.name Lib.Math.min.code 2 (some .int), Cond.methodLink RX3 198 arraycopyName, Cond.native arraycopyName, Cond.static arraycopyName, Cond.initialized "java/lang/System", Cond.static yX3_copyLongRow, Cond.code yX3_copyLongRow cX3_copyLongRow 2 none]
def wsX0_putAside : List Cond := .code yX0_putAside cX0_putAside 3 none :: ((wsX0_putAside_r1 ++ wsX0_putAside_r2) ++ wsX00 ++ wsX10)
def wsX0_takeBack_r1 : List Cond := [Cond.fieldLink RX0 17 "OrderedClauses$History" "kept" "I", Cond.methodLink RX0 22 yX0_stateAt, Cond.instanceMethod yX0_stateAt, Cond.selects RX0 yX0_stateAt yX0_stateAt, Cond.initialized RX0, Cond.code yX0_stateAt cX0_stateAt 2 (some (.object "OrderedClauses$Store")), Cond.fieldLink RX0 11 "OrderedClauses$History" "states" "[LOrderedClauses$Store;", Cond.instanceMethod yX1_copyFrom, Cond.initialized RX1, Cond.selects RX1 yX1_copyFrom yX1_copyFrom, Cond.code yX1_copyFrom cX1_copyFrom 2 none, Cond.fieldLink RX1 9 "OrderedClauses$Store" "atomOfRank" "[I", Cond.fieldLink RX1 15 "OrderedClauses$Store" "literals" "[I", Cond.fieldLink RX1 18 "OrderedClauses$Store" "status" "[I", Cond.fieldLink RX1 21 "OrderedClauses$Store" "holdingParent" "[I", Cond.fieldLink RX1 24 "OrderedClauses$Store" "otherParent" "[I", Cond.fieldLink RX1 27 "OrderedClauses$Store" "atomMadeBy" "[I", Cond.fieldLink RX1 30 "OrderedClauses$Store" "depth" "[I", Cond.fieldLink RX1 33 "OrderedClauses$Store" "fulfilledBy" "[J", Cond.fieldLink RX1 37 "OrderedClauses$Store" "clauses" "I", Cond.fieldLink RX1 41 "OrderedClauses$Store" "steps" "I", Cond.fieldLink RX1 44 "OrderedClauses$Store" "setting" "I", Cond.fieldLink RX1 47 "OrderedClauses$Store" "heldAlways" "I", Cond.fieldLink RX1 50 "OrderedClauses$Store" "hadAnotherWithin" "I"]
def wsX0_takeBack_r2 : List Cond := [Cond.static yX3_copyRow, Cond.initialized RX3, Cond.code yX3_copyRow cX3_copyRow 2 none, Cond.methodLink RX3 193 Lib.Math.min.name, Cond.static Lib.Math.min.name, Cond.initialized "java/lang/Math", Cond.code Lib.Math.min.name Lib.Math.min.code 2 (some .int), Cond.methodLink RX3 198 arraycopyName, Cond.native arraycopyName, Cond.static arraycopyName, Cond.initialized "java/lang/System", Cond.static yX3_copyLongRow, Cond.code yX3_copyLongRow cX3_copyLongRow 2 none]
def wsX0_takeBack : List Cond := .code yX0_takeBack cX0_takeBack 2 none :: ((wsX0_takeBack_r1 ++ wsX0_takeBack_r2) ++ wsX00 ++ wsX10)
def wsX0_dropOldest : List Cond := .code yX0_dropOldest cX0_dropOldest 4 none :: ([.fieldLink RX0 11 "OrderedClauses$History" "states" "[LOrderedClauses$Store;", .methodLink RX0 22 yX0_stateAt, .instanceMethod yX0_stateAt, .selects RX0 yX0_stateAt yX0_stateAt, .initialized RX0, .code yX0_stateAt cX0_stateAt 2 (some (.object "OrderedClauses$Store"))] ++ wsX00)
def wsX0_keep : List Cond := .code yX0_keep cX0_keep 1 none :: ([.fieldLink RX0 17 "OrderedClauses$History" "kept" "I", .methodLink RX0 30 yX0_dropOldest, .instanceMethod yX0_dropOldest, .selects RX0 yX0_dropOldest yX0_dropOldest, .initialized RX0, .code yX0_dropOldest cX0_dropOldest 4 none, .fieldLink RX0 11 "OrderedClauses$History" "states" "[LOrderedClauses$Store;", .methodLink RX0 22 yX0_stateAt, .instanceMethod yX0_stateAt, .selects RX0 yX0_stateAt yX0_stateAt, .code yX0_stateAt cX0_stateAt 2 (some (.object "OrderedClauses$Store"))] ++ wsX00)
def wsX0_restoreLatest_r1 : List Cond := [Cond.fieldLink RX0 17 "OrderedClauses$History" "kept" "I", Cond.methodLink RX0 22 yX0_stateAt, Cond.instanceMethod yX0_stateAt, Cond.selects RX0 yX0_stateAt yX0_stateAt, Cond.initialized RX0, Cond.code yX0_stateAt cX0_stateAt 2 (some (.object "OrderedClauses$Store")), Cond.fieldLink RX0 11 "OrderedClauses$History" "states" "[LOrderedClauses$Store;", Cond.instanceMethod yX1_copyFrom, Cond.initialized RX1, Cond.selects RX1 yX1_copyFrom yX1_copyFrom, Cond.code yX1_copyFrom cX1_copyFrom 2 none, Cond.fieldLink RX1 9 "OrderedClauses$Store" "atomOfRank" "[I", Cond.fieldLink RX1 15 "OrderedClauses$Store" "literals" "[I", Cond.fieldLink RX1 18 "OrderedClauses$Store" "status" "[I", Cond.fieldLink RX1 21 "OrderedClauses$Store" "holdingParent" "[I", Cond.fieldLink RX1 24 "OrderedClauses$Store" "otherParent" "[I", Cond.fieldLink RX1 27 "OrderedClauses$Store" "atomMadeBy" "[I", Cond.fieldLink RX1 30 "OrderedClauses$Store" "depth" "[I", Cond.fieldLink RX1 33 "OrderedClauses$Store" "fulfilledBy" "[J", Cond.fieldLink RX1 37 "OrderedClauses$Store" "clauses" "I", Cond.fieldLink RX1 41 "OrderedClauses$Store" "steps" "I", Cond.fieldLink RX1 44 "OrderedClauses$Store" "setting" "I", Cond.fieldLink RX1 47 "OrderedClauses$Store" "heldAlways" "I", Cond.fieldLink RX1 50 "OrderedClauses$Store" "hadAnotherWithin" "I"]
def wsX0_restoreLatest_r2 : List Cond := [Cond.static yX3_copyRow, Cond.initialized RX3, Cond.code yX3_copyRow cX3_copyRow 2 none, Cond.methodLink RX3 193 Lib.Math.min.name, Cond.static Lib.Math.min.name, Cond.initialized "java/lang/Math", Cond.code Lib.Math.min.name Lib.Math.min.code 2 (some .int), Cond.methodLink RX3 198 arraycopyName, Cond.native arraycopyName, Cond.static arraycopyName, Cond.initialized "java/lang/System", Cond.static yX3_copyLongRow, Cond.code yX3_copyLongRow cX3_copyLongRow 2 none]
def wsX0_restoreLatest : List Cond := .code yX0_restoreLatest cX0_restoreLatest 2 (some .boolean) :: ((wsX0_restoreLatest_r1 ++ wsX0_restoreLatest_r2) ++ wsX00 ++ wsX10)
def wsX1_has : List Cond := .code yX1_has cX1_has 2 (some .boolean) :: ([.fieldLink RX1 37 "OrderedClauses$Store" "clauses" "I"] ++ wsX10)
def wsX3_at : List Cond := .code yX3_at cX3_at 2 (some .int) :: ([])
def wsX1_isDropped : List Cond := .code yX1_isDropped cX1_isDropped 2 (some .boolean) :: ([.fieldLink RX1 18 "OrderedClauses$Store" "status" "[I", .static yX3_at, .initialized RX3, .code yX3_at cX3_at 2 (some .int)] ++ wsX10)
def wsX1_wasTold : List Cond := .code yX1_wasTold cX1_wasTold 2 (some .boolean) :: ([.fieldLink RX1 21 "OrderedClauses$Store" "holdingParent" "[I", .static yX3_at, .initialized RX3, .code yX3_at cX3_at 2 (some .int)] ++ wsX10)
def wsX1_rankOf : List Cond := .code yX1_rankOf cX1_rankOf 3 (some .int) :: ([.fieldLink RX1 9 "OrderedClauses$Store" "atomOfRank" "[I", .static yX3_at, .initialized RX3, .code yX3_at cX3_at 2 (some .int)] ++ wsX10)
def wsX1_changeRank : List Cond := .code yX1_changeRank cX1_changeRank 5 (some .int) :: ([.fieldLink RX1 9 "OrderedClauses$Store" "atomOfRank" "[I", .fieldLink RX1 37 "OrderedClauses$Store" "clauses" "I", .fieldLink RX1 18 "OrderedClauses$Store" "status" "[I", .methodLink RX1 69 yX1_rankOf, .instanceMethod yX1_rankOf, .selects RX1 yX1_rankOf yX1_rankOf, .initialized RX1, .code yX1_rankOf cX1_rankOf 3 (some .int), .static yX3_at, .initialized RX3, .code yX3_at cX3_at 2 (some .int), .static yX3_put, .code yX3_put cX3_put 3 none] ++ wsX10)
def wsX1_greatestOf : List Cond := .code yX1_greatestOf cX1_greatestOf 5 (some .int) :: ([.fieldLink RX1 9 "OrderedClauses$Store" "atomOfRank" "[I", .static yX3_at, .initialized RX3, .code yX3_at cX3_at 2 (some .int)] ++ wsX10)
def wsX3_isIn : List Cond := .code yX3_isIn cX3_isIn 3 (some .boolean) :: ([])
def wsX1_isLess : List Cond := .code yX1_isLess cX1_isLess 4 (some .boolean) :: ([.methodLink RX1 73 yX1_greatestOf, .instanceMethod yX1_greatestOf, .selects RX1 yX1_greatestOf yX1_greatestOf, .initialized RX1, .code yX1_greatestOf cX1_greatestOf 5 (some .int), .fieldLink RX1 9 "OrderedClauses$Store" "atomOfRank" "[I", .static yX3_at, .initialized RX3, .code yX3_at cX3_at 2 (some .int), .static yX3_isIn, .code yX3_isIn cX3_isIn 3 (some .boolean)] ++ wsX10)
def wsX1_howManyLessThan : List Cond := .code yX1_howManyLessThan cX1_howManyLessThan 4 (some .int) :: ([.fieldLink RX1 37 "OrderedClauses$Store" "clauses" "I", .fieldLink RX1 15 "OrderedClauses$Store" "literals" "[I", .methodLink RX1 80 yX1_isDropped, .instanceMethod yX1_isDropped, .selects RX1 yX1_isDropped yX1_isDropped, .initialized RX1, .code yX1_isDropped cX1_isDropped 2 (some .boolean), .fieldLink RX1 18 "OrderedClauses$Store" "status" "[I", .static yX3_at, .initialized RX3, .code yX3_at cX3_at 2 (some .int), .methodLink RX1 84 yX1_isLess, .instanceMethod yX1_isLess, .selects RX1 yX1_isLess yX1_isLess, .code yX1_isLess cX1_isLess 4 (some .boolean), .methodLink RX1 73 yX1_greatestOf, .instanceMethod yX1_greatestOf, .selects RX1 yX1_greatestOf yX1_greatestOf, .code yX1_greatestOf cX1_greatestOf 5 (some .int), .fieldLink RX1 9 "OrderedClauses$Store" "atomOfRank" "[I", .static yX3_isIn, .code yX3_isIn cX3_isIn 3 (some .boolean)] ++ wsX10)
def wsX1_howMany : List Cond := .code yX1_howMany cX1_howMany 4 (some .int) :: ([.fieldLink RX1 37 "OrderedClauses$Store" "clauses" "I", .fieldLink RX1 18 "OrderedClauses$Store" "status" "[I", .static yX3_at, .initialized RX3, .code yX3_at cX3_at 2 (some .int)] ++ wsX10)
def wsX1_emptyClause : List Cond := .code yX1_emptyClause cX1_emptyClause 2 (some .int) :: ([.fieldLink RX1 37 "OrderedClauses$Store" "clauses" "I", .fieldLink RX1 15 "OrderedClauses$Store" "literals" "[I", .static yX3_at, .initialized RX3, .code yX3_at cX3_at 2 (some .int)] ++ wsX10)
def wsX3_holdsAlways : List Cond := .code yX3_holdsAlways cX3_holdsAlways 1 (some .boolean) :: ([])
def wsX3_isWithin : List Cond := .code yX3_isWithin cX3_isWithin 2 (some .boolean) :: ([])
def wsX1_hasAnotherWithin : List Cond := .code yX1_hasAnotherWithin cX1_hasAnotherWithin 3 (some .boolean) :: ([.fieldLink RX1 37 "OrderedClauses$Store" "clauses" "I", .fieldLink RX1 15 "OrderedClauses$Store" "literals" "[I", .methodLink RX1 80 yX1_isDropped, .instanceMethod yX1_isDropped, .selects RX1 yX1_isDropped yX1_isDropped, .initialized RX1, .code yX1_isDropped cX1_isDropped 2 (some .boolean), .fieldLink RX1 18 "OrderedClauses$Store" "status" "[I", .static yX3_at, .initialized RX3, .code yX3_at cX3_at 2 (some .int), .static yX3_isWithin, .code yX3_isWithin cX3_isWithin 2 (some .boolean)] ++ wsX10)
def wsX1_dropAllAround : List Cond := .code yX1_dropAllAround cX1_dropAllAround 3 none :: ([.fieldLink RX1 37 "OrderedClauses$Store" "clauses" "I", .fieldLink RX1 15 "OrderedClauses$Store" "literals" "[I", .fieldLink RX1 18 "OrderedClauses$Store" "status" "[I", .static yX3_at, .initialized RX3, .code yX3_at cX3_at 2 (some .int), .static yX3_isWithin, .code yX3_isWithin cX3_isWithin 2 (some .boolean), .static yX3_put, .code yX3_put cX3_put 3 none] ++ wsX10)
def wsX3_longAt : List Cond := .code yX3_longAt cX3_longAt 2 (some .long) :: ([])
def wsX3_valuesOfClause : List Cond := .code yX3_valuesOfClause cX3_valuesOfClause 7 (some .long) :: ([.fieldLink RX3 204 "OrderedClauses" "VALUES_WITH_ATOM" "[J", .constantLong RX3 145 (-1), .methodLink RX3 208 yX3_longAt, .static yX3_longAt, .initialized RX3, .code yX3_longAt cX3_longAt 2 (some .long)])
def wsX3_putLong : List Cond := .code yX3_putLong cX3_putLong 4 none :: ([])
def wsX1_takeIn_r1 : List Cond := [Cond.fieldLink RX1 37 "OrderedClauses$Store" "clauses" "I", Cond.fieldLink RX1 15 "OrderedClauses$Store" "literals" "[I", Cond.fieldLink RX1 18 "OrderedClauses$Store" "status" "[I", Cond.fieldLink RX1 21 "OrderedClauses$Store" "holdingParent" "[I", Cond.fieldLink RX1 24 "OrderedClauses$Store" "otherParent" "[I", Cond.fieldLink RX1 27 "OrderedClauses$Store" "atomMadeBy" "[I", Cond.fieldLink RX1 30 "OrderedClauses$Store" "depth" "[I", Cond.methodLink RX1 106 Lib.Math.max.name, Cond.static Lib.Math.max.name, Cond.initialized "java/lang/Math", Cond.code Lib.Math.max.name Lib.Math.max.code 2 (some .int), Cond.fieldLink RX1 33 "OrderedClauses$Store" "fulfilledBy" "[J", Cond.static yX3_put, Cond.initialized RX3, Cond.code yX3_put cX3_put 3 none, Cond.static yX3_at, Cond.code yX3_at cX3_at 2 (some .int), Cond.static yX3_valuesOfClause, Cond.code yX3_valuesOfClause cX3_valuesOfClause 7 (some .long), Cond.fieldLink RX3 204 "OrderedClauses" "VALUES_WITH_ATOM" "[J", Cond.constantLong RX3 145 (-1), Cond.methodLink RX3 208 yX3_longAt, Cond.static yX3_longAt, Cond.code yX3_longAt cX3_longAt 2 (some .long)]
def wsX1_takeIn_r2 : List Cond := [Cond.static yX3_putLong, Cond.code yX3_putLong cX3_putLong 4 none]
def wsX1_takeIn : List Cond := .code yX1_takeIn cX1_takeIn 7 (some .int) :: ((wsX1_takeIn_r1 ++ wsX1_takeIn_r2) ++ wsX10)
def wsX1_bring_r1 : List Cond := [Cond.fieldLink RX1 47 "OrderedClauses$Store" "heldAlways" "I", Cond.fieldLink RX1 50 "OrderedClauses$Store" "hadAnotherWithin" "I", Cond.fieldLink RX1 37 "OrderedClauses$Store" "clauses" "I", Cond.constant RX1 94 (-1000003), Cond.static yX3_holdsAlways, Cond.initialized RX3, Cond.code yX3_holdsAlways cX3_holdsAlways 1 (some .boolean), Cond.methodLink RX1 91 yX1_hasAnotherWithin, Cond.instanceMethod yX1_hasAnotherWithin, Cond.selects RX1 yX1_hasAnotherWithin yX1_hasAnotherWithin, Cond.initialized RX1, Cond.code yX1_hasAnotherWithin cX1_hasAnotherWithin 3 (some .boolean), Cond.fieldLink RX1 15 "OrderedClauses$Store" "literals" "[I", Cond.methodLink RX1 80 yX1_isDropped, Cond.instanceMethod yX1_isDropped, Cond.selects RX1 yX1_isDropped yX1_isDropped, Cond.code yX1_isDropped cX1_isDropped 2 (some .boolean), Cond.fieldLink RX1 18 "OrderedClauses$Store" "status" "[I", Cond.static yX3_at, Cond.code yX3_at cX3_at 2 (some .int), Cond.static yX3_isWithin, Cond.code yX3_isWithin cX3_isWithin 2 (some .boolean), Cond.methodLink RX1 95 yX1_dropAllAround, Cond.instanceMethod yX1_dropAllAround]
def wsX1_bring_r2 : List Cond := [Cond.selects RX1 yX1_dropAllAround yX1_dropAllAround, Cond.code yX1_dropAllAround cX1_dropAllAround 3 none, Cond.static yX3_put, Cond.code yX3_put cX3_put 3 none, Cond.methodLink RX1 99 yX1_takeIn, Cond.instanceMethod yX1_takeIn, Cond.selects RX1 yX1_takeIn yX1_takeIn, Cond.code yX1_takeIn cX1_takeIn 7 (some .int), Cond.fieldLink RX1 21 "OrderedClauses$Store" "holdingParent" "[I", Cond.fieldLink RX1 24 "OrderedClauses$Store" "otherParent" "[I", Cond.fieldLink RX1 27 "OrderedClauses$Store" "atomMadeBy" "[I", Cond.fieldLink RX1 30 "OrderedClauses$Store" "depth" "[I", Cond.methodLink RX1 106 Lib.Math.max.name, Cond.static Lib.Math.max.name, Cond.initialized "java/lang/Math", Cond.code Lib.Math.max.name Lib.Math.max.code 2 (some .int), Cond.fieldLink RX1 33 "OrderedClauses$Store" "fulfilledBy" "[J", Cond.static yX3_valuesOfClause, Cond.code yX3_valuesOfClause cX3_valuesOfClause 7 (some .long), Cond.fieldLink RX3 204 "OrderedClauses" "VALUES_WITH_ATOM" "[J", Cond.constantLong RX3 145 (-1), Cond.methodLink RX3 208 yX3_longAt, Cond.static yX3_longAt, Cond.code yX3_longAt cX3_longAt 2 (some .long)]
def wsX1_bring_r3 : List Cond := [Cond.static yX3_putLong, Cond.code yX3_putLong cX3_putLong 4 none]
def wsX1_bring : List Cond := .code yX1_bring cX1_bring 5 (some .int) :: ((wsX1_bring_r1 ++ (wsX1_bring_r2 ++ wsX1_bring_r3)) ++ wsX10)
def wsJ6_bitCount_0f7a4 : List Cond := .code yJ6_bitCount_0f7a4 cJ6_bitCount_0f7a4 1 (some .int) :: ([.constant RJ6 265 (1431655765), .constant RJ6 266 (858993459), .constant RJ6 267 (252645135)])
def wsX1_nextChoice : List Cond := .code yX1_nextChoice cX1_nextChoice 6 (some .int) :: ([.fieldLink RX1 44 "OrderedClauses$Store" "setting" "I", .fieldLink RX1 41 "OrderedClauses$Store" "steps" "I", .fieldLink RX1 37 "OrderedClauses$Store" "clauses" "I", .fieldLink RX1 15 "OrderedClauses$Store" "literals" "[I", .fieldLink RX1 18 "OrderedClauses$Store" "status" "[I", .static yX3_at, .initialized RX3, .code yX3_at cX3_at 2 (some .int), .methodLink RX1 131 yJ6_bitCount_0f7a4, .static yJ6_bitCount_0f7a4, .initialized RJ6, .code yJ6_bitCount_0f7a4 cJ6_bitCount_0f7a4 1 (some .int), .constant RJ6 265 (1431655765), .constant RJ6 266 (858993459), .constant RJ6 267 (252645135)] ++ wsX10)
def wsX1_resolveWithDone_r1 : List Cond := [Cond.fieldLink RX1 15 "OrderedClauses$Store" "literals" "[I", Cond.fieldLink RX1 37 "OrderedClauses$Store" "clauses" "I", Cond.fieldLink RX1 18 "OrderedClauses$Store" "status" "[I", Cond.constant RX1 94 (-1000003), Cond.static yX3_at, Cond.initialized RX3, Cond.code yX3_at cX3_at 2 (some .int), Cond.methodLink RX1 73 yX1_greatestOf, Cond.instanceMethod yX1_greatestOf, Cond.selects RX1 yX1_greatestOf yX1_greatestOf, Cond.initialized RX1, Cond.code yX1_greatestOf cX1_greatestOf 5 (some .int), Cond.fieldLink RX1 9 "OrderedClauses$Store" "atomOfRank" "[I", Cond.methodLink RX1 80 yX1_isDropped, Cond.instanceMethod yX1_isDropped, Cond.selects RX1 yX1_isDropped yX1_isDropped, Cond.code yX1_isDropped cX1_isDropped 2 (some .boolean), Cond.methodLink RX1 136 yX1_bring, Cond.instanceMethod yX1_bring, Cond.selects RX1 yX1_bring yX1_bring, Cond.code yX1_bring cX1_bring 5 (some .int), Cond.fieldLink RX1 47 "OrderedClauses$Store" "heldAlways" "I", Cond.fieldLink RX1 50 "OrderedClauses$Store" "hadAnotherWithin" "I", Cond.static yX3_holdsAlways]
def wsX1_resolveWithDone_r2 : List Cond := [Cond.code yX3_holdsAlways cX3_holdsAlways 1 (some .boolean), Cond.methodLink RX1 91 yX1_hasAnotherWithin, Cond.instanceMethod yX1_hasAnotherWithin, Cond.selects RX1 yX1_hasAnotherWithin yX1_hasAnotherWithin, Cond.code yX1_hasAnotherWithin cX1_hasAnotherWithin 3 (some .boolean), Cond.static yX3_isWithin, Cond.code yX3_isWithin cX3_isWithin 2 (some .boolean), Cond.methodLink RX1 95 yX1_dropAllAround, Cond.instanceMethod yX1_dropAllAround, Cond.selects RX1 yX1_dropAllAround yX1_dropAllAround, Cond.code yX1_dropAllAround cX1_dropAllAround 3 none, Cond.static yX3_put, Cond.code yX3_put cX3_put 3 none, Cond.methodLink RX1 99 yX1_takeIn, Cond.instanceMethod yX1_takeIn, Cond.selects RX1 yX1_takeIn yX1_takeIn, Cond.code yX1_takeIn cX1_takeIn 7 (some .int), Cond.fieldLink RX1 21 "OrderedClauses$Store" "holdingParent" "[I", Cond.fieldLink RX1 24 "OrderedClauses$Store" "otherParent" "[I", Cond.fieldLink RX1 27 "OrderedClauses$Store" "atomMadeBy" "[I", Cond.fieldLink RX1 30 "OrderedClauses$Store" "depth" "[I", Cond.methodLink RX1 106 Lib.Math.max.name, Cond.static Lib.Math.max.name, Cond.initialized "java/lang/Math"]
def wsX1_resolveWithDone_r3 : List Cond := [Cond.code Lib.Math.max.name Lib.Math.max.code 2 (some .int), Cond.fieldLink RX1 33 "OrderedClauses$Store" "fulfilledBy" "[J", Cond.static yX3_valuesOfClause, Cond.code yX3_valuesOfClause cX3_valuesOfClause 7 (some .long), Cond.fieldLink RX3 204 "OrderedClauses" "VALUES_WITH_ATOM" "[J", Cond.constantLong RX3 145 (-1), Cond.methodLink RX3 208 yX3_longAt, Cond.static yX3_longAt, Cond.code yX3_longAt cX3_longAt 2 (some .long), Cond.static yX3_putLong, Cond.code yX3_putLong cX3_putLong 4 none]
def wsX1_resolveWithDone : List Cond := .code yX1_resolveWithDone cX1_resolveWithDone 10 (some .boolean) :: ((wsX1_resolveWithDone_r1 ++ (wsX1_resolveWithDone_r2 ++ wsX1_resolveWithDone_r3)) ++ wsX10)
def wsX1_takeStep_r1 : List Cond := [Cond.constant RX1 127 (-1000002), Cond.fieldLink RX1 41 "OrderedClauses$Store" "steps" "I", Cond.fieldLink RX1 18 "OrderedClauses$Store" "status" "[I", Cond.constant RX1 94 (-1000003), Cond.methodLink RX1 120 yX1_emptyClause, Cond.instanceMethod yX1_emptyClause, Cond.selects RX1 yX1_emptyClause yX1_emptyClause, Cond.initialized RX1, Cond.code yX1_emptyClause cX1_emptyClause 2 (some .int), Cond.fieldLink RX1 37 "OrderedClauses$Store" "clauses" "I", Cond.fieldLink RX1 15 "OrderedClauses$Store" "literals" "[I", Cond.static yX3_at, Cond.initialized RX3, Cond.code yX3_at cX3_at 2 (some .int), Cond.methodLink RX1 124 yX1_nextChoice, Cond.instanceMethod yX1_nextChoice, Cond.selects RX1 yX1_nextChoice yX1_nextChoice, Cond.code yX1_nextChoice cX1_nextChoice 6 (some .int), Cond.fieldLink RX1 44 "OrderedClauses$Store" "setting" "I", Cond.methodLink RX1 131 yJ6_bitCount_0f7a4, Cond.static yJ6_bitCount_0f7a4, Cond.initialized RJ6, Cond.code yJ6_bitCount_0f7a4 cJ6_bitCount_0f7a4 1 (some .int), Cond.constant RJ6 265 (1431655765)]
def wsX1_takeStep_r2 : List Cond := [Cond.constant RJ6 266 (858993459), Cond.constant RJ6 267 (252645135), Cond.static yX3_put, Cond.code yX3_put cX3_put 3 none, Cond.methodLink RX1 128 yX1_resolveWithDone, Cond.instanceMethod yX1_resolveWithDone, Cond.selects RX1 yX1_resolveWithDone yX1_resolveWithDone, Cond.code yX1_resolveWithDone cX1_resolveWithDone 10 (some .boolean), Cond.methodLink RX1 73 yX1_greatestOf, Cond.instanceMethod yX1_greatestOf, Cond.selects RX1 yX1_greatestOf yX1_greatestOf, Cond.code yX1_greatestOf cX1_greatestOf 5 (some .int), Cond.fieldLink RX1 9 "OrderedClauses$Store" "atomOfRank" "[I", Cond.methodLink RX1 80 yX1_isDropped, Cond.instanceMethod yX1_isDropped, Cond.selects RX1 yX1_isDropped yX1_isDropped, Cond.code yX1_isDropped cX1_isDropped 2 (some .boolean), Cond.methodLink RX1 136 yX1_bring, Cond.instanceMethod yX1_bring, Cond.selects RX1 yX1_bring yX1_bring, Cond.code yX1_bring cX1_bring 5 (some .int), Cond.fieldLink RX1 47 "OrderedClauses$Store" "heldAlways" "I", Cond.fieldLink RX1 50 "OrderedClauses$Store" "hadAnotherWithin" "I", Cond.static yX3_holdsAlways]
def wsX1_takeStep_r3 : List Cond := [Cond.code yX3_holdsAlways cX3_holdsAlways 1 (some .boolean), Cond.methodLink RX1 91 yX1_hasAnotherWithin, Cond.instanceMethod yX1_hasAnotherWithin, Cond.selects RX1 yX1_hasAnotherWithin yX1_hasAnotherWithin, Cond.code yX1_hasAnotherWithin cX1_hasAnotherWithin 3 (some .boolean), Cond.static yX3_isWithin, Cond.code yX3_isWithin cX3_isWithin 2 (some .boolean), Cond.methodLink RX1 95 yX1_dropAllAround, Cond.instanceMethod yX1_dropAllAround, Cond.selects RX1 yX1_dropAllAround yX1_dropAllAround, Cond.code yX1_dropAllAround cX1_dropAllAround 3 none, Cond.methodLink RX1 99 yX1_takeIn, Cond.instanceMethod yX1_takeIn, Cond.selects RX1 yX1_takeIn yX1_takeIn, Cond.code yX1_takeIn cX1_takeIn 7 (some .int), Cond.fieldLink RX1 21 "OrderedClauses$Store" "holdingParent" "[I", Cond.fieldLink RX1 24 "OrderedClauses$Store" "otherParent" "[I", Cond.fieldLink RX1 27 "OrderedClauses$Store" "atomMadeBy" "[I", Cond.fieldLink RX1 30 "OrderedClauses$Store" "depth" "[I", Cond.methodLink RX1 106 Lib.Math.max.name, Cond.static Lib.Math.max.name, Cond.initialized "java/lang/Math", Cond.code Lib.Math.max.name Lib.Math.max.code 2 (some .int), Cond.fieldLink RX1 33 "OrderedClauses$Store" "fulfilledBy" "[J"]
def wsX1_takeStep_r4 : List Cond := [Cond.static yX3_valuesOfClause, Cond.code yX3_valuesOfClause cX3_valuesOfClause 7 (some .long), Cond.fieldLink RX3 204 "OrderedClauses" "VALUES_WITH_ATOM" "[J", Cond.constantLong RX3 145 (-1), Cond.methodLink RX3 208 yX3_longAt, Cond.static yX3_longAt, Cond.code yX3_longAt cX3_longAt 2 (some .long), Cond.static yX3_putLong, Cond.code yX3_putLong cX3_putLong 4 none]
def wsX1_takeStep : List Cond := .code yX1_takeStep cX1_takeStep 2 (some .int) :: ((wsX1_takeStep_r1 ++ (wsX1_takeStep_r2 ++ (wsX1_takeStep_r3 ++ wsX1_takeStep_r4))) ++ wsX10)
def wsX3_setOf : List Cond := .code yX3_setOf cX3_setOf 1 (some .long) :: ([])
def wsX1_treeOf : List Cond := .code yX1_treeOf cX1_treeOf 5 (some .long) :: ([.fieldLink RX1 21 "OrderedClauses$Store" "holdingParent" "[I", .fieldLink RX1 24 "OrderedClauses$Store" "otherParent" "[I", .static yX3_setOf, .initialized RX3, .code yX3_setOf cX3_setOf 1 (some .long), .static yX3_isIn, .code yX3_isIn cX3_isIn 3 (some .boolean), .static yX3_at, .code yX3_at cX3_at 2 (some .int)] ++ wsX10)
def wsX1_toldClauses : List Cond := .code yX1_toldClauses cX1_toldClauses 4 (some .long) :: ([.fieldLink RX1 37 "OrderedClauses$Store" "clauses" "I", .methodLink RX1 142 yX1_wasTold, .instanceMethod yX1_wasTold, .selects RX1 yX1_wasTold yX1_wasTold, .initialized RX1, .code yX1_wasTold cX1_wasTold 2 (some .boolean), .fieldLink RX1 21 "OrderedClauses$Store" "holdingParent" "[I", .static yX3_at, .initialized RX3, .code yX3_at cX3_at 2 (some .int), .static yX3_setOf, .code yX3_setOf cX3_setOf 1 (some .long)] ++ wsX10)
def wsX1_valuesFulfilling : List Cond := .code yX1_valuesFulfilling cX1_valuesFulfilling 6 (some .long) :: ([.constantLong RX1 145 (-1), .fieldLink RX1 37 "OrderedClauses$Store" "clauses" "I", .fieldLink RX1 33 "OrderedClauses$Store" "fulfilledBy" "[J", .static yX3_isIn, .initialized RX3, .code yX3_isIn cX3_isIn 3 (some .boolean), .static yX3_longAt, .code yX3_longAt cX3_longAt 2 (some .long)] ++ wsX10)
def wsX1_fewestUnfulfillable : List Cond := .code yX1_fewestUnfulfillable cX1_fewestUnfulfillable 8 (some .long) :: ([.fieldLink RX1 37 "OrderedClauses$Store" "clauses" "I", .constantLong RX1 145 (-1), .static yX3_setOf, .initialized RX3, .code yX3_setOf cX3_setOf 1 (some .long), .methodLink RX1 151 yX1_valuesFulfilling, .instanceMethod yX1_valuesFulfilling, .selects RX1 yX1_valuesFulfilling yX1_valuesFulfilling, .initialized RX1, .code yX1_valuesFulfilling cX1_valuesFulfilling 6 (some .long), .fieldLink RX1 33 "OrderedClauses$Store" "fulfilledBy" "[J", .static yX3_isIn, .code yX3_isIn cX3_isIn 3 (some .boolean), .static yX3_longAt, .code yX3_longAt cX3_longAt 2 (some .long)] ++ wsX10)
def wsX2_init : List Cond := .code yX2_init cX2_init 1 none :: ([.methodLink RX2 3 objectInit, .instanceMethod objectInit, .code objectInit ⟨#[0xb1]⟩ 1 none, .arrayClass .int, .fieldLink RX2 9 "OrderedClauses$Text" "characters" "[I", .fieldLink RX2 15 "OrderedClauses$Text" "length" "I"] ++ wsX20)
def wsX2_add : List Cond := .code yX2_add cX2_add 2 (some .boolean) :: ([.fieldLink RX2 15 "OrderedClauses$Text" "length" "I", .fieldLink RX2 9 "OrderedClauses$Text" "characters" "[I", .static yX3_put, .initialized RX3, .code yX3_put cX3_put 3 none] ++ wsX20)
def wsX2_whereItBreaksOff : List Cond := .code yX2_whereItBreaksOff cX2_whereItBreaksOff 5 (some .int) :: ([.fieldLink RX2 15 "OrderedClauses$Text" "length" "I", .fieldLink RX2 9 "OrderedClauses$Text" "characters" "[I", .static yX3_at, .initialized RX3, .code yX3_at cX3_at 2 (some .int)] ++ wsX20)
def wsX2_startOfClause : List Cond := .code yX2_startOfClause cX2_startOfClause 3 (some .int) :: ([.fieldLink RX2 9 "OrderedClauses$Text" "characters" "[I", .static yX3_at, .initialized RX3, .code yX3_at cX3_at 2 (some .int)] ++ wsX20)
def wsX3_init_r1 : List Cond := [Cond.methodLink RX3 1 objectInit, Cond.instanceMethod objectInit, Cond.code objectInit ⟨#[0xb1]⟩ 1 none, Cond.classLink RX3 7 RX1, Cond.instantiable RX1 13, Cond.initialized RX1, Cond.fieldLink RX3 10 "OrderedClauses" "store" "LOrderedClauses$Store;", Cond.classLink RX3 16 RX0, Cond.instantiable RX0 2, Cond.initialized RX0, Cond.fieldLink RX3 19 "OrderedClauses" "history" "LOrderedClauses$History;", Cond.classLink RX3 23 RX2, Cond.instantiable RX2 2, Cond.initialized RX2, Cond.fieldLink RX3 26 "OrderedClauses" "text" "LOrderedClauses$Text;", Cond.instanceMethod yX1_init, Cond.code yX1_init cX1_init 2 none, Cond.methodLink RX1 3 objectInit, Cond.arrayClass .int, Cond.fieldLink RX1 9 "OrderedClauses$Store" "atomOfRank" "[I", Cond.fieldLink RX1 15 "OrderedClauses$Store" "literals" "[I", Cond.fieldLink RX1 18 "OrderedClauses$Store" "status" "[I", Cond.fieldLink RX1 21 "OrderedClauses$Store" "holdingParent" "[I", Cond.fieldLink RX1 24 "OrderedClauses$Store" "otherParent" "[I"]
def wsX3_init_r2 : List Cond := [Cond.fieldLink RX1 27 "OrderedClauses$Store" "atomMadeBy" "[I", Cond.fieldLink RX1 30 "OrderedClauses$Store" "depth" "[I", Cond.arrayClass .long, Cond.fieldLink RX1 33 "OrderedClauses$Store" "fulfilledBy" "[J", Cond.fieldLink RX1 37 "OrderedClauses$Store" "clauses" "I", Cond.fieldLink RX1 41 "OrderedClauses$Store" "steps" "I", Cond.fieldLink RX1 44 "OrderedClauses$Store" "setting" "I", Cond.fieldLink RX1 47 "OrderedClauses$Store" "heldAlways" "I", Cond.fieldLink RX1 50 "OrderedClauses$Store" "hadAnotherWithin" "I", Cond.static yX3_put, Cond.initialized RX3, Cond.code yX3_put cX3_put 3 none, Cond.instanceMethod yX0_init, Cond.code yX0_init cX0_init 2 none, Cond.methodLink RX0 3 objectInit, Cond.classLink RX0 9 RX1, Cond.fieldLink RX0 11 "OrderedClauses$History" "states" "[LOrderedClauses$Store;", Cond.fieldLink RX0 17 "OrderedClauses$History" "kept" "I", Cond.instanceMethod yX2_init, Cond.code yX2_init cX2_init 1 none, Cond.methodLink RX2 3 objectInit, Cond.fieldLink RX2 9 "OrderedClauses$Text" "characters" "[I", Cond.fieldLink RX2 15 "OrderedClauses$Text" "length" "I"]
def wsX3_init : List Cond := .code yX3_init cX3_init 1 none :: ((wsX3_init_r1 ++ wsX3_init_r2) ++ wsX10 ++ wsX30 ++ wsX00 ++ wsX20)
def wsX3_settle_r1 : List Cond := [Cond.constant RX3 30 (-1000001), Cond.fieldLink RX3 19 "OrderedClauses" "history" "LOrderedClauses$History;", Cond.fieldLink RX3 10 "OrderedClauses" "store" "LOrderedClauses$Store;", Cond.instanceMethod yX0_takeBack, Cond.initialized RX0, Cond.selects RX0 yX0_takeBack yX0_takeBack, Cond.code yX0_takeBack cX0_takeBack 2 none, Cond.fieldLink RX0 17 "OrderedClauses$History" "kept" "I", Cond.methodLink RX0 22 yX0_stateAt, Cond.instanceMethod yX0_stateAt, Cond.selects RX0 yX0_stateAt yX0_stateAt, Cond.code yX0_stateAt cX0_stateAt 2 (some (.object "OrderedClauses$Store")), Cond.fieldLink RX0 11 "OrderedClauses$History" "states" "[LOrderedClauses$Store;", Cond.instanceMethod yX1_copyFrom, Cond.initialized RX1, Cond.selects RX1 yX1_copyFrom yX1_copyFrom, Cond.code yX1_copyFrom cX1_copyFrom 2 none, Cond.fieldLink RX1 9 "OrderedClauses$Store" "atomOfRank" "[I", Cond.fieldLink RX1 15 "OrderedClauses$Store" "literals" "[I", Cond.fieldLink RX1 18 "OrderedClauses$Store" "status" "[I", Cond.fieldLink RX1 21 "OrderedClauses$Store" "holdingParent" "[I", Cond.fieldLink RX1 24 "OrderedClauses$Store" "otherParent" "[I", Cond.fieldLink RX1 27 "OrderedClauses$Store" "atomMadeBy" "[I", Cond.fieldLink RX1 30 "OrderedClauses$Store" "depth" "[I"]
def wsX3_settle_r2 : List Cond := [Cond.fieldLink RX1 33 "OrderedClauses$Store" "fulfilledBy" "[J", Cond.fieldLink RX1 37 "OrderedClauses$Store" "clauses" "I", Cond.fieldLink RX1 41 "OrderedClauses$Store" "steps" "I", Cond.fieldLink RX1 44 "OrderedClauses$Store" "setting" "I", Cond.fieldLink RX1 47 "OrderedClauses$Store" "heldAlways" "I", Cond.fieldLink RX1 50 "OrderedClauses$Store" "hadAnotherWithin" "I", Cond.static yX3_copyRow, Cond.initialized RX3, Cond.code yX3_copyRow cX3_copyRow 2 none, Cond.methodLink RX3 193 Lib.Math.min.name, Cond.static Lib.Math.min.name, Cond.initialized "java/lang/Math", Cond.code Lib.Math.min.name Lib.Math.min.code 2 (some .int), Cond.methodLink RX3 198 arraycopyName, Cond.native arraycopyName, Cond.static arraycopyName, Cond.initialized "java/lang/System", Cond.static yX3_copyLongRow, Cond.code yX3_copyLongRow cX3_copyLongRow 2 none, Cond.instanceMethod yX0_keep, Cond.selects RX0 yX0_keep yX0_keep, Cond.code yX0_keep cX0_keep 1 none, Cond.methodLink RX0 30 yX0_dropOldest, Cond.instanceMethod yX0_dropOldest]
def wsX3_settle_r3 : List Cond := [Cond.selects RX0 yX0_dropOldest yX0_dropOldest, Cond.code yX0_dropOldest cX0_dropOldest 4 none]
def wsX3_settle : List Cond := .code yX3_settle cX3_settle 2 (some .int) :: ((wsX3_settle_r1 ++ (wsX3_settle_r2 ++ wsX3_settle_r3)) ++ wsX30 ++ wsX00 ++ wsX10)
def wsX3_tell_r1 : List Cond := [Cond.constant RX3 30 (-1000001), Cond.fieldLink RX3 19 "OrderedClauses" "history" "LOrderedClauses$History;", Cond.fieldLink RX3 10 "OrderedClauses" "store" "LOrderedClauses$Store;", Cond.instanceMethod yX0_putAside, Cond.initialized RX0, Cond.selects RX0 yX0_putAside yX0_putAside, Cond.code yX0_putAside cX0_putAside 3 none, Cond.fieldLink RX0 17 "OrderedClauses$History" "kept" "I", Cond.methodLink RX0 22 yX0_stateAt, Cond.instanceMethod yX0_stateAt, Cond.selects RX0 yX0_stateAt yX0_stateAt, Cond.code yX0_stateAt cX0_stateAt 2 (some (.object "OrderedClauses$Store")), Cond.fieldLink RX0 11 "OrderedClauses$History" "states" "[LOrderedClauses$Store;", Cond.instanceMethod yX1_copyFrom, Cond.initialized RX1, Cond.selects RX1 yX1_copyFrom yX1_copyFrom, Cond.code yX1_copyFrom cX1_copyFrom 2 none, Cond.fieldLink RX1 9 "OrderedClauses$Store" "atomOfRank" "[I", Cond.fieldLink RX1 15 "OrderedClauses$Store" "literals" "[I", Cond.fieldLink RX1 18 "OrderedClauses$Store" "status" "[I", Cond.fieldLink RX1 21 "OrderedClauses$Store" "holdingParent" "[I", Cond.fieldLink RX1 24 "OrderedClauses$Store" "otherParent" "[I", Cond.fieldLink RX1 27 "OrderedClauses$Store" "atomMadeBy" "[I", Cond.fieldLink RX1 30 "OrderedClauses$Store" "depth" "[I"]
def wsX3_tell_r2 : List Cond := [Cond.fieldLink RX1 33 "OrderedClauses$Store" "fulfilledBy" "[J", Cond.fieldLink RX1 37 "OrderedClauses$Store" "clauses" "I", Cond.fieldLink RX1 41 "OrderedClauses$Store" "steps" "I", Cond.fieldLink RX1 44 "OrderedClauses$Store" "setting" "I", Cond.fieldLink RX1 47 "OrderedClauses$Store" "heldAlways" "I", Cond.fieldLink RX1 50 "OrderedClauses$Store" "hadAnotherWithin" "I", Cond.static yX3_copyRow, Cond.initialized RX3, Cond.code yX3_copyRow cX3_copyRow 2 none, Cond.methodLink RX3 193 Lib.Math.min.name, Cond.static Lib.Math.min.name, Cond.initialized "java/lang/Math", Cond.code Lib.Math.min.name Lib.Math.min.code 2 (some .int), Cond.methodLink RX3 198 arraycopyName, Cond.native arraycopyName, Cond.static arraycopyName, Cond.initialized "java/lang/System", Cond.static yX3_copyLongRow, Cond.code yX3_copyLongRow cX3_copyLongRow 2 none, Cond.instanceMethod yX1_bring, Cond.selects RX1 yX1_bring yX1_bring, Cond.code yX1_bring cX1_bring 5 (some .int), Cond.constant RX1 94 (-1000003), Cond.static yX3_holdsAlways]
def wsX3_tell_r3 : List Cond := [Cond.code yX3_holdsAlways cX3_holdsAlways 1 (some .boolean), Cond.methodLink RX1 91 yX1_hasAnotherWithin, Cond.instanceMethod yX1_hasAnotherWithin, Cond.selects RX1 yX1_hasAnotherWithin yX1_hasAnotherWithin, Cond.code yX1_hasAnotherWithin cX1_hasAnotherWithin 3 (some .boolean), Cond.methodLink RX1 80 yX1_isDropped, Cond.instanceMethod yX1_isDropped, Cond.selects RX1 yX1_isDropped yX1_isDropped, Cond.code yX1_isDropped cX1_isDropped 2 (some .boolean), Cond.static yX3_at, Cond.code yX3_at cX3_at 2 (some .int), Cond.static yX3_isWithin, Cond.code yX3_isWithin cX3_isWithin 2 (some .boolean), Cond.methodLink RX1 95 yX1_dropAllAround, Cond.instanceMethod yX1_dropAllAround, Cond.selects RX1 yX1_dropAllAround yX1_dropAllAround, Cond.code yX1_dropAllAround cX1_dropAllAround 3 none, Cond.static yX3_put, Cond.code yX3_put cX3_put 3 none, Cond.methodLink RX1 99 yX1_takeIn, Cond.instanceMethod yX1_takeIn, Cond.selects RX1 yX1_takeIn yX1_takeIn, Cond.code yX1_takeIn cX1_takeIn 7 (some .int), Cond.methodLink RX1 106 Lib.Math.max.name]
def wsX3_tell_r4 : List Cond := [Cond.static Lib.Math.max.name, Cond.code Lib.Math.max.name Lib.Math.max.code 2 (some .int), Cond.static yX3_valuesOfClause, Cond.code yX3_valuesOfClause cX3_valuesOfClause 7 (some .long), Cond.fieldLink RX3 204 "OrderedClauses" "VALUES_WITH_ATOM" "[J", Cond.constantLong RX3 145 (-1), Cond.methodLink RX3 208 yX3_longAt, Cond.static yX3_longAt, Cond.code yX3_longAt cX3_longAt 2 (some .long), Cond.static yX3_putLong, Cond.code yX3_putLong cX3_putLong 4 none, Cond.methodLink RX3 39 yX3_settle, Cond.instanceMethod yX3_settle, Cond.selects RX3 yX3_settle yX3_settle, Cond.code yX3_settle cX3_settle 2 (some .int), Cond.instanceMethod yX0_takeBack, Cond.selects RX0 yX0_takeBack yX0_takeBack, Cond.code yX0_takeBack cX0_takeBack 2 none, Cond.instanceMethod yX0_keep, Cond.selects RX0 yX0_keep yX0_keep, Cond.code yX0_keep cX0_keep 1 none, Cond.methodLink RX0 30 yX0_dropOldest, Cond.instanceMethod yX0_dropOldest, Cond.selects RX0 yX0_dropOldest yX0_dropOldest]
def wsX3_tell_r5 : List Cond := [Cond.code yX0_dropOldest cX0_dropOldest 4 none]
def wsX3_tell : List Cond := .code yX3_tell cX3_tell 2 (some .int) :: ((wsX3_tell_r1 ++ (wsX3_tell_r2 ++ (wsX3_tell_r3 ++ (wsX3_tell_r4 ++ wsX3_tell_r5)))) ++ wsX30 ++ wsX00 ++ wsX10)
def wsX3_rank_r1 : List Cond := [Cond.constant RX3 30 (-1000001), Cond.fieldLink RX3 19 "OrderedClauses" "history" "LOrderedClauses$History;", Cond.fieldLink RX3 10 "OrderedClauses" "store" "LOrderedClauses$Store;", Cond.instanceMethod yX0_putAside, Cond.initialized RX0, Cond.selects RX0 yX0_putAside yX0_putAside, Cond.code yX0_putAside cX0_putAside 3 none, Cond.fieldLink RX0 17 "OrderedClauses$History" "kept" "I", Cond.methodLink RX0 22 yX0_stateAt, Cond.instanceMethod yX0_stateAt, Cond.selects RX0 yX0_stateAt yX0_stateAt, Cond.code yX0_stateAt cX0_stateAt 2 (some (.object "OrderedClauses$Store")), Cond.fieldLink RX0 11 "OrderedClauses$History" "states" "[LOrderedClauses$Store;", Cond.instanceMethod yX1_copyFrom, Cond.initialized RX1, Cond.selects RX1 yX1_copyFrom yX1_copyFrom, Cond.code yX1_copyFrom cX1_copyFrom 2 none, Cond.fieldLink RX1 9 "OrderedClauses$Store" "atomOfRank" "[I", Cond.fieldLink RX1 15 "OrderedClauses$Store" "literals" "[I", Cond.fieldLink RX1 18 "OrderedClauses$Store" "status" "[I", Cond.fieldLink RX1 21 "OrderedClauses$Store" "holdingParent" "[I", Cond.fieldLink RX1 24 "OrderedClauses$Store" "otherParent" "[I", Cond.fieldLink RX1 27 "OrderedClauses$Store" "atomMadeBy" "[I", Cond.fieldLink RX1 30 "OrderedClauses$Store" "depth" "[I"]
def wsX3_rank_r2 : List Cond := [Cond.fieldLink RX1 33 "OrderedClauses$Store" "fulfilledBy" "[J", Cond.fieldLink RX1 37 "OrderedClauses$Store" "clauses" "I", Cond.fieldLink RX1 41 "OrderedClauses$Store" "steps" "I", Cond.fieldLink RX1 44 "OrderedClauses$Store" "setting" "I", Cond.fieldLink RX1 47 "OrderedClauses$Store" "heldAlways" "I", Cond.fieldLink RX1 50 "OrderedClauses$Store" "hadAnotherWithin" "I", Cond.static yX3_copyRow, Cond.initialized RX3, Cond.code yX3_copyRow cX3_copyRow 2 none, Cond.methodLink RX3 193 Lib.Math.min.name, Cond.static Lib.Math.min.name, Cond.initialized "java/lang/Math", Cond.code Lib.Math.min.name Lib.Math.min.code 2 (some .int), Cond.methodLink RX3 198 arraycopyName, Cond.native arraycopyName, Cond.static arraycopyName, Cond.initialized "java/lang/System", Cond.static yX3_copyLongRow, Cond.code yX3_copyLongRow cX3_copyLongRow 2 none, Cond.instanceMethod yX1_changeRank, Cond.selects RX1 yX1_changeRank yX1_changeRank, Cond.code yX1_changeRank cX1_changeRank 5 (some .int), Cond.methodLink RX1 69 yX1_rankOf, Cond.instanceMethod yX1_rankOf]
def wsX3_rank_r3 : List Cond := [Cond.selects RX1 yX1_rankOf yX1_rankOf, Cond.code yX1_rankOf cX1_rankOf 3 (some .int), Cond.static yX3_at, Cond.code yX3_at cX3_at 2 (some .int), Cond.static yX3_put, Cond.code yX3_put cX3_put 3 none, Cond.methodLink RX3 39 yX3_settle, Cond.instanceMethod yX3_settle, Cond.selects RX3 yX3_settle yX3_settle, Cond.code yX3_settle cX3_settle 2 (some .int), Cond.instanceMethod yX0_takeBack, Cond.selects RX0 yX0_takeBack yX0_takeBack, Cond.code yX0_takeBack cX0_takeBack 2 none, Cond.instanceMethod yX0_keep, Cond.selects RX0 yX0_keep yX0_keep, Cond.code yX0_keep cX0_keep 1 none, Cond.methodLink RX0 30 yX0_dropOldest, Cond.instanceMethod yX0_dropOldest, Cond.selects RX0 yX0_dropOldest yX0_dropOldest, Cond.code yX0_dropOldest cX0_dropOldest 4 none]
def wsX3_rank : List Cond := .code yX3_rank cX3_rank 3 (some .int) :: ((wsX3_rank_r1 ++ (wsX3_rank_r2 ++ wsX3_rank_r3)) ++ wsX30 ++ wsX00 ++ wsX10)
def wsX3_set_r1 : List Cond := [Cond.constant RX3 30 (-1000001), Cond.fieldLink RX3 19 "OrderedClauses" "history" "LOrderedClauses$History;", Cond.fieldLink RX3 10 "OrderedClauses" "store" "LOrderedClauses$Store;", Cond.instanceMethod yX0_putAside, Cond.initialized RX0, Cond.selects RX0 yX0_putAside yX0_putAside, Cond.code yX0_putAside cX0_putAside 3 none, Cond.fieldLink RX0 17 "OrderedClauses$History" "kept" "I", Cond.methodLink RX0 22 yX0_stateAt, Cond.instanceMethod yX0_stateAt, Cond.selects RX0 yX0_stateAt yX0_stateAt, Cond.code yX0_stateAt cX0_stateAt 2 (some (.object "OrderedClauses$Store")), Cond.fieldLink RX0 11 "OrderedClauses$History" "states" "[LOrderedClauses$Store;", Cond.instanceMethod yX1_copyFrom, Cond.initialized RX1, Cond.selects RX1 yX1_copyFrom yX1_copyFrom, Cond.code yX1_copyFrom cX1_copyFrom 2 none, Cond.fieldLink RX1 9 "OrderedClauses$Store" "atomOfRank" "[I", Cond.fieldLink RX1 15 "OrderedClauses$Store" "literals" "[I", Cond.fieldLink RX1 18 "OrderedClauses$Store" "status" "[I", Cond.fieldLink RX1 21 "OrderedClauses$Store" "holdingParent" "[I", Cond.fieldLink RX1 24 "OrderedClauses$Store" "otherParent" "[I", Cond.fieldLink RX1 27 "OrderedClauses$Store" "atomMadeBy" "[I", Cond.fieldLink RX1 30 "OrderedClauses$Store" "depth" "[I"]
def wsX3_set_r2 : List Cond := [Cond.fieldLink RX1 33 "OrderedClauses$Store" "fulfilledBy" "[J", Cond.fieldLink RX1 37 "OrderedClauses$Store" "clauses" "I", Cond.fieldLink RX1 41 "OrderedClauses$Store" "steps" "I", Cond.fieldLink RX1 44 "OrderedClauses$Store" "setting" "I", Cond.fieldLink RX1 47 "OrderedClauses$Store" "heldAlways" "I", Cond.fieldLink RX1 50 "OrderedClauses$Store" "hadAnotherWithin" "I", Cond.static yX3_copyRow, Cond.initialized RX3, Cond.code yX3_copyRow cX3_copyRow 2 none, Cond.methodLink RX3 193 Lib.Math.min.name, Cond.static Lib.Math.min.name, Cond.initialized "java/lang/Math", Cond.code Lib.Math.min.name Lib.Math.min.code 2 (some .int), Cond.methodLink RX3 198 arraycopyName, Cond.native arraycopyName, Cond.static arraycopyName, Cond.initialized "java/lang/System", Cond.static yX3_copyLongRow, Cond.code yX3_copyLongRow cX3_copyLongRow 2 none, Cond.methodLink RX3 39 yX3_settle, Cond.instanceMethod yX3_settle, Cond.selects RX3 yX3_settle yX3_settle, Cond.code yX3_settle cX3_settle 2 (some .int), Cond.instanceMethod yX0_takeBack]
def wsX3_set_r3 : List Cond := [Cond.selects RX0 yX0_takeBack yX0_takeBack, Cond.code yX0_takeBack cX0_takeBack 2 none, Cond.instanceMethod yX0_keep, Cond.selects RX0 yX0_keep yX0_keep, Cond.code yX0_keep cX0_keep 1 none, Cond.methodLink RX0 30 yX0_dropOldest, Cond.instanceMethod yX0_dropOldest, Cond.selects RX0 yX0_dropOldest yX0_dropOldest, Cond.code yX0_dropOldest cX0_dropOldest 4 none]
def wsX3_set : List Cond := .code yX3_set cX3_set 3 (some .int) :: ((wsX3_set_r1 ++ (wsX3_set_r2 ++ wsX3_set_r3)) ++ wsX30 ++ wsX10 ++ wsX00)
def wsX3_step_r1 : List Cond := [Cond.fieldLink RX3 19 "OrderedClauses" "history" "LOrderedClauses$History;", Cond.fieldLink RX3 10 "OrderedClauses" "store" "LOrderedClauses$Store;", Cond.instanceMethod yX0_putAside, Cond.initialized RX0, Cond.selects RX0 yX0_putAside yX0_putAside, Cond.code yX0_putAside cX0_putAside 3 none, Cond.fieldLink RX0 17 "OrderedClauses$History" "kept" "I", Cond.methodLink RX0 22 yX0_stateAt, Cond.instanceMethod yX0_stateAt, Cond.selects RX0 yX0_stateAt yX0_stateAt, Cond.code yX0_stateAt cX0_stateAt 2 (some (.object "OrderedClauses$Store")), Cond.fieldLink RX0 11 "OrderedClauses$History" "states" "[LOrderedClauses$Store;", Cond.instanceMethod yX1_copyFrom, Cond.initialized RX1, Cond.selects RX1 yX1_copyFrom yX1_copyFrom, Cond.code yX1_copyFrom cX1_copyFrom 2 none, Cond.fieldLink RX1 9 "OrderedClauses$Store" "atomOfRank" "[I", Cond.fieldLink RX1 15 "OrderedClauses$Store" "literals" "[I", Cond.fieldLink RX1 18 "OrderedClauses$Store" "status" "[I", Cond.fieldLink RX1 21 "OrderedClauses$Store" "holdingParent" "[I", Cond.fieldLink RX1 24 "OrderedClauses$Store" "otherParent" "[I", Cond.fieldLink RX1 27 "OrderedClauses$Store" "atomMadeBy" "[I", Cond.fieldLink RX1 30 "OrderedClauses$Store" "depth" "[I", Cond.fieldLink RX1 33 "OrderedClauses$Store" "fulfilledBy" "[J"]
def wsX3_step_r2 : List Cond := [Cond.fieldLink RX1 37 "OrderedClauses$Store" "clauses" "I", Cond.fieldLink RX1 41 "OrderedClauses$Store" "steps" "I", Cond.fieldLink RX1 44 "OrderedClauses$Store" "setting" "I", Cond.fieldLink RX1 47 "OrderedClauses$Store" "heldAlways" "I", Cond.fieldLink RX1 50 "OrderedClauses$Store" "hadAnotherWithin" "I", Cond.static yX3_copyRow, Cond.initialized RX3, Cond.code yX3_copyRow cX3_copyRow 2 none, Cond.methodLink RX3 193 Lib.Math.min.name, Cond.static Lib.Math.min.name, Cond.initialized "java/lang/Math", Cond.code Lib.Math.min.name Lib.Math.min.code 2 (some .int), Cond.methodLink RX3 198 arraycopyName, Cond.native arraycopyName, Cond.static arraycopyName, Cond.initialized "java/lang/System", Cond.static yX3_copyLongRow, Cond.code yX3_copyLongRow cX3_copyLongRow 2 none, Cond.instanceMethod yX1_takeStep, Cond.selects RX1 yX1_takeStep yX1_takeStep, Cond.code yX1_takeStep cX1_takeStep 2 (some .int), Cond.constant RX1 127 (-1000002), Cond.constant RX1 94 (-1000003), Cond.methodLink RX1 120 yX1_emptyClause]
def wsX3_step_r3 : List Cond := [Cond.instanceMethod yX1_emptyClause, Cond.selects RX1 yX1_emptyClause yX1_emptyClause, Cond.code yX1_emptyClause cX1_emptyClause 2 (some .int), Cond.static yX3_at, Cond.code yX3_at cX3_at 2 (some .int), Cond.methodLink RX1 124 yX1_nextChoice, Cond.instanceMethod yX1_nextChoice, Cond.selects RX1 yX1_nextChoice yX1_nextChoice, Cond.code yX1_nextChoice cX1_nextChoice 6 (some .int), Cond.methodLink RX1 131 yJ6_bitCount_0f7a4, Cond.static yJ6_bitCount_0f7a4, Cond.initialized RJ6, Cond.code yJ6_bitCount_0f7a4 cJ6_bitCount_0f7a4 1 (some .int), Cond.constant RJ6 265 (1431655765), Cond.constant RJ6 266 (858993459), Cond.constant RJ6 267 (252645135), Cond.static yX3_put, Cond.code yX3_put cX3_put 3 none, Cond.methodLink RX1 128 yX1_resolveWithDone, Cond.instanceMethod yX1_resolveWithDone, Cond.selects RX1 yX1_resolveWithDone yX1_resolveWithDone, Cond.code yX1_resolveWithDone cX1_resolveWithDone 10 (some .boolean), Cond.methodLink RX1 73 yX1_greatestOf, Cond.instanceMethod yX1_greatestOf]
def wsX3_step_r4 : List Cond := [Cond.selects RX1 yX1_greatestOf yX1_greatestOf, Cond.code yX1_greatestOf cX1_greatestOf 5 (some .int), Cond.methodLink RX1 80 yX1_isDropped, Cond.instanceMethod yX1_isDropped, Cond.selects RX1 yX1_isDropped yX1_isDropped, Cond.code yX1_isDropped cX1_isDropped 2 (some .boolean), Cond.methodLink RX1 136 yX1_bring, Cond.instanceMethod yX1_bring, Cond.selects RX1 yX1_bring yX1_bring, Cond.code yX1_bring cX1_bring 5 (some .int), Cond.static yX3_holdsAlways, Cond.code yX3_holdsAlways cX3_holdsAlways 1 (some .boolean), Cond.methodLink RX1 91 yX1_hasAnotherWithin, Cond.instanceMethod yX1_hasAnotherWithin, Cond.selects RX1 yX1_hasAnotherWithin yX1_hasAnotherWithin, Cond.code yX1_hasAnotherWithin cX1_hasAnotherWithin 3 (some .boolean), Cond.static yX3_isWithin, Cond.code yX3_isWithin cX3_isWithin 2 (some .boolean), Cond.methodLink RX1 95 yX1_dropAllAround, Cond.instanceMethod yX1_dropAllAround, Cond.selects RX1 yX1_dropAllAround yX1_dropAllAround, Cond.code yX1_dropAllAround cX1_dropAllAround 3 none, Cond.methodLink RX1 99 yX1_takeIn, Cond.instanceMethod yX1_takeIn]
def wsX3_step_r5 : List Cond := [Cond.selects RX1 yX1_takeIn yX1_takeIn, Cond.code yX1_takeIn cX1_takeIn 7 (some .int), Cond.methodLink RX1 106 Lib.Math.max.name, Cond.static Lib.Math.max.name, Cond.code Lib.Math.max.name Lib.Math.max.code 2 (some .int), Cond.static yX3_valuesOfClause, Cond.code yX3_valuesOfClause cX3_valuesOfClause 7 (some .long), Cond.fieldLink RX3 204 "OrderedClauses" "VALUES_WITH_ATOM" "[J", Cond.constantLong RX3 145 (-1), Cond.methodLink RX3 208 yX3_longAt, Cond.static yX3_longAt, Cond.code yX3_longAt cX3_longAt 2 (some .long), Cond.static yX3_putLong, Cond.code yX3_putLong cX3_putLong 4 none, Cond.methodLink RX3 39 yX3_settle, Cond.instanceMethod yX3_settle, Cond.selects RX3 yX3_settle yX3_settle, Cond.code yX3_settle cX3_settle 2 (some .int), Cond.constant RX3 30 (-1000001), Cond.instanceMethod yX0_takeBack, Cond.selects RX0 yX0_takeBack yX0_takeBack, Cond.code yX0_takeBack cX0_takeBack 2 none, Cond.instanceMethod yX0_keep, Cond.selects RX0 yX0_keep yX0_keep]
def wsX3_step_r6 : List Cond := [Cond.code yX0_keep cX0_keep 1 none, Cond.methodLink RX0 30 yX0_dropOldest, Cond.instanceMethod yX0_dropOldest, Cond.selects RX0 yX0_dropOldest yX0_dropOldest, Cond.code yX0_dropOldest cX0_dropOldest 4 none]
def wsX3_step : List Cond := .code yX3_step cX3_step 1 (some .int) :: ((wsX3_step_r1 ++ (wsX3_step_r2 ++ (wsX3_step_r3 ++ (wsX3_step_r4 ++ (wsX3_step_r5 ++ wsX3_step_r6))))) ++ wsX30 ++ wsX00 ++ wsX10)
def wsX3_run_r1 : List Cond := [Cond.constant RX3 30 (-1000001), Cond.fieldLink RX3 19 "OrderedClauses" "history" "LOrderedClauses$History;", Cond.fieldLink RX3 10 "OrderedClauses" "store" "LOrderedClauses$Store;", Cond.constant RX3 55 (-1000003), Cond.constant RX3 56 (-1000002), Cond.instanceMethod yX0_putAside, Cond.initialized RX0, Cond.selects RX0 yX0_putAside yX0_putAside, Cond.code yX0_putAside cX0_putAside 3 none, Cond.fieldLink RX0 17 "OrderedClauses$History" "kept" "I", Cond.methodLink RX0 22 yX0_stateAt, Cond.instanceMethod yX0_stateAt, Cond.selects RX0 yX0_stateAt yX0_stateAt, Cond.code yX0_stateAt cX0_stateAt 2 (some (.object "OrderedClauses$Store")), Cond.fieldLink RX0 11 "OrderedClauses$History" "states" "[LOrderedClauses$Store;", Cond.instanceMethod yX1_copyFrom, Cond.initialized RX1, Cond.selects RX1 yX1_copyFrom yX1_copyFrom, Cond.code yX1_copyFrom cX1_copyFrom 2 none, Cond.fieldLink RX1 9 "OrderedClauses$Store" "atomOfRank" "[I", Cond.fieldLink RX1 15 "OrderedClauses$Store" "literals" "[I", Cond.fieldLink RX1 18 "OrderedClauses$Store" "status" "[I", Cond.fieldLink RX1 21 "OrderedClauses$Store" "holdingParent" "[I", Cond.fieldLink RX1 24 "OrderedClauses$Store" "otherParent" "[I"]
def wsX3_run_r2 : List Cond := [Cond.fieldLink RX1 27 "OrderedClauses$Store" "atomMadeBy" "[I", Cond.fieldLink RX1 30 "OrderedClauses$Store" "depth" "[I", Cond.fieldLink RX1 33 "OrderedClauses$Store" "fulfilledBy" "[J", Cond.fieldLink RX1 37 "OrderedClauses$Store" "clauses" "I", Cond.fieldLink RX1 41 "OrderedClauses$Store" "steps" "I", Cond.fieldLink RX1 44 "OrderedClauses$Store" "setting" "I", Cond.fieldLink RX1 47 "OrderedClauses$Store" "heldAlways" "I", Cond.fieldLink RX1 50 "OrderedClauses$Store" "hadAnotherWithin" "I", Cond.static yX3_copyRow, Cond.initialized RX3, Cond.code yX3_copyRow cX3_copyRow 2 none, Cond.methodLink RX3 193 Lib.Math.min.name, Cond.static Lib.Math.min.name, Cond.initialized "java/lang/Math", Cond.code Lib.Math.min.name Lib.Math.min.code 2 (some .int), Cond.methodLink RX3 198 arraycopyName, Cond.native arraycopyName, Cond.static arraycopyName, Cond.initialized "java/lang/System", Cond.static yX3_copyLongRow, Cond.code yX3_copyLongRow cX3_copyLongRow 2 none, Cond.instanceMethod yX1_takeStep, Cond.selects RX1 yX1_takeStep yX1_takeStep, Cond.code yX1_takeStep cX1_takeStep 2 (some .int)]
def wsX3_run_r3 : List Cond := [Cond.constant RX1 127 (-1000002), Cond.constant RX1 94 (-1000003), Cond.methodLink RX1 120 yX1_emptyClause, Cond.instanceMethod yX1_emptyClause, Cond.selects RX1 yX1_emptyClause yX1_emptyClause, Cond.code yX1_emptyClause cX1_emptyClause 2 (some .int), Cond.static yX3_at, Cond.code yX3_at cX3_at 2 (some .int), Cond.methodLink RX1 124 yX1_nextChoice, Cond.instanceMethod yX1_nextChoice, Cond.selects RX1 yX1_nextChoice yX1_nextChoice, Cond.code yX1_nextChoice cX1_nextChoice 6 (some .int), Cond.methodLink RX1 131 yJ6_bitCount_0f7a4, Cond.static yJ6_bitCount_0f7a4, Cond.initialized RJ6, Cond.code yJ6_bitCount_0f7a4 cJ6_bitCount_0f7a4 1 (some .int), Cond.constant RJ6 265 (1431655765), Cond.constant RJ6 266 (858993459), Cond.constant RJ6 267 (252645135), Cond.static yX3_put, Cond.code yX3_put cX3_put 3 none, Cond.methodLink RX1 128 yX1_resolveWithDone, Cond.instanceMethod yX1_resolveWithDone, Cond.selects RX1 yX1_resolveWithDone yX1_resolveWithDone]
def wsX3_run_r4 : List Cond := [Cond.code yX1_resolveWithDone cX1_resolveWithDone 10 (some .boolean), Cond.methodLink RX1 73 yX1_greatestOf, Cond.instanceMethod yX1_greatestOf, Cond.selects RX1 yX1_greatestOf yX1_greatestOf, Cond.code yX1_greatestOf cX1_greatestOf 5 (some .int), Cond.methodLink RX1 80 yX1_isDropped, Cond.instanceMethod yX1_isDropped, Cond.selects RX1 yX1_isDropped yX1_isDropped, Cond.code yX1_isDropped cX1_isDropped 2 (some .boolean), Cond.methodLink RX1 136 yX1_bring, Cond.instanceMethod yX1_bring, Cond.selects RX1 yX1_bring yX1_bring, Cond.code yX1_bring cX1_bring 5 (some .int), Cond.static yX3_holdsAlways, Cond.code yX3_holdsAlways cX3_holdsAlways 1 (some .boolean), Cond.methodLink RX1 91 yX1_hasAnotherWithin, Cond.instanceMethod yX1_hasAnotherWithin, Cond.selects RX1 yX1_hasAnotherWithin yX1_hasAnotherWithin, Cond.code yX1_hasAnotherWithin cX1_hasAnotherWithin 3 (some .boolean), Cond.static yX3_isWithin, Cond.code yX3_isWithin cX3_isWithin 2 (some .boolean), Cond.methodLink RX1 95 yX1_dropAllAround, Cond.instanceMethod yX1_dropAllAround, Cond.selects RX1 yX1_dropAllAround yX1_dropAllAround]
def wsX3_run_r5 : List Cond := [Cond.code yX1_dropAllAround cX1_dropAllAround 3 none, Cond.methodLink RX1 99 yX1_takeIn, Cond.instanceMethod yX1_takeIn, Cond.selects RX1 yX1_takeIn yX1_takeIn, Cond.code yX1_takeIn cX1_takeIn 7 (some .int), Cond.methodLink RX1 106 Lib.Math.max.name, Cond.static Lib.Math.max.name, Cond.code Lib.Math.max.name Lib.Math.max.code 2 (some .int), Cond.static yX3_valuesOfClause, Cond.code yX3_valuesOfClause cX3_valuesOfClause 7 (some .long), Cond.fieldLink RX3 204 "OrderedClauses" "VALUES_WITH_ATOM" "[J", Cond.constantLong RX3 145 (-1), Cond.methodLink RX3 208 yX3_longAt, Cond.static yX3_longAt, Cond.code yX3_longAt cX3_longAt 2 (some .long), Cond.static yX3_putLong, Cond.code yX3_putLong cX3_putLong 4 none, Cond.methodLink RX3 39 yX3_settle, Cond.instanceMethod yX3_settle, Cond.selects RX3 yX3_settle yX3_settle, Cond.code yX3_settle cX3_settle 2 (some .int), Cond.instanceMethod yX0_takeBack, Cond.selects RX0 yX0_takeBack yX0_takeBack, Cond.code yX0_takeBack cX0_takeBack 2 none]
def wsX3_run_r6 : List Cond := [Cond.instanceMethod yX0_keep, Cond.selects RX0 yX0_keep yX0_keep, Cond.code yX0_keep cX0_keep 1 none, Cond.methodLink RX0 30 yX0_dropOldest, Cond.instanceMethod yX0_dropOldest, Cond.selects RX0 yX0_dropOldest yX0_dropOldest, Cond.code yX0_dropOldest cX0_dropOldest 4 none]
def wsX3_run : List Cond := .code yX3_run cX3_run 5 (some .int) :: ((wsX3_run_r1 ++ (wsX3_run_r2 ++ (wsX3_run_r3 ++ (wsX3_run_r4 ++ (wsX3_run_r5 ++ wsX3_run_r6))))) ++ wsX30 ++ wsX00 ++ wsX10)
def wsX3_empty_r1 : List Cond := [Cond.fieldLink RX3 19 "OrderedClauses" "history" "LOrderedClauses$History;", Cond.fieldLink RX3 10 "OrderedClauses" "store" "LOrderedClauses$Store;", Cond.instanceMethod yX0_putAside, Cond.initialized RX0, Cond.selects RX0 yX0_putAside yX0_putAside, Cond.code yX0_putAside cX0_putAside 3 none, Cond.fieldLink RX0 17 "OrderedClauses$History" "kept" "I", Cond.methodLink RX0 22 yX0_stateAt, Cond.instanceMethod yX0_stateAt, Cond.selects RX0 yX0_stateAt yX0_stateAt, Cond.code yX0_stateAt cX0_stateAt 2 (some (.object "OrderedClauses$Store")), Cond.fieldLink RX0 11 "OrderedClauses$History" "states" "[LOrderedClauses$Store;", Cond.instanceMethod yX1_copyFrom, Cond.initialized RX1, Cond.selects RX1 yX1_copyFrom yX1_copyFrom, Cond.code yX1_copyFrom cX1_copyFrom 2 none, Cond.fieldLink RX1 9 "OrderedClauses$Store" "atomOfRank" "[I", Cond.fieldLink RX1 15 "OrderedClauses$Store" "literals" "[I", Cond.fieldLink RX1 18 "OrderedClauses$Store" "status" "[I", Cond.fieldLink RX1 21 "OrderedClauses$Store" "holdingParent" "[I", Cond.fieldLink RX1 24 "OrderedClauses$Store" "otherParent" "[I", Cond.fieldLink RX1 27 "OrderedClauses$Store" "atomMadeBy" "[I", Cond.fieldLink RX1 30 "OrderedClauses$Store" "depth" "[I", Cond.fieldLink RX1 33 "OrderedClauses$Store" "fulfilledBy" "[J"]
def wsX3_empty_r2 : List Cond := [Cond.fieldLink RX1 37 "OrderedClauses$Store" "clauses" "I", Cond.fieldLink RX1 41 "OrderedClauses$Store" "steps" "I", Cond.fieldLink RX1 44 "OrderedClauses$Store" "setting" "I", Cond.fieldLink RX1 47 "OrderedClauses$Store" "heldAlways" "I", Cond.fieldLink RX1 50 "OrderedClauses$Store" "hadAnotherWithin" "I", Cond.static yX3_copyRow, Cond.initialized RX3, Cond.code yX3_copyRow cX3_copyRow 2 none, Cond.methodLink RX3 193 Lib.Math.min.name, Cond.static Lib.Math.min.name, Cond.initialized "java/lang/Math", Cond.code Lib.Math.min.name Lib.Math.min.code 2 (some .int), Cond.methodLink RX3 198 arraycopyName, Cond.native arraycopyName, Cond.static arraycopyName, Cond.initialized "java/lang/System", Cond.static yX3_copyLongRow, Cond.code yX3_copyLongRow cX3_copyLongRow 2 none, Cond.methodLink RX3 39 yX3_settle, Cond.instanceMethod yX3_settle, Cond.selects RX3 yX3_settle yX3_settle, Cond.code yX3_settle cX3_settle 2 (some .int), Cond.constant RX3 30 (-1000001), Cond.instanceMethod yX0_takeBack]
def wsX3_empty_r3 : List Cond := [Cond.selects RX0 yX0_takeBack yX0_takeBack, Cond.code yX0_takeBack cX0_takeBack 2 none, Cond.instanceMethod yX0_keep, Cond.selects RX0 yX0_keep yX0_keep, Cond.code yX0_keep cX0_keep 1 none, Cond.methodLink RX0 30 yX0_dropOldest, Cond.instanceMethod yX0_dropOldest, Cond.selects RX0 yX0_dropOldest yX0_dropOldest, Cond.code yX0_dropOldest cX0_dropOldest 4 none]
def wsX3_empty : List Cond := .code yX3_empty cX3_empty 2 (some .int) :: ((wsX3_empty_r1 ++ (wsX3_empty_r2 ++ wsX3_empty_r3)) ++ wsX30 ++ wsX10 ++ wsX00)
def wsX3_foundOrNot : List Cond := .code yX3_foundOrNot cX3_foundOrNot 1 (some .int) :: ([.constant RX3 133 (-1000004)])
def wsX3_clauseOf_r1 : List Cond := [Cond.fieldLink RX3 10 "OrderedClauses" "store" "LOrderedClauses$Store;", Cond.constant RX3 30 (-1000001), Cond.instanceMethod yX1_has, Cond.initialized RX1, Cond.selects RX1 yX1_has yX1_has, Cond.code yX1_has cX1_has 2 (some .boolean), Cond.fieldLink RX1 37 "OrderedClauses$Store" "clauses" "I", Cond.methodLink RX3 71 yX3_at, Cond.static yX3_at, Cond.initialized RX3, Cond.code yX3_at cX3_at 2 (some .int), Cond.instanceMethod yX1_greatestOf, Cond.selects RX1 yX1_greatestOf yX1_greatestOf, Cond.code yX1_greatestOf cX1_greatestOf 5 (some .int), Cond.fieldLink RX1 9 "OrderedClauses$Store" "atomOfRank" "[I", Cond.methodLink RX3 81 yX3_foundOrNot, Cond.static yX3_foundOrNot, Cond.code yX3_foundOrNot cX3_foundOrNot 1 (some .int), Cond.constant RX3 133 (-1000004), Cond.methodLink RX3 93 yJ6_bitCount_0f7a4, Cond.static yJ6_bitCount_0f7a4, Cond.initialized RJ6, Cond.code yJ6_bitCount_0f7a4 cJ6_bitCount_0f7a4 1 (some .int), Cond.constant RJ6 265 (1431655765)]
def wsX3_clauseOf_r2 : List Cond := [Cond.constant RJ6 266 (858993459), Cond.constant RJ6 267 (252645135), Cond.instanceMethod yX1_howManyLessThan, Cond.selects RX1 yX1_howManyLessThan yX1_howManyLessThan, Cond.code yX1_howManyLessThan cX1_howManyLessThan 4 (some .int), Cond.fieldLink RX1 15 "OrderedClauses$Store" "literals" "[I", Cond.methodLink RX1 80 yX1_isDropped, Cond.instanceMethod yX1_isDropped, Cond.selects RX1 yX1_isDropped yX1_isDropped, Cond.code yX1_isDropped cX1_isDropped 2 (some .boolean), Cond.fieldLink RX1 18 "OrderedClauses$Store" "status" "[I", Cond.methodLink RX1 84 yX1_isLess, Cond.instanceMethod yX1_isLess, Cond.selects RX1 yX1_isLess yX1_isLess, Cond.code yX1_isLess cX1_isLess 4 (some .boolean), Cond.methodLink RX1 73 yX1_greatestOf, Cond.static yX3_isIn, Cond.code yX3_isIn cX3_isIn 3 (some .boolean)]
def wsX3_clauseOf : List Cond := .code yX3_clauseOf cX3_clauseOf 3 (some .int) :: ((wsX3_clauseOf_r1 ++ wsX3_clauseOf_r2) ++ wsX30 ++ wsX10)
def wsX3_tree : List Cond := .code yX3_tree cX3_tree 2 (some .long) :: ([.fieldLink RX3 10 "OrderedClauses" "store" "LOrderedClauses$Store;", .constantLong RX3 108 (-1000001), .instanceMethod yX1_has, .initialized RX1, .selects RX1 yX1_has yX1_has, .code yX1_has cX1_has 2 (some .boolean), .fieldLink RX1 37 "OrderedClauses$Store" "clauses" "I", .instanceMethod yX1_treeOf, .selects RX1 yX1_treeOf yX1_treeOf, .code yX1_treeOf cX1_treeOf 5 (some .long), .fieldLink RX1 21 "OrderedClauses$Store" "holdingParent" "[I", .fieldLink RX1 24 "OrderedClauses$Store" "otherParent" "[I", .static yX3_setOf, .initialized RX3, .code yX3_setOf cX3_setOf 1 (some .long), .static yX3_isIn, .code yX3_isIn cX3_isIn 3 (some .boolean), .static yX3_at, .code yX3_at cX3_at 2 (some .int)] ++ wsX30 ++ wsX10)
def wsX3_refutation : List Cond := .code yX3_refutation cX3_refutation 1 (some .int) :: ([.fieldLink RX3 10 "OrderedClauses" "store" "LOrderedClauses$Store;", .instanceMethod yX1_emptyClause, .initialized RX1, .selects RX1 yX1_emptyClause yX1_emptyClause, .code yX1_emptyClause cX1_emptyClause 2 (some .int), .fieldLink RX1 37 "OrderedClauses$Store" "clauses" "I", .fieldLink RX1 15 "OrderedClauses$Store" "literals" "[I", .static yX3_at, .initialized RX3, .code yX3_at cX3_at 2 (some .int), .methodLink RX3 81 yX3_foundOrNot, .static yX3_foundOrNot, .code yX3_foundOrNot cX3_foundOrNot 1 (some .int), .constant RX3 133 (-1000004)] ++ wsX30 ++ wsX10)
def wsJ13_bitCount_95d88 : List Cond := .code yJ13_bitCount_95d88 cJ13_bitCount_95d88 2 (some .int) :: ([.constantLong RJ13 314 (6148914691236517205), .constantLong RJ13 316 (3689348814741910323), .constantLong RJ13 318 (1085102592571150095)])
def wsX3_models_r1 : List Cond := [Cond.fieldLink RX3 10 "OrderedClauses" "store" "LOrderedClauses$Store;", Cond.instanceMethod yX1_toldClauses, Cond.initialized RX1, Cond.selects RX1 yX1_toldClauses yX1_toldClauses, Cond.code yX1_toldClauses cX1_toldClauses 4 (some .long), Cond.fieldLink RX1 37 "OrderedClauses$Store" "clauses" "I", Cond.methodLink RX1 142 yX1_wasTold, Cond.instanceMethod yX1_wasTold, Cond.selects RX1 yX1_wasTold yX1_wasTold, Cond.code yX1_wasTold cX1_wasTold 2 (some .boolean), Cond.fieldLink RX1 21 "OrderedClauses$Store" "holdingParent" "[I", Cond.static yX3_at, Cond.initialized RX3, Cond.code yX3_at cX3_at 2 (some .int), Cond.static yX3_setOf, Cond.code yX3_setOf cX3_setOf 1 (some .long), Cond.instanceMethod yX1_valuesFulfilling, Cond.selects RX1 yX1_valuesFulfilling yX1_valuesFulfilling, Cond.code yX1_valuesFulfilling cX1_valuesFulfilling 6 (some .long), Cond.constantLong RX1 145 (-1), Cond.fieldLink RX1 33 "OrderedClauses$Store" "fulfilledBy" "[J", Cond.static yX3_isIn, Cond.code yX3_isIn cX3_isIn 3 (some .boolean), Cond.static yX3_longAt]
def wsX3_models_r2 : List Cond := [Cond.code yX3_longAt cX3_longAt 2 (some .long), Cond.methodLink RX3 125 yJ13_bitCount_95d88, Cond.static yJ13_bitCount_95d88, Cond.initialized RJ13, Cond.code yJ13_bitCount_95d88 cJ13_bitCount_95d88 2 (some .int), Cond.constantLong RJ13 314 (6148914691236517205), Cond.constantLong RJ13 316 (3689348814741910323), Cond.constantLong RJ13 318 (1085102592571150095)]
def wsX3_models : List Cond := .code yX3_models cX3_models 1 (some .int) :: ((wsX3_models_r1 ++ wsX3_models_r2) ++ wsX30 ++ wsX10)
def wsX3_core_r1 : List Cond := [Cond.fieldLink RX3 10 "OrderedClauses" "store" "LOrderedClauses$Store;", Cond.constantLong RX3 140 (-1000004), Cond.instanceMethod yX1_toldClauses, Cond.initialized RX1, Cond.selects RX1 yX1_toldClauses yX1_toldClauses, Cond.code yX1_toldClauses cX1_toldClauses 4 (some .long), Cond.fieldLink RX1 37 "OrderedClauses$Store" "clauses" "I", Cond.methodLink RX1 142 yX1_wasTold, Cond.instanceMethod yX1_wasTold, Cond.selects RX1 yX1_wasTold yX1_wasTold, Cond.code yX1_wasTold cX1_wasTold 2 (some .boolean), Cond.fieldLink RX1 21 "OrderedClauses$Store" "holdingParent" "[I", Cond.static yX3_at, Cond.initialized RX3, Cond.code yX3_at cX3_at 2 (some .int), Cond.static yX3_setOf, Cond.code yX3_setOf cX3_setOf 1 (some .long), Cond.instanceMethod yX1_valuesFulfilling, Cond.selects RX1 yX1_valuesFulfilling yX1_valuesFulfilling, Cond.code yX1_valuesFulfilling cX1_valuesFulfilling 6 (some .long), Cond.constantLong RX1 145 (-1), Cond.fieldLink RX1 33 "OrderedClauses$Store" "fulfilledBy" "[J", Cond.static yX3_isIn, Cond.code yX3_isIn cX3_isIn 3 (some .boolean)]
def wsX3_core_r2 : List Cond := [Cond.static yX3_longAt, Cond.code yX3_longAt cX3_longAt 2 (some .long), Cond.instanceMethod yX1_fewestUnfulfillable, Cond.selects RX1 yX1_fewestUnfulfillable yX1_fewestUnfulfillable, Cond.code yX1_fewestUnfulfillable cX1_fewestUnfulfillable 8 (some .long), Cond.methodLink RX1 151 yX1_valuesFulfilling]
def wsX3_core : List Cond := .code yX3_core cX3_core 3 (some .long) :: ((wsX3_core_r1 ++ wsX3_core_r2) ++ wsX30 ++ wsX10)
def wsX3_follows_r1 : List Cond := [Cond.constant RX3 30 (-1000001), Cond.fieldLink RX3 10 "OrderedClauses" "store" "LOrderedClauses$Store;", Cond.constantLong RX3 145 (-1), Cond.instanceMethod yX1_toldClauses, Cond.initialized RX1, Cond.selects RX1 yX1_toldClauses yX1_toldClauses, Cond.code yX1_toldClauses cX1_toldClauses 4 (some .long), Cond.fieldLink RX1 37 "OrderedClauses$Store" "clauses" "I", Cond.methodLink RX1 142 yX1_wasTold, Cond.instanceMethod yX1_wasTold, Cond.selects RX1 yX1_wasTold yX1_wasTold, Cond.code yX1_wasTold cX1_wasTold 2 (some .boolean), Cond.fieldLink RX1 21 "OrderedClauses$Store" "holdingParent" "[I", Cond.static yX3_at, Cond.initialized RX3, Cond.code yX3_at cX3_at 2 (some .int), Cond.static yX3_setOf, Cond.code yX3_setOf cX3_setOf 1 (some .long), Cond.instanceMethod yX1_valuesFulfilling, Cond.selects RX1 yX1_valuesFulfilling yX1_valuesFulfilling, Cond.code yX1_valuesFulfilling cX1_valuesFulfilling 6 (some .long), Cond.constantLong RX1 145 (-1), Cond.fieldLink RX1 33 "OrderedClauses$Store" "fulfilledBy" "[J", Cond.static yX3_isIn]
def wsX3_follows_r2 : List Cond := [Cond.code yX3_isIn cX3_isIn 3 (some .boolean), Cond.static yX3_longAt, Cond.code yX3_longAt cX3_longAt 2 (some .long), Cond.methodLink RX3 142 yX3_valuesOfClause, Cond.static yX3_valuesOfClause, Cond.code yX3_valuesOfClause cX3_valuesOfClause 7 (some .long), Cond.fieldLink RX3 204 "OrderedClauses" "VALUES_WITH_ATOM" "[J", Cond.methodLink RX3 208 yX3_longAt]
def wsX3_follows : List Cond := .code yX3_follows cX3_follows 4 (some .int) :: ((wsX3_follows_r1 ++ wsX3_follows_r2) ++ wsX30 ++ wsX10)
def wsX3_floatBitsOf64ths : List Cond := .code yX3_floatBitsOf64ths cX3_floatBitsOf64ths 3 (some .int) :: ([.constant RX3 212 (8388607)])
def wsX3_share : List Cond := .code yX3_share cX3_share 2 (some .int) :: ([.constant RX3 30 (-1000001), .methodLink RX3 142 yX3_valuesOfClause, .static yX3_valuesOfClause, .initialized RX3, .code yX3_valuesOfClause cX3_valuesOfClause 7 (some .long), .fieldLink RX3 204 "OrderedClauses" "VALUES_WITH_ATOM" "[J", .constantLong RX3 145 (-1), .methodLink RX3 208 yX3_longAt, .static yX3_longAt, .code yX3_longAt cX3_longAt 2 (some .long), .methodLink RX3 125 yJ13_bitCount_95d88, .static yJ13_bitCount_95d88, .initialized RJ13, .code yJ13_bitCount_95d88 cJ13_bitCount_95d88 2 (some .int), .constantLong RJ13 314 (6148914691236517205), .constantLong RJ13 316 (3689348814741910323), .constantLong RJ13 318 (1085102592571150095), .methodLink RX3 147 yX3_floatBitsOf64ths, .static yX3_floatBitsOf64ths, .code yX3_floatBitsOf64ths cX3_floatBitsOf64ths 3 (some .int), .constant RX3 212 (8388607)])
def wsX3_count : List Cond := .code yX3_count cX3_count 2 (some .int) :: ([.fieldLink RX3 10 "OrderedClauses" "store" "LOrderedClauses$Store;", .fieldLink RX3 19 "OrderedClauses" "history" "LOrderedClauses$History;", .fieldLink RX3 26 "OrderedClauses" "text" "LOrderedClauses$Text;", .constant RX3 30 (-1000001), .instanceMethod yX1_howMany, .initialized RX1, .selects RX1 yX1_howMany yX1_howMany, .code yX1_howMany cX1_howMany 4 (some .int), .fieldLink RX1 37 "OrderedClauses$Store" "clauses" "I", .fieldLink RX1 18 "OrderedClauses$Store" "status" "[I", .static yX3_at, .initialized RX3, .code yX3_at cX3_at 2 (some .int), .instanceMethod yX1_rankOf, .selects RX1 yX1_rankOf yX1_rankOf, .code yX1_rankOf cX1_rankOf 3 (some .int), .fieldLink RX1 9 "OrderedClauses$Store" "atomOfRank" "[I"] ++ wsX30 ++ wsX10 ++ wsX00 ++ wsX20)
def wsX3_undo_r1 : List Cond := [Cond.fieldLink RX3 19 "OrderedClauses" "history" "LOrderedClauses$History;", Cond.fieldLink RX3 10 "OrderedClauses" "store" "LOrderedClauses$Store;", Cond.constant RX3 56 (-1000002), Cond.instanceMethod yX0_restoreLatest, Cond.initialized RX0, Cond.selects RX0 yX0_restoreLatest yX0_restoreLatest, Cond.code yX0_restoreLatest cX0_restoreLatest 2 (some .boolean), Cond.fieldLink RX0 17 "OrderedClauses$History" "kept" "I", Cond.methodLink RX0 22 yX0_stateAt, Cond.instanceMethod yX0_stateAt, Cond.selects RX0 yX0_stateAt yX0_stateAt, Cond.code yX0_stateAt cX0_stateAt 2 (some (.object "OrderedClauses$Store")), Cond.fieldLink RX0 11 "OrderedClauses$History" "states" "[LOrderedClauses$Store;", Cond.instanceMethod yX1_copyFrom, Cond.initialized RX1, Cond.selects RX1 yX1_copyFrom yX1_copyFrom, Cond.code yX1_copyFrom cX1_copyFrom 2 none, Cond.fieldLink RX1 9 "OrderedClauses$Store" "atomOfRank" "[I", Cond.fieldLink RX1 15 "OrderedClauses$Store" "literals" "[I", Cond.fieldLink RX1 18 "OrderedClauses$Store" "status" "[I", Cond.fieldLink RX1 21 "OrderedClauses$Store" "holdingParent" "[I", Cond.fieldLink RX1 24 "OrderedClauses$Store" "otherParent" "[I", Cond.fieldLink RX1 27 "OrderedClauses$Store" "atomMadeBy" "[I", Cond.fieldLink RX1 30 "OrderedClauses$Store" "depth" "[I"]
def wsX3_undo_r2 : List Cond := [Cond.fieldLink RX1 33 "OrderedClauses$Store" "fulfilledBy" "[J", Cond.fieldLink RX1 37 "OrderedClauses$Store" "clauses" "I", Cond.fieldLink RX1 41 "OrderedClauses$Store" "steps" "I", Cond.fieldLink RX1 44 "OrderedClauses$Store" "setting" "I", Cond.fieldLink RX1 47 "OrderedClauses$Store" "heldAlways" "I", Cond.fieldLink RX1 50 "OrderedClauses$Store" "hadAnotherWithin" "I", Cond.static yX3_copyRow, Cond.initialized RX3, Cond.code yX3_copyRow cX3_copyRow 2 none, Cond.methodLink RX3 193 Lib.Math.min.name, Cond.static Lib.Math.min.name, Cond.initialized "java/lang/Math", Cond.code Lib.Math.min.name Lib.Math.min.code 2 (some .int), Cond.methodLink RX3 198 arraycopyName, Cond.native arraycopyName, Cond.static arraycopyName, Cond.initialized "java/lang/System", Cond.static yX3_copyLongRow, Cond.code yX3_copyLongRow cX3_copyLongRow 2 none]
def wsX3_undo : List Cond := .code yX3_undo cX3_undo 1 (some .int) :: ((wsX3_undo_r1 ++ wsX3_undo_r2) ++ wsX30 ++ wsX00 ++ wsX10)
def wsX3_type : List Cond := .code yX3_type cX3_type 2 (some .int) :: ([.constant RX3 30 (-1000001), .fieldLink RX3 26 "OrderedClauses" "text" "LOrderedClauses$Text;", .constant RX3 55 (-1000003), .instanceMethod yX2_add, .initialized RX2, .selects RX2 yX2_add yX2_add, .code yX2_add cX2_add 2 (some .boolean), .fieldLink RX2 15 "OrderedClauses$Text" "length" "I", .fieldLink RX2 9 "OrderedClauses$Text" "characters" "[I", .static yX3_put, .initialized RX3, .code yX3_put cX3_put 3 none] ++ wsX30 ++ wsX20)
def wsX3_clearText : List Cond := .code yX3_clearText cX3_clearText 2 (some .int) :: ([.fieldLink RX3 26 "OrderedClauses" "text" "LOrderedClauses$Text;"] ++ wsX30 ++ wsX20)
def wsX3_fault : List Cond := .code yX3_fault cX3_fault 4 (some .int) :: ([.constant RX3 30 (-1000001), .fieldLink RX3 26 "OrderedClauses" "text" "LOrderedClauses$Text;", .constant RX3 133 (-1000004), .instanceMethod yX2_whereItBreaksOff, .initialized RX2, .selects RX2 yX2_whereItBreaksOff yX2_whereItBreaksOff, .code yX2_whereItBreaksOff cX2_whereItBreaksOff 5 (some .int), .fieldLink RX2 15 "OrderedClauses$Text" "length" "I", .fieldLink RX2 9 "OrderedClauses$Text" "characters" "[I", .static yX3_at, .initialized RX3, .code yX3_at cX3_at 2 (some .int), .instanceMethod yX2_startOfClause, .selects RX2 yX2_startOfClause yX2_startOfClause, .code yX2_startOfClause cX2_startOfClause 3 (some .int)] ++ wsX30 ++ wsX20)
def wsX3_bringText_r1 : List Cond := [Cond.fieldLink RX3 26 "OrderedClauses" "text" "LOrderedClauses$Text;", Cond.fieldLink RX3 10 "OrderedClauses" "store" "LOrderedClauses$Store;", Cond.constant RX3 55 (-1000003), Cond.methodLink RX3 71 yX3_at, Cond.static yX3_at, Cond.initialized RX3, Cond.code yX3_at cX3_at 2 (some .int), Cond.instanceMethod yX1_bring, Cond.initialized RX1, Cond.selects RX1 yX1_bring yX1_bring, Cond.code yX1_bring cX1_bring 5 (some .int), Cond.fieldLink RX1 47 "OrderedClauses$Store" "heldAlways" "I", Cond.fieldLink RX1 50 "OrderedClauses$Store" "hadAnotherWithin" "I", Cond.fieldLink RX1 37 "OrderedClauses$Store" "clauses" "I", Cond.constant RX1 94 (-1000003), Cond.static yX3_holdsAlways, Cond.code yX3_holdsAlways cX3_holdsAlways 1 (some .boolean), Cond.methodLink RX1 91 yX1_hasAnotherWithin, Cond.instanceMethod yX1_hasAnotherWithin, Cond.selects RX1 yX1_hasAnotherWithin yX1_hasAnotherWithin, Cond.code yX1_hasAnotherWithin cX1_hasAnotherWithin 3 (some .boolean), Cond.fieldLink RX1 15 "OrderedClauses$Store" "literals" "[I", Cond.methodLink RX1 80 yX1_isDropped, Cond.instanceMethod yX1_isDropped]
def wsX3_bringText_r2 : List Cond := [Cond.selects RX1 yX1_isDropped yX1_isDropped, Cond.code yX1_isDropped cX1_isDropped 2 (some .boolean), Cond.fieldLink RX1 18 "OrderedClauses$Store" "status" "[I", Cond.static yX3_isWithin, Cond.code yX3_isWithin cX3_isWithin 2 (some .boolean), Cond.methodLink RX1 95 yX1_dropAllAround, Cond.instanceMethod yX1_dropAllAround, Cond.selects RX1 yX1_dropAllAround yX1_dropAllAround, Cond.code yX1_dropAllAround cX1_dropAllAround 3 none, Cond.static yX3_put, Cond.code yX3_put cX3_put 3 none, Cond.methodLink RX1 99 yX1_takeIn, Cond.instanceMethod yX1_takeIn, Cond.selects RX1 yX1_takeIn yX1_takeIn, Cond.code yX1_takeIn cX1_takeIn 7 (some .int), Cond.fieldLink RX1 21 "OrderedClauses$Store" "holdingParent" "[I", Cond.fieldLink RX1 24 "OrderedClauses$Store" "otherParent" "[I", Cond.fieldLink RX1 27 "OrderedClauses$Store" "atomMadeBy" "[I", Cond.fieldLink RX1 30 "OrderedClauses$Store" "depth" "[I", Cond.methodLink RX1 106 Lib.Math.max.name, Cond.static Lib.Math.max.name, Cond.initialized "java/lang/Math", Cond.code Lib.Math.max.name Lib.Math.max.code 2 (some .int), Cond.fieldLink RX1 33 "OrderedClauses$Store" "fulfilledBy" "[J"]
def wsX3_bringText_r3 : List Cond := [Cond.static yX3_valuesOfClause, Cond.code yX3_valuesOfClause cX3_valuesOfClause 7 (some .long), Cond.fieldLink RX3 204 "OrderedClauses" "VALUES_WITH_ATOM" "[J", Cond.constantLong RX3 145 (-1), Cond.methodLink RX3 208 yX3_longAt, Cond.static yX3_longAt, Cond.code yX3_longAt cX3_longAt 2 (some .long), Cond.static yX3_putLong, Cond.code yX3_putLong cX3_putLong 4 none]
def wsX3_bringText : List Cond := .code yX3_bringText cX3_bringText 7 (some .int) :: ((wsX3_bringText_r1 ++ (wsX3_bringText_r2 ++ wsX3_bringText_r3)) ++ wsX30 ++ wsX20 ++ wsX10)
def wsX3_play_r1 : List Cond := [Cond.fieldLink RX3 26 "OrderedClauses" "text" "LOrderedClauses$Text;", Cond.constant RX3 56 (-1000002), Cond.fieldLink RX3 19 "OrderedClauses" "history" "LOrderedClauses$History;", Cond.fieldLink RX3 10 "OrderedClauses" "store" "LOrderedClauses$Store;", Cond.instanceMethod yX2_whereItBreaksOff, Cond.initialized RX2, Cond.selects RX2 yX2_whereItBreaksOff yX2_whereItBreaksOff, Cond.code yX2_whereItBreaksOff cX2_whereItBreaksOff 5 (some .int), Cond.fieldLink RX2 15 "OrderedClauses$Text" "length" "I", Cond.fieldLink RX2 9 "OrderedClauses$Text" "characters" "[I", Cond.static yX3_at, Cond.initialized RX3, Cond.code yX3_at cX3_at 2 (some .int), Cond.instanceMethod yX0_putAside, Cond.initialized RX0, Cond.selects RX0 yX0_putAside yX0_putAside, Cond.code yX0_putAside cX0_putAside 3 none, Cond.fieldLink RX0 17 "OrderedClauses$History" "kept" "I", Cond.methodLink RX0 22 yX0_stateAt, Cond.instanceMethod yX0_stateAt, Cond.selects RX0 yX0_stateAt yX0_stateAt, Cond.code yX0_stateAt cX0_stateAt 2 (some (.object "OrderedClauses$Store")), Cond.fieldLink RX0 11 "OrderedClauses$History" "states" "[LOrderedClauses$Store;", Cond.instanceMethod yX1_copyFrom]
def wsX3_play_r2 : List Cond := [Cond.initialized RX1, Cond.selects RX1 yX1_copyFrom yX1_copyFrom, Cond.code yX1_copyFrom cX1_copyFrom 2 none, Cond.fieldLink RX1 9 "OrderedClauses$Store" "atomOfRank" "[I", Cond.fieldLink RX1 15 "OrderedClauses$Store" "literals" "[I", Cond.fieldLink RX1 18 "OrderedClauses$Store" "status" "[I", Cond.fieldLink RX1 21 "OrderedClauses$Store" "holdingParent" "[I", Cond.fieldLink RX1 24 "OrderedClauses$Store" "otherParent" "[I", Cond.fieldLink RX1 27 "OrderedClauses$Store" "atomMadeBy" "[I", Cond.fieldLink RX1 30 "OrderedClauses$Store" "depth" "[I", Cond.fieldLink RX1 33 "OrderedClauses$Store" "fulfilledBy" "[J", Cond.fieldLink RX1 37 "OrderedClauses$Store" "clauses" "I", Cond.fieldLink RX1 41 "OrderedClauses$Store" "steps" "I", Cond.fieldLink RX1 44 "OrderedClauses$Store" "setting" "I", Cond.fieldLink RX1 47 "OrderedClauses$Store" "heldAlways" "I", Cond.fieldLink RX1 50 "OrderedClauses$Store" "hadAnotherWithin" "I", Cond.static yX3_copyRow, Cond.code yX3_copyRow cX3_copyRow 2 none, Cond.methodLink RX3 193 Lib.Math.min.name, Cond.static Lib.Math.min.name, Cond.initialized "java/lang/Math", Cond.code Lib.Math.min.name Lib.Math.min.code 2 (some .int), Cond.methodLink RX3 198 arraycopyName, Cond.native arraycopyName]
def wsX3_play_r3 : List Cond := [Cond.static arraycopyName, Cond.initialized "java/lang/System", Cond.static yX3_copyLongRow, Cond.code yX3_copyLongRow cX3_copyLongRow 2 none, Cond.methodLink RX3 181 yX3_bringText, Cond.instanceMethod yX3_bringText, Cond.selects RX3 yX3_bringText yX3_bringText, Cond.code yX3_bringText cX3_bringText 7 (some .int), Cond.constant RX3 55 (-1000003), Cond.methodLink RX3 71 yX3_at, Cond.instanceMethod yX1_bring, Cond.selects RX1 yX1_bring yX1_bring, Cond.code yX1_bring cX1_bring 5 (some .int), Cond.constant RX1 94 (-1000003), Cond.static yX3_holdsAlways, Cond.code yX3_holdsAlways cX3_holdsAlways 1 (some .boolean), Cond.methodLink RX1 91 yX1_hasAnotherWithin, Cond.instanceMethod yX1_hasAnotherWithin, Cond.selects RX1 yX1_hasAnotherWithin yX1_hasAnotherWithin, Cond.code yX1_hasAnotherWithin cX1_hasAnotherWithin 3 (some .boolean), Cond.methodLink RX1 80 yX1_isDropped, Cond.instanceMethod yX1_isDropped, Cond.selects RX1 yX1_isDropped yX1_isDropped, Cond.code yX1_isDropped cX1_isDropped 2 (some .boolean)]
def wsX3_play_r4 : List Cond := [Cond.static yX3_isWithin, Cond.code yX3_isWithin cX3_isWithin 2 (some .boolean), Cond.methodLink RX1 95 yX1_dropAllAround, Cond.instanceMethod yX1_dropAllAround, Cond.selects RX1 yX1_dropAllAround yX1_dropAllAround, Cond.code yX1_dropAllAround cX1_dropAllAround 3 none, Cond.static yX3_put, Cond.code yX3_put cX3_put 3 none, Cond.methodLink RX1 99 yX1_takeIn, Cond.instanceMethod yX1_takeIn, Cond.selects RX1 yX1_takeIn yX1_takeIn, Cond.code yX1_takeIn cX1_takeIn 7 (some .int), Cond.methodLink RX1 106 Lib.Math.max.name, Cond.static Lib.Math.max.name, Cond.code Lib.Math.max.name Lib.Math.max.code 2 (some .int), Cond.static yX3_valuesOfClause, Cond.code yX3_valuesOfClause cX3_valuesOfClause 7 (some .long), Cond.fieldLink RX3 204 "OrderedClauses" "VALUES_WITH_ATOM" "[J", Cond.constantLong RX3 145 (-1), Cond.methodLink RX3 208 yX3_longAt, Cond.static yX3_longAt, Cond.code yX3_longAt cX3_longAt 2 (some .long), Cond.static yX3_putLong, Cond.code yX3_putLong cX3_putLong 4 none]
def wsX3_play_r5 : List Cond := [Cond.methodLink RX3 39 yX3_settle, Cond.instanceMethod yX3_settle, Cond.selects RX3 yX3_settle yX3_settle, Cond.code yX3_settle cX3_settle 2 (some .int), Cond.constant RX3 30 (-1000001), Cond.instanceMethod yX0_takeBack, Cond.selects RX0 yX0_takeBack yX0_takeBack, Cond.code yX0_takeBack cX0_takeBack 2 none, Cond.instanceMethod yX0_keep, Cond.selects RX0 yX0_keep yX0_keep, Cond.code yX0_keep cX0_keep 1 none, Cond.methodLink RX0 30 yX0_dropOldest, Cond.instanceMethod yX0_dropOldest, Cond.selects RX0 yX0_dropOldest yX0_dropOldest, Cond.code yX0_dropOldest cX0_dropOldest 4 none]
def wsX3_play : List Cond := .code yX3_play cX3_play 1 (some .int) :: ((wsX3_play_r1 ++ (wsX3_play_r2 ++ (wsX3_play_r3 ++ (wsX3_play_r4 ++ wsX3_play_r5)))) ++ wsX30 ++ wsX20 ++ wsX00 ++ wsX10)
def wsJ9_max_7cf53 : List Cond := .code yJ9_max_7cf53 cJ9_max_7cf53 2 (some .int) :: ([])
def wsJ9_min_7cf53 : List Cond := .code yJ9_min_7cf53 cJ9_min_7cf53 2 (some .int) :: ([])
def wsL_lot : List Cond := .code yL_lot cL_lot 2 (some .int) :: ([.constant RL 7 (-1177819801)])
def wsL_low : List Cond := .code yL_low cL_low 2 (some .int) :: ([.constant RL 8 (2147483647)])
def wsL_digest_r1 : List Cond := [Cond.constantLong RL 9 (43), Cond.constantLong RL 11 (31), Cond.constantLong RL 23 (4096), Cond.constantLong RL 25 (3), Cond.constantLong RL 27 (7), Cond.methodLink RL 13 yX3_count, Cond.instanceMethod yX3_count, Cond.selects RX3 yX3_count yX3_count, Cond.initialized RX3, Cond.code yX3_count cX3_count 2 (some .int), Cond.fieldLink RX3 10 "OrderedClauses" "store" "LOrderedClauses$Store;", Cond.fieldLink RX3 19 "OrderedClauses" "history" "LOrderedClauses$History;", Cond.fieldLink RX3 26 "OrderedClauses" "text" "LOrderedClauses$Text;", Cond.constant RX3 30 (-1000001), Cond.instanceMethod yX1_howMany, Cond.initialized RX1, Cond.selects RX1 yX1_howMany yX1_howMany, Cond.code yX1_howMany cX1_howMany 4 (some .int), Cond.fieldLink RX1 37 "OrderedClauses$Store" "clauses" "I", Cond.fieldLink RX1 18 "OrderedClauses$Store" "status" "[I", Cond.static yX3_at, Cond.code yX3_at cX3_at 2 (some .int), Cond.instanceMethod yX1_rankOf, Cond.selects RX1 yX1_rankOf yX1_rankOf]
def wsL_digest_r2 : List Cond := [Cond.code yX1_rankOf cX1_rankOf 3 (some .int), Cond.fieldLink RX1 9 "OrderedClauses$Store" "atomOfRank" "[I", Cond.methodLink RL 19 yX3_clauseOf, Cond.instanceMethod yX3_clauseOf, Cond.selects RX3 yX3_clauseOf yX3_clauseOf, Cond.code yX3_clauseOf cX3_clauseOf 3 (some .int), Cond.instanceMethod yX1_has, Cond.selects RX1 yX1_has yX1_has, Cond.code yX1_has cX1_has 2 (some .boolean), Cond.methodLink RX3 71 yX3_at, Cond.instanceMethod yX1_greatestOf, Cond.selects RX1 yX1_greatestOf yX1_greatestOf, Cond.code yX1_greatestOf cX1_greatestOf 5 (some .int), Cond.methodLink RX3 81 yX3_foundOrNot, Cond.static yX3_foundOrNot, Cond.code yX3_foundOrNot cX3_foundOrNot 1 (some .int), Cond.constant RX3 133 (-1000004), Cond.methodLink RX3 93 yJ6_bitCount_0f7a4, Cond.static yJ6_bitCount_0f7a4, Cond.initialized RJ6, Cond.code yJ6_bitCount_0f7a4 cJ6_bitCount_0f7a4 1 (some .int), Cond.constant RJ6 265 (1431655765), Cond.constant RJ6 266 (858993459), Cond.constant RJ6 267 (252645135)]
def wsL_digest_r3 : List Cond := [Cond.instanceMethod yX1_howManyLessThan, Cond.selects RX1 yX1_howManyLessThan yX1_howManyLessThan, Cond.code yX1_howManyLessThan cX1_howManyLessThan 4 (some .int), Cond.fieldLink RX1 15 "OrderedClauses$Store" "literals" "[I", Cond.methodLink RX1 80 yX1_isDropped, Cond.instanceMethod yX1_isDropped, Cond.selects RX1 yX1_isDropped yX1_isDropped, Cond.code yX1_isDropped cX1_isDropped 2 (some .boolean), Cond.methodLink RX1 84 yX1_isLess, Cond.instanceMethod yX1_isLess, Cond.selects RX1 yX1_isLess yX1_isLess, Cond.code yX1_isLess cX1_isLess 4 (some .boolean), Cond.methodLink RX1 73 yX1_greatestOf, Cond.static yX3_isIn, Cond.code yX3_isIn cX3_isIn 3 (some .boolean), Cond.methodLink RL 29 yX3_models, Cond.instanceMethod yX3_models, Cond.selects RX3 yX3_models yX3_models, Cond.code yX3_models cX3_models 1 (some .int), Cond.instanceMethod yX1_toldClauses, Cond.selects RX1 yX1_toldClauses yX1_toldClauses, Cond.code yX1_toldClauses cX1_toldClauses 4 (some .long), Cond.methodLink RX1 142 yX1_wasTold, Cond.instanceMethod yX1_wasTold]
def wsL_digest_r4 : List Cond := [Cond.selects RX1 yX1_wasTold yX1_wasTold, Cond.code yX1_wasTold cX1_wasTold 2 (some .boolean), Cond.fieldLink RX1 21 "OrderedClauses$Store" "holdingParent" "[I", Cond.static yX3_setOf, Cond.code yX3_setOf cX3_setOf 1 (some .long), Cond.instanceMethod yX1_valuesFulfilling, Cond.selects RX1 yX1_valuesFulfilling yX1_valuesFulfilling, Cond.code yX1_valuesFulfilling cX1_valuesFulfilling 6 (some .long), Cond.constantLong RX1 145 (-1), Cond.fieldLink RX1 33 "OrderedClauses$Store" "fulfilledBy" "[J", Cond.static yX3_longAt, Cond.code yX3_longAt cX3_longAt 2 (some .long), Cond.methodLink RX3 125 yJ13_bitCount_95d88, Cond.static yJ13_bitCount_95d88, Cond.initialized RJ13, Cond.code yJ13_bitCount_95d88 cJ13_bitCount_95d88 2 (some .int), Cond.constantLong RJ13 314 (6148914691236517205), Cond.constantLong RJ13 316 (3689348814741910323), Cond.constantLong RJ13 318 (1085102592571150095)]
def wsL_digest : List Cond := .code yL_digest cL_digest 4 (some .long) :: ((wsL_digest_r1 ++ (wsL_digest_r2 ++ (wsL_digest_r3 ++ wsL_digest_r4))) ++ wsX30 ++ wsX10 ++ wsX00 ++ wsX20)
def wsL_holds_r1 : List Cond := [Cond.constant RL 38 (-1000004), Cond.constantLong RL 50 (-1000004), Cond.methodLink RL 13 yX3_count, Cond.instanceMethod yX3_count, Cond.selects RX3 yX3_count yX3_count, Cond.initialized RX3, Cond.code yX3_count cX3_count 2 (some .int), Cond.fieldLink RX3 10 "OrderedClauses" "store" "LOrderedClauses$Store;", Cond.fieldLink RX3 19 "OrderedClauses" "history" "LOrderedClauses$History;", Cond.fieldLink RX3 26 "OrderedClauses" "text" "LOrderedClauses$Text;", Cond.constant RX3 30 (-1000001), Cond.instanceMethod yX1_howMany, Cond.initialized RX1, Cond.selects RX1 yX1_howMany yX1_howMany, Cond.code yX1_howMany cX1_howMany 4 (some .int), Cond.fieldLink RX1 37 "OrderedClauses$Store" "clauses" "I", Cond.fieldLink RX1 18 "OrderedClauses$Store" "status" "[I", Cond.static yX3_at, Cond.code yX3_at cX3_at 2 (some .int), Cond.instanceMethod yX1_rankOf, Cond.selects RX1 yX1_rankOf yX1_rankOf, Cond.code yX1_rankOf cX1_rankOf 3 (some .int), Cond.fieldLink RX1 9 "OrderedClauses$Store" "atomOfRank" "[I", Cond.methodLink RL 19 yX3_clauseOf]
def wsL_holds_r2 : List Cond := [Cond.instanceMethod yX3_clauseOf, Cond.selects RX3 yX3_clauseOf yX3_clauseOf, Cond.code yX3_clauseOf cX3_clauseOf 3 (some .int), Cond.instanceMethod yX1_has, Cond.selects RX1 yX1_has yX1_has, Cond.code yX1_has cX1_has 2 (some .boolean), Cond.methodLink RX3 71 yX3_at, Cond.instanceMethod yX1_greatestOf, Cond.selects RX1 yX1_greatestOf yX1_greatestOf, Cond.code yX1_greatestOf cX1_greatestOf 5 (some .int), Cond.methodLink RX3 81 yX3_foundOrNot, Cond.static yX3_foundOrNot, Cond.code yX3_foundOrNot cX3_foundOrNot 1 (some .int), Cond.constant RX3 133 (-1000004), Cond.methodLink RX3 93 yJ6_bitCount_0f7a4, Cond.static yJ6_bitCount_0f7a4, Cond.initialized RJ6, Cond.code yJ6_bitCount_0f7a4 cJ6_bitCount_0f7a4 1 (some .int), Cond.constant RJ6 265 (1431655765), Cond.constant RJ6 266 (858993459), Cond.constant RJ6 267 (252645135), Cond.instanceMethod yX1_howManyLessThan, Cond.selects RX1 yX1_howManyLessThan yX1_howManyLessThan, Cond.code yX1_howManyLessThan cX1_howManyLessThan 4 (some .int)]
def wsL_holds_r3 : List Cond := [Cond.fieldLink RX1 15 "OrderedClauses$Store" "literals" "[I", Cond.methodLink RX1 80 yX1_isDropped, Cond.instanceMethod yX1_isDropped, Cond.selects RX1 yX1_isDropped yX1_isDropped, Cond.code yX1_isDropped cX1_isDropped 2 (some .boolean), Cond.methodLink RX1 84 yX1_isLess, Cond.instanceMethod yX1_isLess, Cond.selects RX1 yX1_isLess yX1_isLess, Cond.code yX1_isLess cX1_isLess 4 (some .boolean), Cond.methodLink RX1 73 yX1_greatestOf, Cond.static yX3_isIn, Cond.code yX3_isIn cX3_isIn 3 (some .boolean), Cond.methodLink RL 33 yX3_follows, Cond.instanceMethod yX3_follows, Cond.selects RX3 yX3_follows yX3_follows, Cond.code yX3_follows cX3_follows 4 (some .int), Cond.constantLong RX3 145 (-1), Cond.instanceMethod yX1_toldClauses, Cond.selects RX1 yX1_toldClauses yX1_toldClauses, Cond.code yX1_toldClauses cX1_toldClauses 4 (some .long), Cond.methodLink RX1 142 yX1_wasTold, Cond.instanceMethod yX1_wasTold, Cond.selects RX1 yX1_wasTold yX1_wasTold, Cond.code yX1_wasTold cX1_wasTold 2 (some .boolean)]
def wsL_holds_r4 : List Cond := [Cond.fieldLink RX1 21 "OrderedClauses$Store" "holdingParent" "[I", Cond.static yX3_setOf, Cond.code yX3_setOf cX3_setOf 1 (some .long), Cond.instanceMethod yX1_valuesFulfilling, Cond.selects RX1 yX1_valuesFulfilling yX1_valuesFulfilling, Cond.code yX1_valuesFulfilling cX1_valuesFulfilling 6 (some .long), Cond.constantLong RX1 145 (-1), Cond.fieldLink RX1 33 "OrderedClauses$Store" "fulfilledBy" "[J", Cond.static yX3_longAt, Cond.code yX3_longAt cX3_longAt 2 (some .long), Cond.methodLink RX3 142 yX3_valuesOfClause, Cond.static yX3_valuesOfClause, Cond.code yX3_valuesOfClause cX3_valuesOfClause 7 (some .long), Cond.fieldLink RX3 204 "OrderedClauses" "VALUES_WITH_ATOM" "[J", Cond.methodLink RX3 208 yX3_longAt, Cond.methodLink RL 39 yX3_refutation, Cond.instanceMethod yX3_refutation, Cond.selects RX3 yX3_refutation yX3_refutation, Cond.code yX3_refutation cX3_refutation 1 (some .int), Cond.instanceMethod yX1_emptyClause, Cond.selects RX1 yX1_emptyClause yX1_emptyClause, Cond.code yX1_emptyClause cX1_emptyClause 2 (some .int), Cond.methodLink RL 42 yX3_tree, Cond.instanceMethod yX3_tree]
def wsL_holds_r5 : List Cond := [Cond.selects RX3 yX3_tree yX3_tree, Cond.code yX3_tree cX3_tree 2 (some .long), Cond.constantLong RX3 108 (-1000001), Cond.instanceMethod yX1_treeOf, Cond.selects RX1 yX1_treeOf yX1_treeOf, Cond.code yX1_treeOf cX1_treeOf 5 (some .long), Cond.fieldLink RX1 24 "OrderedClauses$Store" "otherParent" "[I", Cond.methodLink RL 29 yX3_models, Cond.instanceMethod yX3_models, Cond.selects RX3 yX3_models yX3_models, Cond.code yX3_models cX3_models 1 (some .int), Cond.methodLink RX3 125 yJ13_bitCount_95d88, Cond.static yJ13_bitCount_95d88, Cond.initialized RJ13, Cond.code yJ13_bitCount_95d88 cJ13_bitCount_95d88 2 (some .int), Cond.constantLong RJ13 314 (6148914691236517205), Cond.constantLong RJ13 316 (3689348814741910323), Cond.constantLong RJ13 318 (1085102592571150095), Cond.methodLink RL 46 yX3_core, Cond.instanceMethod yX3_core, Cond.selects RX3 yX3_core yX3_core, Cond.code yX3_core cX3_core 3 (some .long), Cond.constantLong RX3 140 (-1000004), Cond.instanceMethod yX1_fewestUnfulfillable]
def wsL_holds_r6 : List Cond := [Cond.selects RX1 yX1_fewestUnfulfillable yX1_fewestUnfulfillable, Cond.code yX1_fewestUnfulfillable cX1_fewestUnfulfillable 8 (some .long), Cond.methodLink RX1 151 yX1_valuesFulfilling]
def wsL_holds : List Cond := .code yL_holds cL_holds 12 (some .boolean) :: ((wsL_holds_r1 ++ (wsL_holds_r2 ++ (wsL_holds_r3 ++ (wsL_holds_r4 ++ (wsL_holds_r5 ++ wsL_holds_r6))))) ++ wsX30 ++ wsX10 ++ wsX00 ++ wsX20)
def wsL_types_r1 : List Cond := [Cond.methodLink RL 52 yL_low, Cond.static yL_low, Cond.initialized RL, Cond.code yL_low cL_low 2 (some .int), Cond.constant RL 8 (2147483647), Cond.methodLink RL 55 yX3_clearText, Cond.instanceMethod yX3_clearText, Cond.selects RX3 yX3_clearText yX3_clearText, Cond.initialized RX3, Cond.code yX3_clearText cX3_clearText 2 (some .int), Cond.fieldLink RX3 26 "OrderedClauses" "text" "LOrderedClauses$Text;", Cond.methodLink RL 58 yX3_type, Cond.instanceMethod yX3_type, Cond.selects RX3 yX3_type yX3_type, Cond.code yX3_type cX3_type 2 (some .int), Cond.constant RX3 30 (-1000001), Cond.constant RX3 55 (-1000003), Cond.instanceMethod yX2_add, Cond.initialized RX2, Cond.selects RX2 yX2_add yX2_add, Cond.code yX2_add cX2_add 2 (some .boolean), Cond.fieldLink RX2 15 "OrderedClauses$Text" "length" "I", Cond.fieldLink RX2 9 "OrderedClauses$Text" "characters" "[I", Cond.static yX3_put]
def wsL_types_r2 : List Cond := [Cond.code yX3_put cX3_put 3 none]
def wsL_types : List Cond := .code yL_types cL_types 7 (some .boolean) :: ((wsL_types_r1 ++ wsL_types_r2) ++ wsX30 ++ wsX20)
def wsL_plays_r1 : List Cond := [Cond.constant RL 38 (-1000004), Cond.constant RL 67 (-1000003), Cond.constant RL 68 (-1000002), Cond.methodLink RL 61 yX3_fault, Cond.instanceMethod yX3_fault, Cond.selects RX3 yX3_fault yX3_fault, Cond.initialized RX3, Cond.code yX3_fault cX3_fault 4 (some .int), Cond.constant RX3 30 (-1000001), Cond.fieldLink RX3 26 "OrderedClauses" "text" "LOrderedClauses$Text;", Cond.constant RX3 133 (-1000004), Cond.instanceMethod yX2_whereItBreaksOff, Cond.initialized RX2, Cond.selects RX2 yX2_whereItBreaksOff yX2_whereItBreaksOff, Cond.code yX2_whereItBreaksOff cX2_whereItBreaksOff 5 (some .int), Cond.fieldLink RX2 15 "OrderedClauses$Text" "length" "I", Cond.fieldLink RX2 9 "OrderedClauses$Text" "characters" "[I", Cond.static yX3_at, Cond.code yX3_at cX3_at 2 (some .int), Cond.instanceMethod yX2_startOfClause, Cond.selects RX2 yX2_startOfClause yX2_startOfClause, Cond.code yX2_startOfClause cX2_startOfClause 3 (some .int), Cond.methodLink RL 13 yX3_count, Cond.instanceMethod yX3_count]
def wsL_plays_r2 : List Cond := [Cond.selects RX3 yX3_count yX3_count, Cond.code yX3_count cX3_count 2 (some .int), Cond.fieldLink RX3 10 "OrderedClauses" "store" "LOrderedClauses$Store;", Cond.fieldLink RX3 19 "OrderedClauses" "history" "LOrderedClauses$History;", Cond.instanceMethod yX1_howMany, Cond.initialized RX1, Cond.selects RX1 yX1_howMany yX1_howMany, Cond.code yX1_howMany cX1_howMany 4 (some .int), Cond.fieldLink RX1 37 "OrderedClauses$Store" "clauses" "I", Cond.fieldLink RX1 18 "OrderedClauses$Store" "status" "[I", Cond.instanceMethod yX1_rankOf, Cond.selects RX1 yX1_rankOf yX1_rankOf, Cond.code yX1_rankOf cX1_rankOf 3 (some .int), Cond.fieldLink RX1 9 "OrderedClauses$Store" "atomOfRank" "[I", Cond.methodLink RL 64 yX3_play, Cond.instanceMethod yX3_play, Cond.selects RX3 yX3_play yX3_play, Cond.code yX3_play cX3_play 1 (some .int), Cond.constant RX3 56 (-1000002), Cond.instanceMethod yX0_putAside, Cond.initialized RX0, Cond.selects RX0 yX0_putAside yX0_putAside, Cond.code yX0_putAside cX0_putAside 3 none, Cond.fieldLink RX0 17 "OrderedClauses$History" "kept" "I"]
def wsL_plays_r3 : List Cond := [Cond.methodLink RX0 22 yX0_stateAt, Cond.instanceMethod yX0_stateAt, Cond.selects RX0 yX0_stateAt yX0_stateAt, Cond.code yX0_stateAt cX0_stateAt 2 (some (.object "OrderedClauses$Store")), Cond.fieldLink RX0 11 "OrderedClauses$History" "states" "[LOrderedClauses$Store;", Cond.instanceMethod yX1_copyFrom, Cond.selects RX1 yX1_copyFrom yX1_copyFrom, Cond.code yX1_copyFrom cX1_copyFrom 2 none, Cond.fieldLink RX1 15 "OrderedClauses$Store" "literals" "[I", Cond.fieldLink RX1 21 "OrderedClauses$Store" "holdingParent" "[I", Cond.fieldLink RX1 24 "OrderedClauses$Store" "otherParent" "[I", Cond.fieldLink RX1 27 "OrderedClauses$Store" "atomMadeBy" "[I", Cond.fieldLink RX1 30 "OrderedClauses$Store" "depth" "[I", Cond.fieldLink RX1 33 "OrderedClauses$Store" "fulfilledBy" "[J", Cond.fieldLink RX1 41 "OrderedClauses$Store" "steps" "I", Cond.fieldLink RX1 44 "OrderedClauses$Store" "setting" "I", Cond.fieldLink RX1 47 "OrderedClauses$Store" "heldAlways" "I", Cond.fieldLink RX1 50 "OrderedClauses$Store" "hadAnotherWithin" "I", Cond.static yX3_copyRow, Cond.code yX3_copyRow cX3_copyRow 2 none, Cond.methodLink RX3 193 Lib.Math.min.name, Cond.static Lib.Math.min.name, Cond.initialized "java/lang/Math", Cond.code Lib.Math.min.name Lib.Math.min.code 2 (some .int)]
def wsL_plays_r4 : List Cond := [Cond.methodLink RX3 198 arraycopyName, Cond.native arraycopyName, Cond.static arraycopyName, Cond.initialized "java/lang/System", Cond.static yX3_copyLongRow, Cond.code yX3_copyLongRow cX3_copyLongRow 2 none, Cond.methodLink RX3 181 yX3_bringText, Cond.instanceMethod yX3_bringText, Cond.selects RX3 yX3_bringText yX3_bringText, Cond.code yX3_bringText cX3_bringText 7 (some .int), Cond.constant RX3 55 (-1000003), Cond.methodLink RX3 71 yX3_at, Cond.instanceMethod yX1_bring, Cond.selects RX1 yX1_bring yX1_bring, Cond.code yX1_bring cX1_bring 5 (some .int), Cond.constant RX1 94 (-1000003), Cond.static yX3_holdsAlways, Cond.code yX3_holdsAlways cX3_holdsAlways 1 (some .boolean), Cond.methodLink RX1 91 yX1_hasAnotherWithin, Cond.instanceMethod yX1_hasAnotherWithin, Cond.selects RX1 yX1_hasAnotherWithin yX1_hasAnotherWithin, Cond.code yX1_hasAnotherWithin cX1_hasAnotherWithin 3 (some .boolean), Cond.methodLink RX1 80 yX1_isDropped, Cond.instanceMethod yX1_isDropped]
def wsL_plays_r5 : List Cond := [Cond.selects RX1 yX1_isDropped yX1_isDropped, Cond.code yX1_isDropped cX1_isDropped 2 (some .boolean), Cond.static yX3_isWithin, Cond.code yX3_isWithin cX3_isWithin 2 (some .boolean), Cond.methodLink RX1 95 yX1_dropAllAround, Cond.instanceMethod yX1_dropAllAround, Cond.selects RX1 yX1_dropAllAround yX1_dropAllAround, Cond.code yX1_dropAllAround cX1_dropAllAround 3 none, Cond.static yX3_put, Cond.code yX3_put cX3_put 3 none, Cond.methodLink RX1 99 yX1_takeIn, Cond.instanceMethod yX1_takeIn, Cond.selects RX1 yX1_takeIn yX1_takeIn, Cond.code yX1_takeIn cX1_takeIn 7 (some .int), Cond.methodLink RX1 106 Lib.Math.max.name, Cond.static Lib.Math.max.name, Cond.code Lib.Math.max.name Lib.Math.max.code 2 (some .int), Cond.static yX3_valuesOfClause, Cond.code yX3_valuesOfClause cX3_valuesOfClause 7 (some .long), Cond.fieldLink RX3 204 "OrderedClauses" "VALUES_WITH_ATOM" "[J", Cond.constantLong RX3 145 (-1), Cond.methodLink RX3 208 yX3_longAt, Cond.static yX3_longAt, Cond.code yX3_longAt cX3_longAt 2 (some .long)]
def wsL_plays_r6 : List Cond := [Cond.static yX3_putLong, Cond.code yX3_putLong cX3_putLong 4 none, Cond.methodLink RX3 39 yX3_settle, Cond.instanceMethod yX3_settle, Cond.selects RX3 yX3_settle yX3_settle, Cond.code yX3_settle cX3_settle 2 (some .int), Cond.instanceMethod yX0_takeBack, Cond.selects RX0 yX0_takeBack yX0_takeBack, Cond.code yX0_takeBack cX0_takeBack 2 none, Cond.instanceMethod yX0_keep, Cond.selects RX0 yX0_keep yX0_keep, Cond.code yX0_keep cX0_keep 1 none, Cond.methodLink RX0 30 yX0_dropOldest, Cond.instanceMethod yX0_dropOldest, Cond.selects RX0 yX0_dropOldest yX0_dropOldest, Cond.code yX0_dropOldest cX0_dropOldest 4 none]
def wsL_plays : List Cond := .code yL_plays cL_plays 8 (some .boolean) :: ((wsL_plays_r1 ++ (wsL_plays_r2 ++ (wsL_plays_r3 ++ (wsL_plays_r4 ++ (wsL_plays_r5 ++ wsL_plays_r6))))) ++ wsX30 ++ wsX20 ++ wsX10 ++ wsX00)
def wsL_acts_r1 : List Cond := [Cond.constant RL 72 (-1000001), Cond.constant RL 76 (1065353216), Cond.constant RL 67 (-1000003), Cond.constant RL 68 (-1000002), Cond.methodLink RL 52 yL_low, Cond.static yL_low, Cond.initialized RL, Cond.code yL_low cL_low 2 (some .int), Cond.constant RL 8 (2147483647), Cond.methodLink RL 13 yX3_count, Cond.instanceMethod yX3_count, Cond.selects RX3 yX3_count yX3_count, Cond.initialized RX3, Cond.code yX3_count cX3_count 2 (some .int), Cond.fieldLink RX3 10 "OrderedClauses" "store" "LOrderedClauses$Store;", Cond.fieldLink RX3 19 "OrderedClauses" "history" "LOrderedClauses$History;", Cond.fieldLink RX3 26 "OrderedClauses" "text" "LOrderedClauses$Text;", Cond.constant RX3 30 (-1000001), Cond.instanceMethod yX1_howMany, Cond.initialized RX1, Cond.selects RX1 yX1_howMany yX1_howMany, Cond.code yX1_howMany cX1_howMany 4 (some .int), Cond.fieldLink RX1 37 "OrderedClauses$Store" "clauses" "I", Cond.fieldLink RX1 18 "OrderedClauses$Store" "status" "[I"]
def wsL_acts_r2 : List Cond := [Cond.static yX3_at, Cond.code yX3_at cX3_at 2 (some .int), Cond.instanceMethod yX1_rankOf, Cond.selects RX1 yX1_rankOf yX1_rankOf, Cond.code yX1_rankOf cX1_rankOf 3 (some .int), Cond.fieldLink RX1 9 "OrderedClauses$Store" "atomOfRank" "[I", Cond.methodLink RL 69 yX3_tell, Cond.instanceMethod yX3_tell, Cond.selects RX3 yX3_tell yX3_tell, Cond.code yX3_tell cX3_tell 2 (some .int), Cond.instanceMethod yX0_putAside, Cond.initialized RX0, Cond.selects RX0 yX0_putAside yX0_putAside, Cond.code yX0_putAside cX0_putAside 3 none, Cond.fieldLink RX0 17 "OrderedClauses$History" "kept" "I", Cond.methodLink RX0 22 yX0_stateAt, Cond.instanceMethod yX0_stateAt, Cond.selects RX0 yX0_stateAt yX0_stateAt, Cond.code yX0_stateAt cX0_stateAt 2 (some (.object "OrderedClauses$Store")), Cond.fieldLink RX0 11 "OrderedClauses$History" "states" "[LOrderedClauses$Store;", Cond.instanceMethod yX1_copyFrom, Cond.selects RX1 yX1_copyFrom yX1_copyFrom, Cond.code yX1_copyFrom cX1_copyFrom 2 none, Cond.fieldLink RX1 15 "OrderedClauses$Store" "literals" "[I"]
def wsL_acts_r3 : List Cond := [Cond.fieldLink RX1 21 "OrderedClauses$Store" "holdingParent" "[I", Cond.fieldLink RX1 24 "OrderedClauses$Store" "otherParent" "[I", Cond.fieldLink RX1 27 "OrderedClauses$Store" "atomMadeBy" "[I", Cond.fieldLink RX1 30 "OrderedClauses$Store" "depth" "[I", Cond.fieldLink RX1 33 "OrderedClauses$Store" "fulfilledBy" "[J", Cond.fieldLink RX1 41 "OrderedClauses$Store" "steps" "I", Cond.fieldLink RX1 44 "OrderedClauses$Store" "setting" "I", Cond.fieldLink RX1 47 "OrderedClauses$Store" "heldAlways" "I", Cond.fieldLink RX1 50 "OrderedClauses$Store" "hadAnotherWithin" "I", Cond.static yX3_copyRow, Cond.code yX3_copyRow cX3_copyRow 2 none, Cond.methodLink RX3 193 Lib.Math.min.name, Cond.static Lib.Math.min.name, Cond.initialized "java/lang/Math", Cond.code Lib.Math.min.name Lib.Math.min.code 2 (some .int), Cond.methodLink RX3 198 arraycopyName, Cond.native arraycopyName, Cond.static arraycopyName, Cond.initialized "java/lang/System", Cond.static yX3_copyLongRow, Cond.code yX3_copyLongRow cX3_copyLongRow 2 none, Cond.instanceMethod yX1_bring, Cond.selects RX1 yX1_bring yX1_bring, Cond.code yX1_bring cX1_bring 5 (some .int)]
def wsL_acts_r4 : List Cond := [Cond.constant RX1 94 (-1000003), Cond.static yX3_holdsAlways, Cond.code yX3_holdsAlways cX3_holdsAlways 1 (some .boolean), Cond.methodLink RX1 91 yX1_hasAnotherWithin, Cond.instanceMethod yX1_hasAnotherWithin, Cond.selects RX1 yX1_hasAnotherWithin yX1_hasAnotherWithin, Cond.code yX1_hasAnotherWithin cX1_hasAnotherWithin 3 (some .boolean), Cond.methodLink RX1 80 yX1_isDropped, Cond.instanceMethod yX1_isDropped, Cond.selects RX1 yX1_isDropped yX1_isDropped, Cond.code yX1_isDropped cX1_isDropped 2 (some .boolean), Cond.static yX3_isWithin, Cond.code yX3_isWithin cX3_isWithin 2 (some .boolean), Cond.methodLink RX1 95 yX1_dropAllAround, Cond.instanceMethod yX1_dropAllAround, Cond.selects RX1 yX1_dropAllAround yX1_dropAllAround, Cond.code yX1_dropAllAround cX1_dropAllAround 3 none, Cond.static yX3_put, Cond.code yX3_put cX3_put 3 none, Cond.methodLink RX1 99 yX1_takeIn, Cond.instanceMethod yX1_takeIn, Cond.selects RX1 yX1_takeIn yX1_takeIn, Cond.code yX1_takeIn cX1_takeIn 7 (some .int), Cond.methodLink RX1 106 Lib.Math.max.name]
def wsL_acts_r5 : List Cond := [Cond.static Lib.Math.max.name, Cond.code Lib.Math.max.name Lib.Math.max.code 2 (some .int), Cond.static yX3_valuesOfClause, Cond.code yX3_valuesOfClause cX3_valuesOfClause 7 (some .long), Cond.fieldLink RX3 204 "OrderedClauses" "VALUES_WITH_ATOM" "[J", Cond.constantLong RX3 145 (-1), Cond.methodLink RX3 208 yX3_longAt, Cond.static yX3_longAt, Cond.code yX3_longAt cX3_longAt 2 (some .long), Cond.static yX3_putLong, Cond.code yX3_putLong cX3_putLong 4 none, Cond.methodLink RX3 39 yX3_settle, Cond.instanceMethod yX3_settle, Cond.selects RX3 yX3_settle yX3_settle, Cond.code yX3_settle cX3_settle 2 (some .int), Cond.instanceMethod yX0_takeBack, Cond.selects RX0 yX0_takeBack yX0_takeBack, Cond.code yX0_takeBack cX0_takeBack 2 none, Cond.instanceMethod yX0_keep, Cond.selects RX0 yX0_keep yX0_keep, Cond.code yX0_keep cX0_keep 1 none, Cond.methodLink RX0 30 yX0_dropOldest, Cond.instanceMethod yX0_dropOldest, Cond.selects RX0 yX0_dropOldest yX0_dropOldest]
def wsL_acts_r6 : List Cond := [Cond.code yX0_dropOldest cX0_dropOldest 4 none, Cond.methodLink RL 73 yX3_share, Cond.instanceMethod yX3_share, Cond.selects RX3 yX3_share yX3_share, Cond.code yX3_share cX3_share 2 (some .int), Cond.methodLink RX3 142 yX3_valuesOfClause, Cond.methodLink RX3 125 yJ13_bitCount_95d88, Cond.static yJ13_bitCount_95d88, Cond.initialized RJ13, Cond.code yJ13_bitCount_95d88 cJ13_bitCount_95d88 2 (some .int), Cond.constantLong RJ13 314 (6148914691236517205), Cond.constantLong RJ13 316 (3689348814741910323), Cond.constantLong RJ13 318 (1085102592571150095), Cond.methodLink RX3 147 yX3_floatBitsOf64ths, Cond.static yX3_floatBitsOf64ths, Cond.code yX3_floatBitsOf64ths cX3_floatBitsOf64ths 3 (some .int), Cond.constant RX3 212 (8388607), Cond.methodLink RL 77 yX3_rank, Cond.instanceMethod yX3_rank, Cond.selects RX3 yX3_rank yX3_rank, Cond.code yX3_rank cX3_rank 3 (some .int), Cond.instanceMethod yX1_changeRank, Cond.selects RX1 yX1_changeRank yX1_changeRank, Cond.code yX1_changeRank cX1_changeRank 5 (some .int)]
def wsL_acts_r7 : List Cond := [Cond.methodLink RX1 69 yX1_rankOf, Cond.methodLink RL 80 yX3_set, Cond.instanceMethod yX3_set, Cond.selects RX3 yX3_set yX3_set, Cond.code yX3_set cX3_set 3 (some .int), Cond.methodLink RL 83 yX3_empty, Cond.instanceMethod yX3_empty, Cond.selects RX3 yX3_empty yX3_empty, Cond.code yX3_empty cX3_empty 2 (some .int), Cond.methodLink RL 86 yX3_step, Cond.instanceMethod yX3_step, Cond.selects RX3 yX3_step yX3_step, Cond.code yX3_step cX3_step 1 (some .int), Cond.instanceMethod yX1_takeStep, Cond.selects RX1 yX1_takeStep yX1_takeStep, Cond.code yX1_takeStep cX1_takeStep 2 (some .int), Cond.constant RX1 127 (-1000002), Cond.methodLink RX1 120 yX1_emptyClause, Cond.instanceMethod yX1_emptyClause, Cond.selects RX1 yX1_emptyClause yX1_emptyClause, Cond.code yX1_emptyClause cX1_emptyClause 2 (some .int), Cond.methodLink RX1 124 yX1_nextChoice, Cond.instanceMethod yX1_nextChoice, Cond.selects RX1 yX1_nextChoice yX1_nextChoice]
def wsL_acts_r8 : List Cond := [Cond.code yX1_nextChoice cX1_nextChoice 6 (some .int), Cond.methodLink RX1 131 yJ6_bitCount_0f7a4, Cond.static yJ6_bitCount_0f7a4, Cond.initialized RJ6, Cond.code yJ6_bitCount_0f7a4 cJ6_bitCount_0f7a4 1 (some .int), Cond.constant RJ6 265 (1431655765), Cond.constant RJ6 266 (858993459), Cond.constant RJ6 267 (252645135), Cond.methodLink RX1 128 yX1_resolveWithDone, Cond.instanceMethod yX1_resolveWithDone, Cond.selects RX1 yX1_resolveWithDone yX1_resolveWithDone, Cond.code yX1_resolveWithDone cX1_resolveWithDone 10 (some .boolean), Cond.methodLink RX1 73 yX1_greatestOf, Cond.instanceMethod yX1_greatestOf, Cond.selects RX1 yX1_greatestOf yX1_greatestOf, Cond.code yX1_greatestOf cX1_greatestOf 5 (some .int), Cond.methodLink RX1 136 yX1_bring, Cond.methodLink RL 39 yX3_refutation, Cond.instanceMethod yX3_refutation, Cond.selects RX3 yX3_refutation yX3_refutation, Cond.code yX3_refutation cX3_refutation 1 (some .int), Cond.methodLink RX3 81 yX3_foundOrNot, Cond.static yX3_foundOrNot, Cond.code yX3_foundOrNot cX3_foundOrNot 1 (some .int)]
def wsL_acts_r9 : List Cond := [Cond.constant RX3 133 (-1000004), Cond.methodLink RL 19 yX3_clauseOf, Cond.instanceMethod yX3_clauseOf, Cond.selects RX3 yX3_clauseOf yX3_clauseOf, Cond.code yX3_clauseOf cX3_clauseOf 3 (some .int), Cond.instanceMethod yX1_has, Cond.selects RX1 yX1_has yX1_has, Cond.code yX1_has cX1_has 2 (some .boolean), Cond.methodLink RX3 71 yX3_at, Cond.methodLink RX3 93 yJ6_bitCount_0f7a4, Cond.instanceMethod yX1_howManyLessThan, Cond.selects RX1 yX1_howManyLessThan yX1_howManyLessThan, Cond.code yX1_howManyLessThan cX1_howManyLessThan 4 (some .int), Cond.methodLink RX1 84 yX1_isLess, Cond.instanceMethod yX1_isLess, Cond.selects RX1 yX1_isLess yX1_isLess, Cond.code yX1_isLess cX1_isLess 4 (some .boolean), Cond.static yX3_isIn, Cond.code yX3_isIn cX3_isIn 3 (some .boolean), Cond.methodLink RL 89 yX3_run, Cond.instanceMethod yX3_run, Cond.selects RX3 yX3_run yX3_run, Cond.code yX3_run cX3_run 5 (some .int), Cond.constant RX3 55 (-1000003)]
def wsL_acts_r10 : List Cond := [Cond.constant RX3 56 (-1000002), Cond.methodLink RL 92 yL_types, Cond.static yL_types, Cond.code yL_types cL_types 7 (some .boolean), Cond.methodLink RL 55 yX3_clearText, Cond.instanceMethod yX3_clearText, Cond.selects RX3 yX3_clearText yX3_clearText, Cond.code yX3_clearText cX3_clearText 2 (some .int), Cond.methodLink RL 58 yX3_type, Cond.instanceMethod yX3_type, Cond.selects RX3 yX3_type yX3_type, Cond.code yX3_type cX3_type 2 (some .int), Cond.instanceMethod yX2_add, Cond.initialized RX2, Cond.selects RX2 yX2_add yX2_add, Cond.code yX2_add cX2_add 2 (some .boolean), Cond.fieldLink RX2 15 "OrderedClauses$Text" "length" "I", Cond.fieldLink RX2 9 "OrderedClauses$Text" "characters" "[I", Cond.methodLink RL 96 yL_plays, Cond.static yL_plays, Cond.code yL_plays cL_plays 8 (some .boolean), Cond.constant RL 38 (-1000004), Cond.methodLink RL 61 yX3_fault, Cond.instanceMethod yX3_fault]
def wsL_acts_r11 : List Cond := [Cond.selects RX3 yX3_fault yX3_fault, Cond.code yX3_fault cX3_fault 4 (some .int), Cond.instanceMethod yX2_whereItBreaksOff, Cond.selects RX2 yX2_whereItBreaksOff yX2_whereItBreaksOff, Cond.code yX2_whereItBreaksOff cX2_whereItBreaksOff 5 (some .int), Cond.instanceMethod yX2_startOfClause, Cond.selects RX2 yX2_startOfClause yX2_startOfClause, Cond.code yX2_startOfClause cX2_startOfClause 3 (some .int), Cond.methodLink RL 64 yX3_play, Cond.instanceMethod yX3_play, Cond.selects RX3 yX3_play yX3_play, Cond.code yX3_play cX3_play 1 (some .int), Cond.methodLink RX3 181 yX3_bringText, Cond.instanceMethod yX3_bringText, Cond.selects RX3 yX3_bringText yX3_bringText, Cond.code yX3_bringText cX3_bringText 7 (some .int)]
def wsL_acts : List Cond := .code yL_acts cL_acts 8 (some .boolean) :: ((wsL_acts_r1 ++ (wsL_acts_r2 ++ (wsL_acts_r3 ++ (wsL_acts_r4 ++ (wsL_acts_r5 ++ (wsL_acts_r6 ++ (wsL_acts_r7 ++ (wsL_acts_r8 ++ (wsL_acts_r9 ++ (wsL_acts_r10 ++ wsL_acts_r11)))))))))) ++ wsX30 ++ wsX10 ++ wsX00 ++ wsX20)
def wsL_law_r1 : List Cond := [Cond.classLink RL 14 RX3, Cond.instantiable RX3 3, Cond.initialized RX3, Cond.constant RL 68 (-1000002), Cond.methodLink RL 100 yX3_init, Cond.instanceMethod yX3_init, Cond.code yX3_init cX3_init 1 none, Cond.methodLink RX3 1 objectInit, Cond.instanceMethod objectInit, Cond.code objectInit ⟨#[0xb1]⟩ 1 none, Cond.classLink RX3 7 RX1, Cond.instantiable RX1 13, Cond.initialized RX1, Cond.fieldLink RX3 10 "OrderedClauses" "store" "LOrderedClauses$Store;", Cond.classLink RX3 16 RX0, Cond.instantiable RX0 2, Cond.initialized RX0, Cond.fieldLink RX3 19 "OrderedClauses" "history" "LOrderedClauses$History;", Cond.classLink RX3 23 RX2, Cond.instantiable RX2 2, Cond.initialized RX2, Cond.fieldLink RX3 26 "OrderedClauses" "text" "LOrderedClauses$Text;", Cond.instanceMethod yX1_init, Cond.code yX1_init cX1_init 2 none]
def wsL_law_r2 : List Cond := [Cond.methodLink RX1 3 objectInit, Cond.arrayClass .int, Cond.fieldLink RX1 9 "OrderedClauses$Store" "atomOfRank" "[I", Cond.fieldLink RX1 15 "OrderedClauses$Store" "literals" "[I", Cond.fieldLink RX1 18 "OrderedClauses$Store" "status" "[I", Cond.fieldLink RX1 21 "OrderedClauses$Store" "holdingParent" "[I", Cond.fieldLink RX1 24 "OrderedClauses$Store" "otherParent" "[I", Cond.fieldLink RX1 27 "OrderedClauses$Store" "atomMadeBy" "[I", Cond.fieldLink RX1 30 "OrderedClauses$Store" "depth" "[I", Cond.arrayClass .long, Cond.fieldLink RX1 33 "OrderedClauses$Store" "fulfilledBy" "[J", Cond.fieldLink RX1 37 "OrderedClauses$Store" "clauses" "I", Cond.fieldLink RX1 41 "OrderedClauses$Store" "steps" "I", Cond.fieldLink RX1 44 "OrderedClauses$Store" "setting" "I", Cond.fieldLink RX1 47 "OrderedClauses$Store" "heldAlways" "I", Cond.fieldLink RX1 50 "OrderedClauses$Store" "hadAnotherWithin" "I", Cond.static yX3_put, Cond.code yX3_put cX3_put 3 none, Cond.instanceMethod yX0_init, Cond.code yX0_init cX0_init 2 none, Cond.methodLink RX0 3 objectInit, Cond.classLink RX0 9 RX1, Cond.fieldLink RX0 11 "OrderedClauses$History" "states" "[LOrderedClauses$Store;", Cond.fieldLink RX0 17 "OrderedClauses$History" "kept" "I"]
def wsL_law_r3 : List Cond := [Cond.instanceMethod yX2_init, Cond.code yX2_init cX2_init 1 none, Cond.methodLink RX2 3 objectInit, Cond.fieldLink RX2 9 "OrderedClauses$Text" "characters" "[I", Cond.fieldLink RX2 15 "OrderedClauses$Text" "length" "I", Cond.methodLink RL 101 yL_holds, Cond.static yL_holds, Cond.initialized RL, Cond.code yL_holds cL_holds 12 (some .boolean), Cond.constant RL 38 (-1000004), Cond.constantLong RL 50 (-1000004), Cond.methodLink RL 13 yX3_count, Cond.instanceMethod yX3_count, Cond.selects RX3 yX3_count yX3_count, Cond.code yX3_count cX3_count 2 (some .int), Cond.constant RX3 30 (-1000001), Cond.instanceMethod yX1_howMany, Cond.selects RX1 yX1_howMany yX1_howMany, Cond.code yX1_howMany cX1_howMany 4 (some .int), Cond.static yX3_at, Cond.code yX3_at cX3_at 2 (some .int), Cond.instanceMethod yX1_rankOf, Cond.selects RX1 yX1_rankOf yX1_rankOf, Cond.code yX1_rankOf cX1_rankOf 3 (some .int)]
def wsL_law_r4 : List Cond := [Cond.methodLink RL 19 yX3_clauseOf, Cond.instanceMethod yX3_clauseOf, Cond.selects RX3 yX3_clauseOf yX3_clauseOf, Cond.code yX3_clauseOf cX3_clauseOf 3 (some .int), Cond.instanceMethod yX1_has, Cond.selects RX1 yX1_has yX1_has, Cond.code yX1_has cX1_has 2 (some .boolean), Cond.methodLink RX3 71 yX3_at, Cond.instanceMethod yX1_greatestOf, Cond.selects RX1 yX1_greatestOf yX1_greatestOf, Cond.code yX1_greatestOf cX1_greatestOf 5 (some .int), Cond.methodLink RX3 81 yX3_foundOrNot, Cond.static yX3_foundOrNot, Cond.code yX3_foundOrNot cX3_foundOrNot 1 (some .int), Cond.constant RX3 133 (-1000004), Cond.methodLink RX3 93 yJ6_bitCount_0f7a4, Cond.static yJ6_bitCount_0f7a4, Cond.initialized RJ6, Cond.code yJ6_bitCount_0f7a4 cJ6_bitCount_0f7a4 1 (some .int), Cond.constant RJ6 265 (1431655765), Cond.constant RJ6 266 (858993459), Cond.constant RJ6 267 (252645135), Cond.instanceMethod yX1_howManyLessThan, Cond.selects RX1 yX1_howManyLessThan yX1_howManyLessThan]
def wsL_law_r5 : List Cond := [Cond.code yX1_howManyLessThan cX1_howManyLessThan 4 (some .int), Cond.methodLink RX1 80 yX1_isDropped, Cond.instanceMethod yX1_isDropped, Cond.selects RX1 yX1_isDropped yX1_isDropped, Cond.code yX1_isDropped cX1_isDropped 2 (some .boolean), Cond.methodLink RX1 84 yX1_isLess, Cond.instanceMethod yX1_isLess, Cond.selects RX1 yX1_isLess yX1_isLess, Cond.code yX1_isLess cX1_isLess 4 (some .boolean), Cond.methodLink RX1 73 yX1_greatestOf, Cond.static yX3_isIn, Cond.code yX3_isIn cX3_isIn 3 (some .boolean), Cond.methodLink RL 33 yX3_follows, Cond.instanceMethod yX3_follows, Cond.selects RX3 yX3_follows yX3_follows, Cond.code yX3_follows cX3_follows 4 (some .int), Cond.constantLong RX3 145 (-1), Cond.instanceMethod yX1_toldClauses, Cond.selects RX1 yX1_toldClauses yX1_toldClauses, Cond.code yX1_toldClauses cX1_toldClauses 4 (some .long), Cond.methodLink RX1 142 yX1_wasTold, Cond.instanceMethod yX1_wasTold, Cond.selects RX1 yX1_wasTold yX1_wasTold, Cond.code yX1_wasTold cX1_wasTold 2 (some .boolean)]
def wsL_law_r6 : List Cond := [Cond.static yX3_setOf, Cond.code yX3_setOf cX3_setOf 1 (some .long), Cond.instanceMethod yX1_valuesFulfilling, Cond.selects RX1 yX1_valuesFulfilling yX1_valuesFulfilling, Cond.code yX1_valuesFulfilling cX1_valuesFulfilling 6 (some .long), Cond.constantLong RX1 145 (-1), Cond.static yX3_longAt, Cond.code yX3_longAt cX3_longAt 2 (some .long), Cond.methodLink RX3 142 yX3_valuesOfClause, Cond.static yX3_valuesOfClause, Cond.code yX3_valuesOfClause cX3_valuesOfClause 7 (some .long), Cond.fieldLink RX3 204 "OrderedClauses" "VALUES_WITH_ATOM" "[J", Cond.methodLink RX3 208 yX3_longAt, Cond.methodLink RL 39 yX3_refutation, Cond.instanceMethod yX3_refutation, Cond.selects RX3 yX3_refutation yX3_refutation, Cond.code yX3_refutation cX3_refutation 1 (some .int), Cond.instanceMethod yX1_emptyClause, Cond.selects RX1 yX1_emptyClause yX1_emptyClause, Cond.code yX1_emptyClause cX1_emptyClause 2 (some .int), Cond.methodLink RL 42 yX3_tree, Cond.instanceMethod yX3_tree, Cond.selects RX3 yX3_tree yX3_tree, Cond.code yX3_tree cX3_tree 2 (some .long)]
def wsL_law_r7 : List Cond := [Cond.constantLong RX3 108 (-1000001), Cond.instanceMethod yX1_treeOf, Cond.selects RX1 yX1_treeOf yX1_treeOf, Cond.code yX1_treeOf cX1_treeOf 5 (some .long), Cond.methodLink RL 29 yX3_models, Cond.instanceMethod yX3_models, Cond.selects RX3 yX3_models yX3_models, Cond.code yX3_models cX3_models 1 (some .int), Cond.methodLink RX3 125 yJ13_bitCount_95d88, Cond.static yJ13_bitCount_95d88, Cond.initialized RJ13, Cond.code yJ13_bitCount_95d88 cJ13_bitCount_95d88 2 (some .int), Cond.constantLong RJ13 314 (6148914691236517205), Cond.constantLong RJ13 316 (3689348814741910323), Cond.constantLong RJ13 318 (1085102592571150095), Cond.methodLink RL 46 yX3_core, Cond.instanceMethod yX3_core, Cond.selects RX3 yX3_core yX3_core, Cond.code yX3_core cX3_core 3 (some .long), Cond.constantLong RX3 140 (-1000004), Cond.instanceMethod yX1_fewestUnfulfillable, Cond.selects RX1 yX1_fewestUnfulfillable yX1_fewestUnfulfillable, Cond.code yX1_fewestUnfulfillable cX1_fewestUnfulfillable 8 (some .long), Cond.methodLink RX1 151 yX1_valuesFulfilling]
def wsL_law_r8 : List Cond := [Cond.methodLink RL 104 yX3_undo, Cond.instanceMethod yX3_undo, Cond.selects RX3 yX3_undo yX3_undo, Cond.code yX3_undo cX3_undo 1 (some .int), Cond.constant RX3 56 (-1000002), Cond.instanceMethod yX0_restoreLatest, Cond.selects RX0 yX0_restoreLatest yX0_restoreLatest, Cond.code yX0_restoreLatest cX0_restoreLatest 2 (some .boolean), Cond.methodLink RX0 22 yX0_stateAt, Cond.instanceMethod yX0_stateAt, Cond.selects RX0 yX0_stateAt yX0_stateAt, Cond.code yX0_stateAt cX0_stateAt 2 (some (.object "OrderedClauses$Store")), Cond.instanceMethod yX1_copyFrom, Cond.selects RX1 yX1_copyFrom yX1_copyFrom, Cond.code yX1_copyFrom cX1_copyFrom 2 none, Cond.static yX3_copyRow, Cond.code yX3_copyRow cX3_copyRow 2 none, Cond.methodLink RX3 193 Lib.Math.min.name, Cond.static Lib.Math.min.name, Cond.initialized "java/lang/Math", Cond.code Lib.Math.min.name Lib.Math.min.code 2 (some .int), Cond.methodLink RX3 198 arraycopyName, Cond.native arraycopyName, Cond.static arraycopyName]
def wsL_law_r9 : List Cond := [Cond.initialized "java/lang/System", Cond.static yX3_copyLongRow, Cond.code yX3_copyLongRow cX3_copyLongRow 2 none, Cond.methodLink RL 107 yL_lot, Cond.static yL_lot, Cond.code yL_lot cL_lot 2 (some .int), Cond.constant RL 7 (-1177819801), Cond.methodLink RL 111 yL_digest, Cond.static yL_digest, Cond.code yL_digest cL_digest 4 (some .long), Cond.constantLong RL 9 (43), Cond.constantLong RL 11 (31), Cond.constantLong RL 23 (4096), Cond.constantLong RL 25 (3), Cond.constantLong RL 27 (7), Cond.methodLink RL 115 yL_acts, Cond.static yL_acts, Cond.code yL_acts cL_acts 8 (some .boolean), Cond.constant RL 72 (-1000001), Cond.constant RL 76 (1065353216), Cond.constant RL 67 (-1000003), Cond.methodLink RL 52 yL_low, Cond.static yL_low, Cond.code yL_low cL_low 2 (some .int)]
def wsL_law_r10 : List Cond := [Cond.constant RL 8 (2147483647), Cond.methodLink RL 69 yX3_tell, Cond.instanceMethod yX3_tell, Cond.selects RX3 yX3_tell yX3_tell, Cond.code yX3_tell cX3_tell 2 (some .int), Cond.instanceMethod yX0_putAside, Cond.selects RX0 yX0_putAside yX0_putAside, Cond.code yX0_putAside cX0_putAside 3 none, Cond.instanceMethod yX1_bring, Cond.selects RX1 yX1_bring yX1_bring, Cond.code yX1_bring cX1_bring 5 (some .int), Cond.constant RX1 94 (-1000003), Cond.static yX3_holdsAlways, Cond.code yX3_holdsAlways cX3_holdsAlways 1 (some .boolean), Cond.methodLink RX1 91 yX1_hasAnotherWithin, Cond.instanceMethod yX1_hasAnotherWithin, Cond.selects RX1 yX1_hasAnotherWithin yX1_hasAnotherWithin, Cond.code yX1_hasAnotherWithin cX1_hasAnotherWithin 3 (some .boolean), Cond.static yX3_isWithin, Cond.code yX3_isWithin cX3_isWithin 2 (some .boolean), Cond.methodLink RX1 95 yX1_dropAllAround, Cond.instanceMethod yX1_dropAllAround, Cond.selects RX1 yX1_dropAllAround yX1_dropAllAround, Cond.code yX1_dropAllAround cX1_dropAllAround 3 none]
def wsL_law_r11 : List Cond := [Cond.methodLink RX1 99 yX1_takeIn, Cond.instanceMethod yX1_takeIn, Cond.selects RX1 yX1_takeIn yX1_takeIn, Cond.code yX1_takeIn cX1_takeIn 7 (some .int), Cond.methodLink RX1 106 Lib.Math.max.name, Cond.static Lib.Math.max.name, Cond.code Lib.Math.max.name Lib.Math.max.code 2 (some .int), Cond.static yX3_putLong, Cond.code yX3_putLong cX3_putLong 4 none, Cond.methodLink RX3 39 yX3_settle, Cond.instanceMethod yX3_settle, Cond.selects RX3 yX3_settle yX3_settle, Cond.code yX3_settle cX3_settle 2 (some .int), Cond.instanceMethod yX0_takeBack, Cond.selects RX0 yX0_takeBack yX0_takeBack, Cond.code yX0_takeBack cX0_takeBack 2 none, Cond.instanceMethod yX0_keep, Cond.selects RX0 yX0_keep yX0_keep, Cond.code yX0_keep cX0_keep 1 none, Cond.methodLink RX0 30 yX0_dropOldest, Cond.instanceMethod yX0_dropOldest, Cond.selects RX0 yX0_dropOldest yX0_dropOldest, Cond.code yX0_dropOldest cX0_dropOldest 4 none, Cond.methodLink RL 73 yX3_share]
def wsL_law_r12 : List Cond := [Cond.instanceMethod yX3_share, Cond.selects RX3 yX3_share yX3_share, Cond.code yX3_share cX3_share 2 (some .int), Cond.methodLink RX3 147 yX3_floatBitsOf64ths, Cond.static yX3_floatBitsOf64ths, Cond.code yX3_floatBitsOf64ths cX3_floatBitsOf64ths 3 (some .int), Cond.constant RX3 212 (8388607), Cond.methodLink RL 77 yX3_rank, Cond.instanceMethod yX3_rank, Cond.selects RX3 yX3_rank yX3_rank, Cond.code yX3_rank cX3_rank 3 (some .int), Cond.instanceMethod yX1_changeRank, Cond.selects RX1 yX1_changeRank yX1_changeRank, Cond.code yX1_changeRank cX1_changeRank 5 (some .int), Cond.methodLink RX1 69 yX1_rankOf, Cond.methodLink RL 80 yX3_set, Cond.instanceMethod yX3_set, Cond.selects RX3 yX3_set yX3_set, Cond.code yX3_set cX3_set 3 (some .int), Cond.methodLink RL 83 yX3_empty, Cond.instanceMethod yX3_empty, Cond.selects RX3 yX3_empty yX3_empty, Cond.code yX3_empty cX3_empty 2 (some .int), Cond.methodLink RL 86 yX3_step]
def wsL_law_r13 : List Cond := [Cond.instanceMethod yX3_step, Cond.selects RX3 yX3_step yX3_step, Cond.code yX3_step cX3_step 1 (some .int), Cond.instanceMethod yX1_takeStep, Cond.selects RX1 yX1_takeStep yX1_takeStep, Cond.code yX1_takeStep cX1_takeStep 2 (some .int), Cond.constant RX1 127 (-1000002), Cond.methodLink RX1 120 yX1_emptyClause, Cond.methodLink RX1 124 yX1_nextChoice, Cond.instanceMethod yX1_nextChoice, Cond.selects RX1 yX1_nextChoice yX1_nextChoice, Cond.code yX1_nextChoice cX1_nextChoice 6 (some .int), Cond.methodLink RX1 131 yJ6_bitCount_0f7a4, Cond.methodLink RX1 128 yX1_resolveWithDone, Cond.instanceMethod yX1_resolveWithDone, Cond.selects RX1 yX1_resolveWithDone yX1_resolveWithDone, Cond.code yX1_resolveWithDone cX1_resolveWithDone 10 (some .boolean), Cond.methodLink RX1 136 yX1_bring, Cond.methodLink RL 89 yX3_run, Cond.instanceMethod yX3_run, Cond.selects RX3 yX3_run yX3_run, Cond.code yX3_run cX3_run 5 (some .int), Cond.constant RX3 55 (-1000003), Cond.methodLink RL 92 yL_types]
def wsL_law_r14 : List Cond := [Cond.static yL_types, Cond.code yL_types cL_types 7 (some .boolean), Cond.methodLink RL 55 yX3_clearText, Cond.instanceMethod yX3_clearText, Cond.selects RX3 yX3_clearText yX3_clearText, Cond.code yX3_clearText cX3_clearText 2 (some .int), Cond.methodLink RL 58 yX3_type, Cond.instanceMethod yX3_type, Cond.selects RX3 yX3_type yX3_type, Cond.code yX3_type cX3_type 2 (some .int), Cond.instanceMethod yX2_add, Cond.selects RX2 yX2_add yX2_add, Cond.code yX2_add cX2_add 2 (some .boolean), Cond.methodLink RL 96 yL_plays, Cond.static yL_plays, Cond.code yL_plays cL_plays 8 (some .boolean), Cond.methodLink RL 61 yX3_fault, Cond.instanceMethod yX3_fault, Cond.selects RX3 yX3_fault yX3_fault, Cond.code yX3_fault cX3_fault 4 (some .int), Cond.instanceMethod yX2_whereItBreaksOff, Cond.selects RX2 yX2_whereItBreaksOff yX2_whereItBreaksOff, Cond.code yX2_whereItBreaksOff cX2_whereItBreaksOff 5 (some .int), Cond.instanceMethod yX2_startOfClause]
def wsL_law_r15 : List Cond := [Cond.selects RX2 yX2_startOfClause yX2_startOfClause, Cond.code yX2_startOfClause cX2_startOfClause 3 (some .int), Cond.methodLink RL 64 yX3_play, Cond.instanceMethod yX3_play, Cond.selects RX3 yX3_play yX3_play, Cond.code yX3_play cX3_play 1 (some .int), Cond.methodLink RX3 181 yX3_bringText, Cond.instanceMethod yX3_bringText, Cond.selects RX3 yX3_bringText yX3_bringText, Cond.code yX3_bringText cX3_bringText 7 (some .int)]
def wsL_law : List Cond := (wsL_law_r1 ++ (wsL_law_r2 ++ (wsL_law_r3 ++ (wsL_law_r4 ++ (wsL_law_r5 ++ (wsL_law_r6 ++ (wsL_law_r7 ++ (wsL_law_r8 ++ (wsL_law_r9 ++ (wsL_law_r10 ++ (wsL_law_r11 ++ (wsL_law_r12 ++ (wsL_law_r13 ++ (wsL_law_r14 ++ wsL_law_r15)))))))))))))) ++ wsX30 ++ wsX10 ++ wsX00 ++ wsX20 ++ ([] : List Cond)
set_option maxRecDepth 20000 in
theorem ggX0_init_X1_init : GoodIn wsX0_init wsX1_init := goodIn_r _ [10, 11, 2, 3, 12, 13, 14, 15, 16, 17, 18, 19, 20, 21, 22, 23, 24, 25, 26, 27, 28, 29, 32, 33, 34, 35, 36, 37, 38, 39, 40, 41, 42, 43, 44] (by decide +kernel) (by decide +kernel)
set_option maxRecDepth 20000 in
theorem gX0_init_X1_init_n21 : GoodIn wsX0_init (wsX1_init) := ggX0_init_X1_init
theorem dX0_init_0 : decode cX0_init 0 = .ok (.aload_n 0, 1) := by decide +kernel
theorem dX0_init_1 : decode cX0_init 1 = .ok (.invokespecial 3, 3) := by decide +kernel
theorem dX0_init_4 : decode cX0_init 4 = .ok (.aload_n 0, 1) := by decide +kernel
theorem dX0_init_5 : decode cX0_init 5 = .ok (.iconst 5, 1) := by decide +kernel
theorem dX0_init_6 : decode cX0_init 6 = .ok (.anewarray 9, 3) := by decide +kernel
theorem dX0_init_9 : decode cX0_init 9 = .ok (.putfield 11, 3) := by decide +kernel
theorem dX0_init_12 : decode cX0_init 12 = .ok (.aload_n 0, 1) := by decide +kernel
theorem dX0_init_13 : decode cX0_init 13 = .ok (.iconst 0, 1) := by decide +kernel
theorem dX0_init_14 : decode cX0_init 14 = .ok (.putfield 17, 3) := by decide +kernel
theorem dX0_init_17 : decode cX0_init 17 = .ok (.iconst 0, 1) := by decide +kernel
theorem dX0_init_18 : decode cX0_init 18 = .ok (.istore_n 1, 1) := by decide +kernel
theorem dX0_init_19 : decode cX0_init 19 = .ok (.iload_n 1, 1) := by decide +kernel
theorem dX0_init_20 : decode cX0_init 20 = .ok (.aload_n 0, 1) := by decide +kernel
theorem dX0_init_21 : decode cX0_init 21 = .ok (.getfield 11, 3) := by decide +kernel
theorem dX0_init_24 : decode cX0_init 24 = .ok (.arraylength, 1) := by decide +kernel
theorem dX0_init_25 : decode cX0_init 25 = .ok (.if_icmp .ge 22, 3) := by decide +kernel
theorem dX0_init_28 : decode cX0_init 28 = .ok (.aload_n 0, 1) := by decide +kernel
theorem dX0_init_29 : decode cX0_init 29 = .ok (.getfield 11, 3) := by decide +kernel
theorem dX0_init_32 : decode cX0_init 32 = .ok (.iload_n 1, 1) := by decide +kernel
theorem dX0_init_33 : decode cX0_init 33 = .ok (.new 9, 3) := by decide +kernel
theorem dX0_init_36 : decode cX0_init 36 = .ok (.dup, 1) := by decide +kernel
theorem dX0_init_37 : decode cX0_init 37 = .ok (.invokespecial 21, 3) := by decide +kernel
theorem dX0_init_40 : decode cX0_init 40 = .ok (.aastore, 1) := by decide +kernel
theorem dX0_init_41 : decode cX0_init 41 = .ok (.iinc 1 1, 3) := by decide +kernel
theorem dX0_init_44 : decode cX0_init 44 = .ok (.goto (-25), 3) := by decide +kernel
theorem dX0_init_47 : decode cX0_init 47 = .ok (.return_, 1) := by decide +kernel
theorem dX0_stateAt_0 : decode cX0_stateAt 0 = .ok (.iload_n 1, 1) := by decide +kernel
theorem dX0_stateAt_1 : decode cX0_stateAt 1 = .ok (.ifCond .lt 21, 3) := by decide +kernel
theorem dX0_stateAt_4 : decode cX0_stateAt 4 = .ok (.iload_n 1, 1) := by decide +kernel
theorem dX0_stateAt_5 : decode cX0_stateAt 5 = .ok (.aload_n 0, 1) := by decide +kernel
theorem dX0_stateAt_6 : decode cX0_stateAt 6 = .ok (.getfield 11, 3) := by decide +kernel
theorem dX0_stateAt_9 : decode cX0_stateAt 9 = .ok (.arraylength, 1) := by decide +kernel
theorem dX0_stateAt_10 : decode cX0_stateAt 10 = .ok (.if_icmp .ge 12, 3) := by decide +kernel
theorem dX0_stateAt_13 : decode cX0_stateAt 13 = .ok (.aload_n 0, 1) := by decide +kernel
theorem dX0_stateAt_14 : decode cX0_stateAt 14 = .ok (.getfield 11, 3) := by decide +kernel
theorem dX0_stateAt_17 : decode cX0_stateAt 17 = .ok (.iload_n 1, 1) := by decide +kernel
theorem dX0_stateAt_18 : decode cX0_stateAt 18 = .ok (.aaload, 1) := by decide +kernel
theorem dX0_stateAt_19 : decode cX0_stateAt 19 = .ok (.goto 4, 3) := by decide +kernel
theorem dX0_stateAt_22 : decode cX0_stateAt 22 = .ok (.aconst_null, 1) := by decide +kernel
theorem dX0_stateAt_23 : decode cX0_stateAt 23 = .ok (.areturn, 1) := by decide +kernel
set_option maxRecDepth 20000 in
theorem ggX0_putAside_X0_stateAt : GoodIn wsX0_putAside wsX0_stateAt := goodIn_r _ [6, 7, 38, 39] (by decide +kernel) (by decide +kernel)
set_option maxRecDepth 20000 in
theorem gX0_putAside_X0_stateAt : GoodIn wsX0_putAside (wsV RX0 22 RX0 yX0_stateAt wsX0_stateAt) := goodIn_app (goodIn_of _ (by decide +kernel)) ggX0_putAside_X0_stateAt
set_option maxRecDepth 20000 in
theorem ggX0_putAside_X1_copyFrom : GoodIn wsX0_putAside wsX1_copyFrom := goodIn_r _ [11, 12, 13, 14, 15, 16, 17, 18, 19, 20, 21, 22, 23, 24, 25, 26, 27, 28, 29, 30, 31, 32, 33, 34, 35, 36, 37, 40, 41, 42, 43, 44, 45, 46, 47, 48, 49, 50, 51, 52] (by decide +kernel) (by decide +kernel)
set_option maxRecDepth 20000 in
theorem gX0_putAside_X1_copyFrom_n26 : GoodIn wsX0_putAside (wsX1_copyFrom) := ggX0_putAside_X1_copyFrom
theorem dX0_putAside_0 : decode cX0_putAside 0 = .ok (.aload_n 0, 1) := by decide +kernel
theorem dX0_putAside_1 : decode cX0_putAside 1 = .ok (.aload_n 0, 1) := by decide +kernel
theorem dX0_putAside_2 : decode cX0_putAside 2 = .ok (.getfield 17, 3) := by decide +kernel
theorem dX0_putAside_5 : decode cX0_putAside 5 = .ok (.invokevirtual 22, 3) := by decide +kernel
theorem dX0_putAside_8 : decode cX0_putAside 8 = .ok (.astore_n 2, 1) := by decide +kernel
theorem dX0_putAside_9 : decode cX0_putAside 9 = .ok (.aload_n 2, 1) := by decide +kernel
theorem dX0_putAside_10 : decode cX0_putAside 10 = .ok (.ifnull 8, 3) := by decide +kernel
theorem dX0_putAside_13 : decode cX0_putAside 13 = .ok (.aload_n 2, 1) := by decide +kernel
theorem dX0_putAside_14 : decode cX0_putAside 14 = .ok (.aload_n 1, 1) := by decide +kernel
theorem dX0_putAside_15 : decode cX0_putAside 15 = .ok (.invokevirtual 26, 3) := by decide +kernel
theorem dX0_putAside_18 : decode cX0_putAside 18 = .ok (.return_, 1) := by decide +kernel
set_option maxRecDepth 20000 in
theorem ggX0_takeBack_X0_stateAt : GoodIn wsX0_takeBack wsX0_stateAt := goodIn_r _ [6, 7, 38, 39] (by decide +kernel) (by decide +kernel)
set_option maxRecDepth 20000 in
theorem gX0_takeBack_X0_stateAt : GoodIn wsX0_takeBack (wsV RX0 22 RX0 yX0_stateAt wsX0_stateAt) := goodIn_app (goodIn_of _ (by decide +kernel)) ggX0_takeBack_X0_stateAt
set_option maxRecDepth 20000 in
theorem ggX0_takeBack_X1_copyFrom : GoodIn wsX0_takeBack wsX1_copyFrom := goodIn_r _ [11, 12, 13, 14, 15, 16, 17, 18, 19, 20, 21, 22, 23, 24, 25, 26, 27, 28, 29, 30, 31, 32, 33, 34, 35, 36, 37, 40, 41, 42, 43, 44, 45, 46, 47, 48, 49, 50, 51, 52] (by decide +kernel) (by decide +kernel)
set_option maxRecDepth 20000 in
theorem gX0_takeBack_X1_copyFrom_n26 : GoodIn wsX0_takeBack (wsX1_copyFrom) := ggX0_takeBack_X1_copyFrom
theorem dX0_takeBack_0 : decode cX0_takeBack 0 = .ok (.aload_n 1, 1) := by decide +kernel
theorem dX0_takeBack_1 : decode cX0_takeBack 1 = .ok (.aload_n 0, 1) := by decide +kernel
theorem dX0_takeBack_2 : decode cX0_takeBack 2 = .ok (.aload_n 0, 1) := by decide +kernel
theorem dX0_takeBack_3 : decode cX0_takeBack 3 = .ok (.getfield 17, 3) := by decide +kernel
theorem dX0_takeBack_6 : decode cX0_takeBack 6 = .ok (.invokevirtual 22, 3) := by decide +kernel
theorem dX0_takeBack_9 : decode cX0_takeBack 9 = .ok (.invokevirtual 26, 3) := by decide +kernel
theorem dX0_takeBack_12 : decode cX0_takeBack 12 = .ok (.return_, 1) := by decide +kernel
set_option maxRecDepth 20000 in
theorem ggX0_keep_X0_dropOldest : GoodIn wsX0_keep wsX0_dropOldest := goodIn_r _ [6, 7, 8, 9, 10, 5, 11, 12, 13] (by decide +kernel) (by decide +kernel)
set_option maxRecDepth 20000 in
theorem gX0_keep_X0_dropOldest : GoodIn wsX0_keep (wsV RX0 30 RX0 yX0_dropOldest wsX0_dropOldest) := goodIn_app (goodIn_of _ (by decide +kernel)) ggX0_keep_X0_dropOldest
theorem dX0_keep_0 : decode cX0_keep 0 = .ok (.aload_n 0, 1) := by decide +kernel
theorem dX0_keep_1 : decode cX0_keep 1 = .ok (.getfield 17, 3) := by decide +kernel
theorem dX0_keep_4 : decode cX0_keep 4 = .ok (.iconst 4, 1) := by decide +kernel
theorem dX0_keep_5 : decode cX0_keep 5 = .ok (.if_icmp .ge 16, 3) := by decide +kernel
theorem dX0_keep_8 : decode cX0_keep 8 = .ok (.aload_n 0, 1) := by decide +kernel
theorem dX0_keep_9 : decode cX0_keep 9 = .ok (.dup, 1) := by decide +kernel
theorem dX0_keep_10 : decode cX0_keep 10 = .ok (.getfield 17, 3) := by decide +kernel
theorem dX0_keep_13 : decode cX0_keep 13 = .ok (.iconst 1, 1) := by decide +kernel
theorem dX0_keep_14 : decode cX0_keep 14 = .ok (.iadd, 1) := by decide +kernel
theorem dX0_keep_15 : decode cX0_keep 15 = .ok (.putfield 17, 3) := by decide +kernel
theorem dX0_keep_18 : decode cX0_keep 18 = .ok (.goto 7, 3) := by decide +kernel
theorem dX0_keep_21 : decode cX0_keep 21 = .ok (.aload_n 0, 1) := by decide +kernel
theorem dX0_keep_22 : decode cX0_keep 22 = .ok (.invokevirtual 30, 3) := by decide +kernel
theorem dX0_keep_25 : decode cX0_keep 25 = .ok (.return_, 1) := by decide +kernel
set_option maxRecDepth 20000 in
theorem ggX0_dropOldest_X0_stateAt : GoodIn wsX0_dropOldest wsX0_stateAt := goodIn_r _ [6, 1, 7, 8] (by decide +kernel) (by decide +kernel)
set_option maxRecDepth 20000 in
theorem gX0_dropOldest_X0_stateAt : GoodIn wsX0_dropOldest (wsV RX0 22 RX0 yX0_stateAt wsX0_stateAt) := goodIn_app (goodIn_of _ (by decide +kernel)) ggX0_dropOldest_X0_stateAt
theorem dX0_dropOldest_0 : decode cX0_dropOldest 0 = .ok (.aload_n 0, 1) := by decide +kernel
theorem dX0_dropOldest_1 : decode cX0_dropOldest 1 = .ok (.iconst 0, 1) := by decide +kernel
theorem dX0_dropOldest_2 : decode cX0_dropOldest 2 = .ok (.invokevirtual 22, 3) := by decide +kernel
theorem dX0_dropOldest_5 : decode cX0_dropOldest 5 = .ok (.astore_n 1, 1) := by decide +kernel
theorem dX0_dropOldest_6 : decode cX0_dropOldest 6 = .ok (.aload_n 0, 1) := by decide +kernel
theorem dX0_dropOldest_7 : decode cX0_dropOldest 7 = .ok (.getfield 11, 3) := by decide +kernel
theorem dX0_dropOldest_10 : decode cX0_dropOldest 10 = .ok (.arraylength, 1) := by decide +kernel
theorem dX0_dropOldest_11 : decode cX0_dropOldest 11 = .ok (.iconst 1, 1) := by decide +kernel
theorem dX0_dropOldest_12 : decode cX0_dropOldest 12 = .ok (.isub, 1) := by decide +kernel
theorem dX0_dropOldest_13 : decode cX0_dropOldest 13 = .ok (.istore_n 2, 1) := by decide +kernel
theorem dX0_dropOldest_14 : decode cX0_dropOldest 14 = .ok (.iconst 0, 1) := by decide +kernel
theorem dX0_dropOldest_15 : decode cX0_dropOldest 15 = .ok (.istore_n 3, 1) := by decide +kernel
theorem dX0_dropOldest_16 : decode cX0_dropOldest 16 = .ok (.iload_n 3, 1) := by decide +kernel
theorem dX0_dropOldest_17 : decode cX0_dropOldest 17 = .ok (.iload_n 2, 1) := by decide +kernel
theorem dX0_dropOldest_18 : decode cX0_dropOldest 18 = .ok (.if_icmp .ge 22, 3) := by decide +kernel
theorem dX0_dropOldest_21 : decode cX0_dropOldest 21 = .ok (.aload_n 0, 1) := by decide +kernel
theorem dX0_dropOldest_22 : decode cX0_dropOldest 22 = .ok (.getfield 11, 3) := by decide +kernel
theorem dX0_dropOldest_25 : decode cX0_dropOldest 25 = .ok (.iload_n 3, 1) := by decide +kernel
theorem dX0_dropOldest_26 : decode cX0_dropOldest 26 = .ok (.aload_n 0, 1) := by decide +kernel
theorem dX0_dropOldest_27 : decode cX0_dropOldest 27 = .ok (.iload_n 3, 1) := by decide +kernel
theorem dX0_dropOldest_28 : decode cX0_dropOldest 28 = .ok (.iconst 1, 1) := by decide +kernel
theorem dX0_dropOldest_29 : decode cX0_dropOldest 29 = .ok (.iadd, 1) := by decide +kernel
theorem dX0_dropOldest_30 : decode cX0_dropOldest 30 = .ok (.invokevirtual 22, 3) := by decide +kernel
theorem dX0_dropOldest_33 : decode cX0_dropOldest 33 = .ok (.aastore, 1) := by decide +kernel
theorem dX0_dropOldest_34 : decode cX0_dropOldest 34 = .ok (.iinc 3 1, 3) := by decide +kernel
theorem dX0_dropOldest_37 : decode cX0_dropOldest 37 = .ok (.goto (-21), 3) := by decide +kernel
theorem dX0_dropOldest_40 : decode cX0_dropOldest 40 = .ok (.iload_n 2, 1) := by decide +kernel
theorem dX0_dropOldest_41 : decode cX0_dropOldest 41 = .ok (.ifCond .lt 10, 3) := by decide +kernel
theorem dX0_dropOldest_44 : decode cX0_dropOldest 44 = .ok (.aload_n 0, 1) := by decide +kernel
theorem dX0_dropOldest_45 : decode cX0_dropOldest 45 = .ok (.getfield 11, 3) := by decide +kernel
theorem dX0_dropOldest_48 : decode cX0_dropOldest 48 = .ok (.iload_n 2, 1) := by decide +kernel
theorem dX0_dropOldest_49 : decode cX0_dropOldest 49 = .ok (.aload_n 1, 1) := by decide +kernel
theorem dX0_dropOldest_50 : decode cX0_dropOldest 50 = .ok (.aastore, 1) := by decide +kernel
theorem dX0_dropOldest_51 : decode cX0_dropOldest 51 = .ok (.return_, 1) := by decide +kernel
set_option maxRecDepth 20000 in
theorem ggX0_restoreLatest_X0_stateAt : GoodIn wsX0_restoreLatest wsX0_stateAt := goodIn_r _ [6, 7, 38, 39] (by decide +kernel) (by decide +kernel)
set_option maxRecDepth 20000 in
theorem gX0_restoreLatest_X0_stateAt : GoodIn wsX0_restoreLatest (wsV RX0 22 RX0 yX0_stateAt wsX0_stateAt) := goodIn_app (goodIn_of _ (by decide +kernel)) ggX0_restoreLatest_X0_stateAt
set_option maxRecDepth 20000 in
theorem ggX0_restoreLatest_X1_copyFrom : GoodIn wsX0_restoreLatest wsX1_copyFrom := goodIn_r _ [11, 12, 13, 14, 15, 16, 17, 18, 19, 20, 21, 22, 23, 24, 25, 26, 27, 28, 29, 30, 31, 32, 33, 34, 35, 36, 37, 40, 41, 42, 43, 44, 45, 46, 47, 48, 49, 50, 51, 52] (by decide +kernel) (by decide +kernel)
set_option maxRecDepth 20000 in
theorem gX0_restoreLatest_X1_copyFrom_n26 : GoodIn wsX0_restoreLatest (wsX1_copyFrom) := ggX0_restoreLatest_X1_copyFrom
theorem dX0_restoreLatest_0 : decode cX0_restoreLatest 0 = .ok (.aload_n 0, 1) := by decide +kernel
theorem dX0_restoreLatest_1 : decode cX0_restoreLatest 1 = .ok (.getfield 17, 3) := by decide +kernel
theorem dX0_restoreLatest_4 : decode cX0_restoreLatest 4 = .ok (.ifCond .gt 5, 3) := by decide +kernel
theorem dX0_restoreLatest_7 : decode cX0_restoreLatest 7 = .ok (.iconst 0, 1) := by decide +kernel
theorem dX0_restoreLatest_8 : decode cX0_restoreLatest 8 = .ok (.ireturn, 1) := by decide +kernel
theorem dX0_restoreLatest_9 : decode cX0_restoreLatest 9 = .ok (.aload_n 0, 1) := by decide +kernel
theorem dX0_restoreLatest_10 : decode cX0_restoreLatest 10 = .ok (.dup, 1) := by decide +kernel
theorem dX0_restoreLatest_11 : decode cX0_restoreLatest 11 = .ok (.getfield 17, 3) := by decide +kernel
theorem dX0_restoreLatest_14 : decode cX0_restoreLatest 14 = .ok (.iconst 1, 1) := by decide +kernel
theorem dX0_restoreLatest_15 : decode cX0_restoreLatest 15 = .ok (.isub, 1) := by decide +kernel
theorem dX0_restoreLatest_16 : decode cX0_restoreLatest 16 = .ok (.putfield 17, 3) := by decide +kernel
theorem dX0_restoreLatest_19 : decode cX0_restoreLatest 19 = .ok (.aload_n 1, 1) := by decide +kernel
theorem dX0_restoreLatest_20 : decode cX0_restoreLatest 20 = .ok (.aload_n 0, 1) := by decide +kernel
theorem dX0_restoreLatest_21 : decode cX0_restoreLatest 21 = .ok (.aload_n 0, 1) := by decide +kernel
theorem dX0_restoreLatest_22 : decode cX0_restoreLatest 22 = .ok (.getfield 17, 3) := by decide +kernel
theorem dX0_restoreLatest_25 : decode cX0_restoreLatest 25 = .ok (.invokevirtual 22, 3) := by decide +kernel
theorem dX0_restoreLatest_28 : decode cX0_restoreLatest 28 = .ok (.invokevirtual 26, 3) := by decide +kernel
theorem dX0_restoreLatest_31 : decode cX0_restoreLatest 31 = .ok (.iconst 1, 1) := by decide +kernel
theorem dX0_restoreLatest_32 : decode cX0_restoreLatest 32 = .ok (.ireturn, 1) := by decide +kernel
set_option maxRecDepth 20000 in
theorem ggX1_init_X3_put : GoodIn wsX1_init wsX3_put := goodIn_r _ [21] (by decide +kernel) (by decide +kernel)
set_option maxRecDepth 20000 in
theorem gX1_init_X3_put_n53 : GoodIn wsX1_init (wsX3_put) := ggX1_init_X3_put
theorem dX1_init_0 : decode cX1_init 0 = .ok (.aload_n 0, 1) := by decide +kernel
theorem dX1_init_1 : decode cX1_init 1 = .ok (.invokespecial 3, 3) := by decide +kernel
theorem dX1_init_4 : decode cX1_init 4 = .ok (.aload_n 0, 1) := by decide +kernel
theorem dX1_init_5 : decode cX1_init 5 = .ok (.bipush 6, 2) := by decide +kernel
theorem dX1_init_7 : decode cX1_init 7 = .ok (.newarray .int, 2) := by decide +kernel
theorem dX1_init_9 : decode cX1_init 9 = .ok (.putfield 9, 3) := by decide +kernel
theorem dX1_init_12 : decode cX1_init 12 = .ok (.aload_n 0, 1) := by decide +kernel
theorem dX1_init_13 : decode cX1_init 13 = .ok (.bipush 40, 2) := by decide +kernel
theorem dX1_init_15 : decode cX1_init 15 = .ok (.newarray .int, 2) := by decide +kernel
theorem dX1_init_17 : decode cX1_init 17 = .ok (.putfield 15, 3) := by decide +kernel
theorem dX1_init_20 : decode cX1_init 20 = .ok (.aload_n 0, 1) := by decide +kernel
theorem dX1_init_21 : decode cX1_init 21 = .ok (.bipush 40, 2) := by decide +kernel
theorem dX1_init_23 : decode cX1_init 23 = .ok (.newarray .int, 2) := by decide +kernel
theorem dX1_init_25 : decode cX1_init 25 = .ok (.putfield 18, 3) := by decide +kernel
theorem dX1_init_28 : decode cX1_init 28 = .ok (.aload_n 0, 1) := by decide +kernel
theorem dX1_init_29 : decode cX1_init 29 = .ok (.bipush 40, 2) := by decide +kernel
theorem dX1_init_31 : decode cX1_init 31 = .ok (.newarray .int, 2) := by decide +kernel
theorem dX1_init_33 : decode cX1_init 33 = .ok (.putfield 21, 3) := by decide +kernel
theorem dX1_init_36 : decode cX1_init 36 = .ok (.aload_n 0, 1) := by decide +kernel
theorem dX1_init_37 : decode cX1_init 37 = .ok (.bipush 40, 2) := by decide +kernel
theorem dX1_init_39 : decode cX1_init 39 = .ok (.newarray .int, 2) := by decide +kernel
theorem dX1_init_41 : decode cX1_init 41 = .ok (.putfield 24, 3) := by decide +kernel
theorem dX1_init_44 : decode cX1_init 44 = .ok (.aload_n 0, 1) := by decide +kernel
theorem dX1_init_45 : decode cX1_init 45 = .ok (.bipush 40, 2) := by decide +kernel
theorem dX1_init_47 : decode cX1_init 47 = .ok (.newarray .int, 2) := by decide +kernel
theorem dX1_init_49 : decode cX1_init 49 = .ok (.putfield 27, 3) := by decide +kernel
theorem dX1_init_52 : decode cX1_init 52 = .ok (.aload_n 0, 1) := by decide +kernel
theorem dX1_init_53 : decode cX1_init 53 = .ok (.bipush 40, 2) := by decide +kernel
theorem dX1_init_55 : decode cX1_init 55 = .ok (.newarray .int, 2) := by decide +kernel
theorem dX1_init_57 : decode cX1_init 57 = .ok (.putfield 30, 3) := by decide +kernel
theorem dX1_init_60 : decode cX1_init 60 = .ok (.aload_n 0, 1) := by decide +kernel
theorem dX1_init_61 : decode cX1_init 61 = .ok (.bipush 40, 2) := by decide +kernel
theorem dX1_init_63 : decode cX1_init 63 = .ok (.newarray .long, 2) := by decide +kernel
theorem dX1_init_65 : decode cX1_init 65 = .ok (.putfield 33, 3) := by decide +kernel
theorem dX1_init_68 : decode cX1_init 68 = .ok (.aload_n 0, 1) := by decide +kernel
theorem dX1_init_69 : decode cX1_init 69 = .ok (.iconst 0, 1) := by decide +kernel
theorem dX1_init_70 : decode cX1_init 70 = .ok (.putfield 37, 3) := by decide +kernel
theorem dX1_init_73 : decode cX1_init 73 = .ok (.aload_n 0, 1) := by decide +kernel
theorem dX1_init_74 : decode cX1_init 74 = .ok (.iconst 0, 1) := by decide +kernel
theorem dX1_init_75 : decode cX1_init 75 = .ok (.putfield 41, 3) := by decide +kernel
theorem dX1_init_78 : decode cX1_init 78 = .ok (.aload_n 0, 1) := by decide +kernel
theorem dX1_init_79 : decode cX1_init 79 = .ok (.iconst 4, 1) := by decide +kernel
theorem dX1_init_80 : decode cX1_init 80 = .ok (.putfield 44, 3) := by decide +kernel
theorem dX1_init_83 : decode cX1_init 83 = .ok (.aload_n 0, 1) := by decide +kernel
theorem dX1_init_84 : decode cX1_init 84 = .ok (.iconst 0, 1) := by decide +kernel
theorem dX1_init_85 : decode cX1_init 85 = .ok (.putfield 47, 3) := by decide +kernel
theorem dX1_init_88 : decode cX1_init 88 = .ok (.aload_n 0, 1) := by decide +kernel
theorem dX1_init_89 : decode cX1_init 89 = .ok (.iconst 0, 1) := by decide +kernel
theorem dX1_init_90 : decode cX1_init 90 = .ok (.putfield 50, 3) := by decide +kernel
theorem dX1_init_93 : decode cX1_init 93 = .ok (.iconst 0, 1) := by decide +kernel
theorem dX1_init_94 : decode cX1_init 94 = .ok (.istore_n 1, 1) := by decide +kernel
theorem dX1_init_95 : decode cX1_init 95 = .ok (.iload_n 1, 1) := by decide +kernel
theorem dX1_init_96 : decode cX1_init 96 = .ok (.bipush 6, 2) := by decide +kernel
theorem dX1_init_98 : decode cX1_init 98 = .ok (.if_icmp .ge 18, 3) := by decide +kernel
theorem dX1_init_101 : decode cX1_init 101 = .ok (.aload_n 0, 1) := by decide +kernel
theorem dX1_init_102 : decode cX1_init 102 = .ok (.getfield 9, 3) := by decide +kernel
theorem dX1_init_105 : decode cX1_init 105 = .ok (.iload_n 1, 1) := by decide +kernel
theorem dX1_init_106 : decode cX1_init 106 = .ok (.iload_n 1, 1) := by decide +kernel
end
section
theorem dX1_init_107 : decode cX1_init 107 = .ok (.invokestatic 53, 3) := by decide +kernel
theorem dX1_init_110 : decode cX1_init 110 = .ok (.iinc 1 1, 3) := by decide +kernel
theorem dX1_init_113 : decode cX1_init 113 = .ok (.goto (-18), 3) := by decide +kernel
theorem dX1_init_116 : decode cX1_init 116 = .ok (.return_, 1) := by decide +kernel
set_option maxRecDepth 20000 in
theorem ggX1_copyFrom_X3_copyRow : GoodIn wsX1_copyFrom wsX3_copyRow := goodIn_r _ [16, 17, 18, 19, 20, 21, 22, 23, 24] (by decide +kernel) (by decide +kernel)
set_option maxRecDepth 20000 in
theorem gX1_copyFrom_X3_copyRow_n57 : GoodIn wsX1_copyFrom (wsX3_copyRow) := ggX1_copyFrom_X3_copyRow
set_option maxRecDepth 20000 in
theorem ggX1_copyFrom_X3_copyLongRow : GoodIn wsX1_copyFrom wsX3_copyLongRow := goodIn_r _ [26, 17, 18, 19, 20, 21, 22, 23, 24] (by decide +kernel) (by decide +kernel)
set_option maxRecDepth 20000 in
theorem gX1_copyFrom_X3_copyLongRow_n61 : GoodIn wsX1_copyFrom (wsX3_copyLongRow) := ggX1_copyFrom_X3_copyLongRow
theorem dX1_copyFrom_0 : decode cX1_copyFrom 0 = .ok (.aload_n 1, 1) := by decide +kernel
theorem dX1_copyFrom_1 : decode cX1_copyFrom 1 = .ok (.ifnonnull 4, 3) := by decide +kernel
theorem dX1_copyFrom_4 : decode cX1_copyFrom 4 = .ok (.return_, 1) := by decide +kernel
theorem dX1_copyFrom_5 : decode cX1_copyFrom 5 = .ok (.aload_n 1, 1) := by decide +kernel
theorem dX1_copyFrom_6 : decode cX1_copyFrom 6 = .ok (.getfield 9, 3) := by decide +kernel
theorem dX1_copyFrom_9 : decode cX1_copyFrom 9 = .ok (.aload_n 0, 1) := by decide +kernel
theorem dX1_copyFrom_10 : decode cX1_copyFrom 10 = .ok (.getfield 9, 3) := by decide +kernel
theorem dX1_copyFrom_13 : decode cX1_copyFrom 13 = .ok (.invokestatic 57, 3) := by decide +kernel
theorem dX1_copyFrom_16 : decode cX1_copyFrom 16 = .ok (.aload_n 1, 1) := by decide +kernel
theorem dX1_copyFrom_17 : decode cX1_copyFrom 17 = .ok (.getfield 15, 3) := by decide +kernel
theorem dX1_copyFrom_20 : decode cX1_copyFrom 20 = .ok (.aload_n 0, 1) := by decide +kernel
theorem dX1_copyFrom_21 : decode cX1_copyFrom 21 = .ok (.getfield 15, 3) := by decide +kernel
theorem dX1_copyFrom_24 : decode cX1_copyFrom 24 = .ok (.invokestatic 57, 3) := by decide +kernel
theorem dX1_copyFrom_27 : decode cX1_copyFrom 27 = .ok (.aload_n 1, 1) := by decide +kernel
theorem dX1_copyFrom_28 : decode cX1_copyFrom 28 = .ok (.getfield 18, 3) := by decide +kernel
theorem dX1_copyFrom_31 : decode cX1_copyFrom 31 = .ok (.aload_n 0, 1) := by decide +kernel
theorem dX1_copyFrom_32 : decode cX1_copyFrom 32 = .ok (.getfield 18, 3) := by decide +kernel
theorem dX1_copyFrom_35 : decode cX1_copyFrom 35 = .ok (.invokestatic 57, 3) := by decide +kernel
theorem dX1_copyFrom_38 : decode cX1_copyFrom 38 = .ok (.aload_n 1, 1) := by decide +kernel
theorem dX1_copyFrom_39 : decode cX1_copyFrom 39 = .ok (.getfield 21, 3) := by decide +kernel
theorem dX1_copyFrom_42 : decode cX1_copyFrom 42 = .ok (.aload_n 0, 1) := by decide +kernel
theorem dX1_copyFrom_43 : decode cX1_copyFrom 43 = .ok (.getfield 21, 3) := by decide +kernel
theorem dX1_copyFrom_46 : decode cX1_copyFrom 46 = .ok (.invokestatic 57, 3) := by decide +kernel
theorem dX1_copyFrom_49 : decode cX1_copyFrom 49 = .ok (.aload_n 1, 1) := by decide +kernel
theorem dX1_copyFrom_50 : decode cX1_copyFrom 50 = .ok (.getfield 24, 3) := by decide +kernel
theorem dX1_copyFrom_53 : decode cX1_copyFrom 53 = .ok (.aload_n 0, 1) := by decide +kernel
theorem dX1_copyFrom_54 : decode cX1_copyFrom 54 = .ok (.getfield 24, 3) := by decide +kernel
theorem dX1_copyFrom_57 : decode cX1_copyFrom 57 = .ok (.invokestatic 57, 3) := by decide +kernel
theorem dX1_copyFrom_60 : decode cX1_copyFrom 60 = .ok (.aload_n 1, 1) := by decide +kernel
theorem dX1_copyFrom_61 : decode cX1_copyFrom 61 = .ok (.getfield 27, 3) := by decide +kernel
theorem dX1_copyFrom_64 : decode cX1_copyFrom 64 = .ok (.aload_n 0, 1) := by decide +kernel
theorem dX1_copyFrom_65 : decode cX1_copyFrom 65 = .ok (.getfield 27, 3) := by decide +kernel
theorem dX1_copyFrom_68 : decode cX1_copyFrom 68 = .ok (.invokestatic 57, 3) := by decide +kernel
theorem dX1_copyFrom_71 : decode cX1_copyFrom 71 = .ok (.aload_n 1, 1) := by decide +kernel
theorem dX1_copyFrom_72 : decode cX1_copyFrom 72 = .ok (.getfield 30, 3) := by decide +kernel
theorem dX1_copyFrom_75 : decode cX1_copyFrom 75 = .ok (.aload_n 0, 1) := by decide +kernel
theorem dX1_copyFrom_76 : decode cX1_copyFrom 76 = .ok (.getfield 30, 3) := by decide +kernel
theorem dX1_copyFrom_79 : decode cX1_copyFrom 79 = .ok (.invokestatic 57, 3) := by decide +kernel
theorem dX1_copyFrom_82 : decode cX1_copyFrom 82 = .ok (.aload_n 1, 1) := by decide +kernel
theorem dX1_copyFrom_83 : decode cX1_copyFrom 83 = .ok (.getfield 33, 3) := by decide +kernel
theorem dX1_copyFrom_86 : decode cX1_copyFrom 86 = .ok (.aload_n 0, 1) := by decide +kernel
theorem dX1_copyFrom_87 : decode cX1_copyFrom 87 = .ok (.getfield 33, 3) := by decide +kernel
theorem dX1_copyFrom_90 : decode cX1_copyFrom 90 = .ok (.invokestatic 61, 3) := by decide +kernel
theorem dX1_copyFrom_93 : decode cX1_copyFrom 93 = .ok (.aload_n 0, 1) := by decide +kernel
theorem dX1_copyFrom_94 : decode cX1_copyFrom 94 = .ok (.aload_n 1, 1) := by decide +kernel
theorem dX1_copyFrom_95 : decode cX1_copyFrom 95 = .ok (.getfield 37, 3) := by decide +kernel
theorem dX1_copyFrom_98 : decode cX1_copyFrom 98 = .ok (.putfield 37, 3) := by decide +kernel
theorem dX1_copyFrom_101 : decode cX1_copyFrom 101 = .ok (.aload_n 0, 1) := by decide +kernel
theorem dX1_copyFrom_102 : decode cX1_copyFrom 102 = .ok (.aload_n 1, 1) := by decide +kernel
theorem dX1_copyFrom_103 : decode cX1_copyFrom 103 = .ok (.getfield 41, 3) := by decide +kernel
theorem dX1_copyFrom_106 : decode cX1_copyFrom 106 = .ok (.putfield 41, 3) := by decide +kernel
theorem dX1_copyFrom_109 : decode cX1_copyFrom 109 = .ok (.aload_n 0, 1) := by decide +kernel
theorem dX1_copyFrom_110 : decode cX1_copyFrom 110 = .ok (.aload_n 1, 1) := by decide +kernel
theorem dX1_copyFrom_111 : decode cX1_copyFrom 111 = .ok (.getfield 44, 3) := by decide +kernel
theorem dX1_copyFrom_114 : decode cX1_copyFrom 114 = .ok (.putfield 44, 3) := by decide +kernel
theorem dX1_copyFrom_117 : decode cX1_copyFrom 117 = .ok (.aload_n 0, 1) := by decide +kernel
theorem dX1_copyFrom_118 : decode cX1_copyFrom 118 = .ok (.aload_n 1, 1) := by decide +kernel
theorem dX1_copyFrom_119 : decode cX1_copyFrom 119 = .ok (.getfield 47, 3) := by decide +kernel
theorem dX1_copyFrom_122 : decode cX1_copyFrom 122 = .ok (.putfield 47, 3) := by decide +kernel
theorem dX1_copyFrom_125 : decode cX1_copyFrom 125 = .ok (.aload_n 0, 1) := by decide +kernel
theorem dX1_copyFrom_126 : decode cX1_copyFrom 126 = .ok (.aload_n 1, 1) := by decide +kernel
theorem dX1_copyFrom_127 : decode cX1_copyFrom 127 = .ok (.getfield 50, 3) := by decide +kernel
theorem dX1_copyFrom_130 : decode cX1_copyFrom 130 = .ok (.putfield 50, 3) := by decide +kernel
theorem dX1_copyFrom_133 : decode cX1_copyFrom 133 = .ok (.return_, 1) := by decide +kernel
theorem dX1_has_0 : decode cX1_has 0 = .ok (.iload_n 1, 1) := by decide +kernel
theorem dX1_has_1 : decode cX1_has 1 = .ok (.ifCond .lt 15, 3) := by decide +kernel
theorem dX1_has_4 : decode cX1_has 4 = .ok (.iload_n 1, 1) := by decide +kernel
theorem dX1_has_5 : decode cX1_has 5 = .ok (.aload_n 0, 1) := by decide +kernel
theorem dX1_has_6 : decode cX1_has 6 = .ok (.getfield 37, 3) := by decide +kernel
theorem dX1_has_9 : decode cX1_has 9 = .ok (.if_icmp .ge 7, 3) := by decide +kernel
theorem dX1_has_12 : decode cX1_has 12 = .ok (.iconst 1, 1) := by decide +kernel
theorem dX1_has_13 : decode cX1_has 13 = .ok (.goto 4, 3) := by decide +kernel
theorem dX1_has_16 : decode cX1_has 16 = .ok (.iconst 0, 1) := by decide +kernel
theorem dX1_has_17 : decode cX1_has 17 = .ok (.ireturn, 1) := by decide +kernel
set_option maxRecDepth 20000 in
theorem ggX1_isDropped_X3_at : GoodIn wsX1_isDropped wsX3_at := goodIn_r _ [4] (by decide +kernel) (by decide +kernel)
set_option maxRecDepth 20000 in
theorem gX1_isDropped_X3_at_n65 : GoodIn wsX1_isDropped (wsX3_at) := ggX1_isDropped_X3_at
theorem dX1_isDropped_0 : decode cX1_isDropped 0 = .ok (.aload_n 0, 1) := by decide +kernel
theorem dX1_isDropped_1 : decode cX1_isDropped 1 = .ok (.getfield 18, 3) := by decide +kernel
theorem dX1_isDropped_4 : decode cX1_isDropped 4 = .ok (.iload_n 1, 1) := by decide +kernel
theorem dX1_isDropped_5 : decode cX1_isDropped 5 = .ok (.invokestatic 65, 3) := by decide +kernel
theorem dX1_isDropped_8 : decode cX1_isDropped 8 = .ok (.iconst 2, 1) := by decide +kernel
theorem dX1_isDropped_9 : decode cX1_isDropped 9 = .ok (.if_icmp .ne 7, 3) := by decide +kernel
theorem dX1_isDropped_12 : decode cX1_isDropped 12 = .ok (.iconst 1, 1) := by decide +kernel
theorem dX1_isDropped_13 : decode cX1_isDropped 13 = .ok (.goto 4, 3) := by decide +kernel
theorem dX1_isDropped_16 : decode cX1_isDropped 16 = .ok (.iconst 0, 1) := by decide +kernel
theorem dX1_isDropped_17 : decode cX1_isDropped 17 = .ok (.ireturn, 1) := by decide +kernel
set_option maxRecDepth 20000 in
theorem ggX1_wasTold_X3_at : GoodIn wsX1_wasTold wsX3_at := goodIn_r _ [4] (by decide +kernel) (by decide +kernel)
set_option maxRecDepth 20000 in
theorem gX1_wasTold_X3_at_n65 : GoodIn wsX1_wasTold (wsX3_at) := ggX1_wasTold_X3_at
theorem dX1_wasTold_0 : decode cX1_wasTold 0 = .ok (.aload_n 0, 1) := by decide +kernel
theorem dX1_wasTold_1 : decode cX1_wasTold 1 = .ok (.getfield 21, 3) := by decide +kernel
theorem dX1_wasTold_4 : decode cX1_wasTold 4 = .ok (.iload_n 1, 1) := by decide +kernel
theorem dX1_wasTold_5 : decode cX1_wasTold 5 = .ok (.invokestatic 65, 3) := by decide +kernel
theorem dX1_wasTold_8 : decode cX1_wasTold 8 = .ok (.iconst (-1), 1) := by decide +kernel
theorem dX1_wasTold_9 : decode cX1_wasTold 9 = .ok (.if_icmp .ne 7, 3) := by decide +kernel
theorem dX1_wasTold_12 : decode cX1_wasTold 12 = .ok (.iconst 1, 1) := by decide +kernel
theorem dX1_wasTold_13 : decode cX1_wasTold 13 = .ok (.goto 4, 3) := by decide +kernel
theorem dX1_wasTold_16 : decode cX1_wasTold 16 = .ok (.iconst 0, 1) := by decide +kernel
theorem dX1_wasTold_17 : decode cX1_wasTold 17 = .ok (.ireturn, 1) := by decide +kernel
set_option maxRecDepth 20000 in
theorem ggX1_rankOf_X3_at : GoodIn wsX1_rankOf wsX3_at := goodIn_r _ [4] (by decide +kernel) (by decide +kernel)
set_option maxRecDepth 20000 in
theorem gX1_rankOf_X3_at_n65 : GoodIn wsX1_rankOf (wsX3_at) := ggX1_rankOf_X3_at
theorem dX1_rankOf_0 : decode cX1_rankOf 0 = .ok (.iconst 0, 1) := by decide +kernel
theorem dX1_rankOf_1 : decode cX1_rankOf 1 = .ok (.istore_n 2, 1) := by decide +kernel
theorem dX1_rankOf_2 : decode cX1_rankOf 2 = .ok (.iload_n 2, 1) := by decide +kernel
theorem dX1_rankOf_3 : decode cX1_rankOf 3 = .ok (.bipush 6, 2) := by decide +kernel
theorem dX1_rankOf_5 : decode cX1_rankOf 5 = .ok (.if_icmp .ge 23, 3) := by decide +kernel
theorem dX1_rankOf_8 : decode cX1_rankOf 8 = .ok (.aload_n 0, 1) := by decide +kernel
theorem dX1_rankOf_9 : decode cX1_rankOf 9 = .ok (.getfield 9, 3) := by decide +kernel
theorem dX1_rankOf_12 : decode cX1_rankOf 12 = .ok (.iload_n 2, 1) := by decide +kernel
theorem dX1_rankOf_13 : decode cX1_rankOf 13 = .ok (.invokestatic 65, 3) := by decide +kernel
theorem dX1_rankOf_16 : decode cX1_rankOf 16 = .ok (.iload_n 1, 1) := by decide +kernel
theorem dX1_rankOf_17 : decode cX1_rankOf 17 = .ok (.if_icmp .ne 5, 3) := by decide +kernel
theorem dX1_rankOf_20 : decode cX1_rankOf 20 = .ok (.iload_n 2, 1) := by decide +kernel
theorem dX1_rankOf_21 : decode cX1_rankOf 21 = .ok (.ireturn, 1) := by decide +kernel
theorem dX1_rankOf_22 : decode cX1_rankOf 22 = .ok (.iinc 2 1, 3) := by decide +kernel
theorem dX1_rankOf_25 : decode cX1_rankOf 25 = .ok (.goto (-23), 3) := by decide +kernel
theorem dX1_rankOf_28 : decode cX1_rankOf 28 = .ok (.iconst (-1), 1) := by decide +kernel
theorem dX1_rankOf_29 : decode cX1_rankOf 29 = .ok (.ireturn, 1) := by decide +kernel
set_option maxRecDepth 20000 in
theorem ggX1_changeRank_X1_rankOf : GoodIn wsX1_changeRank wsX1_rankOf := goodIn_r _ [8, 1, 9, 10, 11, 14, 15, 16, 17, 18, 19, 20, 21, 22, 23, 24, 25, 26] (by decide +kernel) (by decide +kernel)
set_option maxRecDepth 20000 in
theorem gX1_changeRank_X1_rankOf : GoodIn wsX1_changeRank (wsV RX1 69 RX1 yX1_rankOf wsX1_rankOf) := goodIn_app (goodIn_of _ (by decide +kernel)) ggX1_changeRank_X1_rankOf
set_option maxRecDepth 20000 in
theorem ggX1_changeRank_X3_at : GoodIn wsX1_changeRank wsX3_at := goodIn_r _ [11] (by decide +kernel) (by decide +kernel)
set_option maxRecDepth 20000 in
theorem gX1_changeRank_X3_at_n65 : GoodIn wsX1_changeRank (wsX3_at) := ggX1_changeRank_X3_at
set_option maxRecDepth 20000 in
theorem ggX1_changeRank_X3_put : GoodIn wsX1_changeRank wsX3_put := goodIn_r _ [13] (by decide +kernel) (by decide +kernel)
set_option maxRecDepth 20000 in
theorem gX1_changeRank_X3_put_n53 : GoodIn wsX1_changeRank (wsX3_put) := ggX1_changeRank_X3_put
theorem dX1_changeRank_0 : decode cX1_changeRank 0 = .ok (.aload_n 0, 1) := by decide +kernel
theorem dX1_changeRank_1 : decode cX1_changeRank 1 = .ok (.iload_n 1, 1) := by decide +kernel
theorem dX1_changeRank_2 : decode cX1_changeRank 2 = .ok (.invokevirtual 69, 3) := by decide +kernel
theorem dX1_changeRank_5 : decode cX1_changeRank 5 = .ok (.istore_n 3, 1) := by decide +kernel
theorem dX1_changeRank_6 : decode cX1_changeRank 6 = .ok (.aload_n 0, 1) := by decide +kernel
theorem dX1_changeRank_7 : decode cX1_changeRank 7 = .ok (.getfield 9, 3) := by decide +kernel
theorem dX1_changeRank_10 : decode cX1_changeRank 10 = .ok (.iload_n 3, 1) := by decide +kernel
theorem dX1_changeRank_11 : decode cX1_changeRank 11 = .ok (.aload_n 0, 1) := by decide +kernel
theorem dX1_changeRank_12 : decode cX1_changeRank 12 = .ok (.getfield 9, 3) := by decide +kernel
theorem dX1_changeRank_15 : decode cX1_changeRank 15 = .ok (.iload_n 2, 1) := by decide +kernel
theorem dX1_changeRank_16 : decode cX1_changeRank 16 = .ok (.invokestatic 65, 3) := by decide +kernel
theorem dX1_changeRank_19 : decode cX1_changeRank 19 = .ok (.invokestatic 53, 3) := by decide +kernel
theorem dX1_changeRank_22 : decode cX1_changeRank 22 = .ok (.aload_n 0, 1) := by decide +kernel
theorem dX1_changeRank_23 : decode cX1_changeRank 23 = .ok (.getfield 9, 3) := by decide +kernel
theorem dX1_changeRank_26 : decode cX1_changeRank 26 = .ok (.iload_n 2, 1) := by decide +kernel
theorem dX1_changeRank_27 : decode cX1_changeRank 27 = .ok (.iload_n 1, 1) := by decide +kernel
theorem dX1_changeRank_28 : decode cX1_changeRank 28 = .ok (.invokestatic 53, 3) := by decide +kernel
theorem dX1_changeRank_31 : decode cX1_changeRank 31 = .ok (.iconst 0, 1) := by decide +kernel
theorem dX1_changeRank_32 : decode cX1_changeRank 32 = .ok (.istore 4, 2) := by decide +kernel
theorem dX1_changeRank_34 : decode cX1_changeRank 34 = .ok (.iload 4, 2) := by decide +kernel
theorem dX1_changeRank_36 : decode cX1_changeRank 36 = .ok (.aload_n 0, 1) := by decide +kernel
theorem dX1_changeRank_37 : decode cX1_changeRank 37 = .ok (.getfield 37, 3) := by decide +kernel
theorem dX1_changeRank_40 : decode cX1_changeRank 40 = .ok (.if_icmp .ge 32, 3) := by decide +kernel
theorem dX1_changeRank_43 : decode cX1_changeRank 43 = .ok (.aload_n 0, 1) := by decide +kernel
theorem dX1_changeRank_44 : decode cX1_changeRank 44 = .ok (.getfield 18, 3) := by decide +kernel
theorem dX1_changeRank_47 : decode cX1_changeRank 47 = .ok (.iload 4, 2) := by decide +kernel
theorem dX1_changeRank_49 : decode cX1_changeRank 49 = .ok (.invokestatic 65, 3) := by decide +kernel
theorem dX1_changeRank_52 : decode cX1_changeRank 52 = .ok (.iconst 1, 1) := by decide +kernel
theorem dX1_changeRank_53 : decode cX1_changeRank 53 = .ok (.if_icmp .ne 13, 3) := by decide +kernel
theorem dX1_changeRank_56 : decode cX1_changeRank 56 = .ok (.aload_n 0, 1) := by decide +kernel
theorem dX1_changeRank_57 : decode cX1_changeRank 57 = .ok (.getfield 18, 3) := by decide +kernel
theorem dX1_changeRank_60 : decode cX1_changeRank 60 = .ok (.iload 4, 2) := by decide +kernel
theorem dX1_changeRank_62 : decode cX1_changeRank 62 = .ok (.iconst 0, 1) := by decide +kernel
theorem dX1_changeRank_63 : decode cX1_changeRank 63 = .ok (.invokestatic 53, 3) := by decide +kernel
theorem dX1_changeRank_66 : decode cX1_changeRank 66 = .ok (.iinc 4 1, 3) := by decide +kernel
theorem dX1_changeRank_69 : decode cX1_changeRank 69 = .ok (.goto (-35), 3) := by decide +kernel
theorem dX1_changeRank_72 : decode cX1_changeRank 72 = .ok (.iload_n 3, 1) := by decide +kernel
theorem dX1_changeRank_73 : decode cX1_changeRank 73 = .ok (.ireturn, 1) := by decide +kernel
set_option maxRecDepth 20000 in
theorem ggX1_greatestOf_X3_at : GoodIn wsX1_greatestOf wsX3_at := goodIn_r _ [4] (by decide +kernel) (by decide +kernel)
set_option maxRecDepth 20000 in
theorem gX1_greatestOf_X3_at_n65 : GoodIn wsX1_greatestOf (wsX3_at) := ggX1_greatestOf_X3_at
theorem dX1_greatestOf_0 : decode cX1_greatestOf 0 = .ok (.iconst 5, 1) := by decide +kernel
theorem dX1_greatestOf_1 : decode cX1_greatestOf 1 = .ok (.istore_n 2, 1) := by decide +kernel
theorem dX1_greatestOf_2 : decode cX1_greatestOf 2 = .ok (.iload_n 2, 1) := by decide +kernel
theorem dX1_greatestOf_3 : decode cX1_greatestOf 3 = .ok (.ifCond .lt 41, 3) := by decide +kernel
theorem dX1_greatestOf_6 : decode cX1_greatestOf 6 = .ok (.aload_n 0, 1) := by decide +kernel
theorem dX1_greatestOf_7 : decode cX1_greatestOf 7 = .ok (.getfield 9, 3) := by decide +kernel
theorem dX1_greatestOf_10 : decode cX1_greatestOf 10 = .ok (.iload_n 2, 1) := by decide +kernel
theorem dX1_greatestOf_11 : decode cX1_greatestOf 11 = .ok (.invokestatic 65, 3) := by decide +kernel
theorem dX1_greatestOf_14 : decode cX1_greatestOf 14 = .ok (.istore_n 3, 1) := by decide +kernel
theorem dX1_greatestOf_15 : decode cX1_greatestOf 15 = .ok (.iload_n 1, 1) := by decide +kernel
theorem dX1_greatestOf_16 : decode cX1_greatestOf 16 = .ok (.iconst 2, 1) := by decide +kernel
theorem dX1_greatestOf_17 : decode cX1_greatestOf 17 = .ok (.iload_n 3, 1) := by decide +kernel
theorem dX1_greatestOf_18 : decode cX1_greatestOf 18 = .ok (.imul, 1) := by decide +kernel
theorem dX1_greatestOf_19 : decode cX1_greatestOf 19 = .ok (.ishr, 1) := by decide +kernel
theorem dX1_greatestOf_20 : decode cX1_greatestOf 20 = .ok (.iconst 3, 1) := by decide +kernel
theorem dX1_greatestOf_21 : decode cX1_greatestOf 21 = .ok (.iand, 1) := by decide +kernel
theorem dX1_greatestOf_22 : decode cX1_greatestOf 22 = .ok (.istore 4, 2) := by decide +kernel
theorem dX1_greatestOf_24 : decode cX1_greatestOf 24 = .ok (.iload 4, 2) := by decide +kernel
theorem dX1_greatestOf_26 : decode cX1_greatestOf 26 = .ok (.ifCond .eq 12, 3) := by decide +kernel
theorem dX1_greatestOf_29 : decode cX1_greatestOf 29 = .ok (.iconst 2, 1) := by decide +kernel
theorem dX1_greatestOf_30 : decode cX1_greatestOf 30 = .ok (.iload_n 3, 1) := by decide +kernel
theorem dX1_greatestOf_31 : decode cX1_greatestOf 31 = .ok (.imul, 1) := by decide +kernel
theorem dX1_greatestOf_32 : decode cX1_greatestOf 32 = .ok (.iload 4, 2) := by decide +kernel
theorem dX1_greatestOf_34 : decode cX1_greatestOf 34 = .ok (.iconst 1, 1) := by decide +kernel
theorem dX1_greatestOf_35 : decode cX1_greatestOf 35 = .ok (.ishr, 1) := by decide +kernel
theorem dX1_greatestOf_36 : decode cX1_greatestOf 36 = .ok (.iadd, 1) := by decide +kernel
theorem dX1_greatestOf_37 : decode cX1_greatestOf 37 = .ok (.ireturn, 1) := by decide +kernel
theorem dX1_greatestOf_38 : decode cX1_greatestOf 38 = .ok (.iinc 2 (-1), 3) := by decide +kernel
theorem dX1_greatestOf_41 : decode cX1_greatestOf 41 = .ok (.goto (-39), 3) := by decide +kernel
theorem dX1_greatestOf_44 : decode cX1_greatestOf 44 = .ok (.iconst (-1), 1) := by decide +kernel
theorem dX1_greatestOf_45 : decode cX1_greatestOf 45 = .ok (.ireturn, 1) := by decide +kernel
set_option maxRecDepth 20000 in
theorem ggX1_isLess_X1_greatestOf : GoodIn wsX1_isLess wsX1_greatestOf := goodIn_r _ [5, 6, 7, 8, 9, 12, 13, 14, 15, 16, 17, 18, 19, 20, 21, 22, 23, 24] (by decide +kernel) (by decide +kernel)
set_option maxRecDepth 20000 in
theorem gX1_isLess_X1_greatestOf : GoodIn wsX1_isLess (wsV RX1 73 RX1 yX1_greatestOf wsX1_greatestOf) := goodIn_app (goodIn_of _ (by decide +kernel)) ggX1_isLess_X1_greatestOf
set_option maxRecDepth 20000 in
theorem ggX1_isLess_X3_isIn : GoodIn wsX1_isLess wsX3_isIn := goodIn_r _ [11] (by decide +kernel) (by decide +kernel)
set_option maxRecDepth 20000 in
theorem gX1_isLess_X3_isIn_n76 : GoodIn wsX1_isLess (wsX3_isIn) := ggX1_isLess_X3_isIn
theorem dX1_isLess_0 : decode cX1_isLess 0 = .ok (.aload_n 0, 1) := by decide +kernel
theorem dX1_isLess_1 : decode cX1_isLess 1 = .ok (.iload_n 1, 1) := by decide +kernel
theorem dX1_isLess_2 : decode cX1_isLess 2 = .ok (.iload_n 2, 1) := by decide +kernel
theorem dX1_isLess_3 : decode cX1_isLess 3 = .ok (.ixor, 1) := by decide +kernel
theorem dX1_isLess_4 : decode cX1_isLess 4 = .ok (.invokevirtual 73, 3) := by decide +kernel
theorem dX1_isLess_7 : decode cX1_isLess 7 = .ok (.istore_n 3, 1) := by decide +kernel
theorem dX1_isLess_8 : decode cX1_isLess 8 = .ok (.iload_n 3, 1) := by decide +kernel
theorem dX1_isLess_9 : decode cX1_isLess 9 = .ok (.iconst (-1), 1) := by decide +kernel
theorem dX1_isLess_10 : decode cX1_isLess 10 = .ok (.if_icmp .eq 16, 3) := by decide +kernel
theorem dX1_isLess_13 : decode cX1_isLess 13 = .ok (.iload_n 2, 1) := by decide +kernel
theorem dX1_isLess_14 : decode cX1_isLess 14 = .ok (.i2l, 1) := by decide +kernel
theorem dX1_isLess_15 : decode cX1_isLess 15 = .ok (.iload_n 3, 1) := by decide +kernel
theorem dX1_isLess_16 : decode cX1_isLess 16 = .ok (.invokestatic 76, 3) := by decide +kernel
theorem dX1_isLess_19 : decode cX1_isLess 19 = .ok (.ifCond .eq 7, 3) := by decide +kernel
theorem dX1_isLess_22 : decode cX1_isLess 22 = .ok (.iconst 1, 1) := by decide +kernel
theorem dX1_isLess_23 : decode cX1_isLess 23 = .ok (.goto 4, 3) := by decide +kernel
theorem dX1_isLess_26 : decode cX1_isLess 26 = .ok (.iconst 0, 1) := by decide +kernel
theorem dX1_isLess_27 : decode cX1_isLess 27 = .ok (.ireturn, 1) := by decide +kernel
set_option maxRecDepth 20000 in
theorem ggX1_howManyLessThan_X1_isDropped : GoodIn wsX1_howManyLessThan wsX1_isDropped := goodIn_r _ [7, 8, 9, 10, 11, 23, 24, 25, 26, 27, 28, 29, 30, 31, 32, 33, 34, 35] (by decide +kernel) (by decide +kernel)
set_option maxRecDepth 20000 in
theorem gX1_howManyLessThan_X1_isDropped : GoodIn wsX1_howManyLessThan (wsV RX1 80 RX1 yX1_isDropped wsX1_isDropped) := goodIn_app (goodIn_of _ (by decide +kernel)) ggX1_howManyLessThan_X1_isDropped
set_option maxRecDepth 20000 in
theorem ggX1_howManyLessThan_X3_at : GoodIn wsX1_howManyLessThan wsX3_at := goodIn_r _ [11] (by decide +kernel) (by decide +kernel)
set_option maxRecDepth 20000 in
theorem gX1_howManyLessThan_X3_at_n65 : GoodIn wsX1_howManyLessThan (wsX3_at) := ggX1_howManyLessThan_X3_at
set_option maxRecDepth 20000 in
theorem ggX1_howManyLessThan_X1_isLess : GoodIn wsX1_howManyLessThan wsX1_isLess := goodIn_r _ [15, 16, 17, 18, 6, 19, 20, 9, 10, 11, 21, 22, 23, 24, 25, 26, 27, 28, 29, 30, 31, 32, 33, 34, 35] (by decide +kernel) (by decide +kernel)
set_option maxRecDepth 20000 in
theorem gX1_howManyLessThan_X1_isLess : GoodIn wsX1_howManyLessThan (wsV RX1 84 RX1 yX1_isLess wsX1_isLess) := goodIn_app (goodIn_of _ (by decide +kernel)) ggX1_howManyLessThan_X1_isLess
theorem dX1_howManyLessThan_0 : decode cX1_howManyLessThan 0 = .ok (.iconst 0, 1) := by decide +kernel
theorem dX1_howManyLessThan_1 : decode cX1_howManyLessThan 1 = .ok (.istore_n 2, 1) := by decide +kernel
theorem dX1_howManyLessThan_2 : decode cX1_howManyLessThan 2 = .ok (.iconst 0, 1) := by decide +kernel
theorem dX1_howManyLessThan_3 : decode cX1_howManyLessThan 3 = .ok (.istore_n 3, 1) := by decide +kernel
theorem dX1_howManyLessThan_4 : decode cX1_howManyLessThan 4 = .ok (.iload_n 3, 1) := by decide +kernel
theorem dX1_howManyLessThan_5 : decode cX1_howManyLessThan 5 = .ok (.aload_n 0, 1) := by decide +kernel
theorem dX1_howManyLessThan_6 : decode cX1_howManyLessThan 6 = .ok (.getfield 37, 3) := by decide +kernel
theorem dX1_howManyLessThan_9 : decode cX1_howManyLessThan 9 = .ok (.if_icmp .ge 43, 3) := by decide +kernel
theorem dX1_howManyLessThan_12 : decode cX1_howManyLessThan 12 = .ok (.aload_n 0, 1) := by decide +kernel
theorem dX1_howManyLessThan_13 : decode cX1_howManyLessThan 13 = .ok (.iload_n 3, 1) := by decide +kernel
theorem dX1_howManyLessThan_14 : decode cX1_howManyLessThan 14 = .ok (.invokevirtual 80, 3) := by decide +kernel
theorem dX1_howManyLessThan_17 : decode cX1_howManyLessThan 17 = .ok (.ifCond .ne 29, 3) := by decide +kernel
theorem dX1_howManyLessThan_20 : decode cX1_howManyLessThan 20 = .ok (.aload_n 0, 1) := by decide +kernel
theorem dX1_howManyLessThan_21 : decode cX1_howManyLessThan 21 = .ok (.aload_n 0, 1) := by decide +kernel
theorem dX1_howManyLessThan_22 : decode cX1_howManyLessThan 22 = .ok (.getfield 15, 3) := by decide +kernel
theorem dX1_howManyLessThan_25 : decode cX1_howManyLessThan 25 = .ok (.iload_n 3, 1) := by decide +kernel
theorem dX1_howManyLessThan_26 : decode cX1_howManyLessThan 26 = .ok (.invokestatic 65, 3) := by decide +kernel
theorem dX1_howManyLessThan_29 : decode cX1_howManyLessThan 29 = .ok (.aload_n 0, 1) := by decide +kernel
theorem dX1_howManyLessThan_30 : decode cX1_howManyLessThan 30 = .ok (.getfield 15, 3) := by decide +kernel
theorem dX1_howManyLessThan_33 : decode cX1_howManyLessThan 33 = .ok (.iload_n 1, 1) := by decide +kernel
theorem dX1_howManyLessThan_34 : decode cX1_howManyLessThan 34 = .ok (.invokestatic 65, 3) := by decide +kernel
theorem dX1_howManyLessThan_37 : decode cX1_howManyLessThan 37 = .ok (.invokevirtual 84, 3) := by decide +kernel
theorem dX1_howManyLessThan_40 : decode cX1_howManyLessThan 40 = .ok (.ifCond .eq 6, 3) := by decide +kernel
theorem dX1_howManyLessThan_43 : decode cX1_howManyLessThan 43 = .ok (.iinc 2 1, 3) := by decide +kernel
theorem dX1_howManyLessThan_46 : decode cX1_howManyLessThan 46 = .ok (.iinc 3 1, 3) := by decide +kernel
theorem dX1_howManyLessThan_49 : decode cX1_howManyLessThan 49 = .ok (.goto (-45), 3) := by decide +kernel
theorem dX1_howManyLessThan_52 : decode cX1_howManyLessThan 52 = .ok (.iload_n 2, 1) := by decide +kernel
theorem dX1_howManyLessThan_53 : decode cX1_howManyLessThan 53 = .ok (.ireturn, 1) := by decide +kernel
set_option maxRecDepth 20000 in
theorem ggX1_howMany_X3_at : GoodIn wsX1_howMany wsX3_at := goodIn_r _ [5] (by decide +kernel) (by decide +kernel)
set_option maxRecDepth 20000 in
theorem gX1_howMany_X3_at_n65 : GoodIn wsX1_howMany (wsX3_at) := ggX1_howMany_X3_at
theorem dX1_howMany_0 : decode cX1_howMany 0 = .ok (.iconst 0, 1) := by decide +kernel
theorem dX1_howMany_1 : decode cX1_howMany 1 = .ok (.istore_n 2, 1) := by decide +kernel
theorem dX1_howMany_2 : decode cX1_howMany 2 = .ok (.iconst 0, 1) := by decide +kernel
theorem dX1_howMany_3 : decode cX1_howMany 3 = .ok (.istore_n 3, 1) := by decide +kernel
theorem dX1_howMany_4 : decode cX1_howMany 4 = .ok (.iload_n 3, 1) := by decide +kernel
theorem dX1_howMany_5 : decode cX1_howMany 5 = .ok (.aload_n 0, 1) := by decide +kernel
theorem dX1_howMany_6 : decode cX1_howMany 6 = .ok (.getfield 37, 3) := by decide +kernel
theorem dX1_howMany_9 : decode cX1_howMany 9 = .ok (.if_icmp .ge 29, 3) := by decide +kernel
theorem dX1_howMany_12 : decode cX1_howMany 12 = .ok (.iload_n 2, 1) := by decide +kernel
theorem dX1_howMany_13 : decode cX1_howMany 13 = .ok (.aload_n 0, 1) := by decide +kernel
theorem dX1_howMany_14 : decode cX1_howMany 14 = .ok (.getfield 18, 3) := by decide +kernel
theorem dX1_howMany_17 : decode cX1_howMany 17 = .ok (.iload_n 3, 1) := by decide +kernel
theorem dX1_howMany_18 : decode cX1_howMany 18 = .ok (.invokestatic 65, 3) := by decide +kernel
theorem dX1_howMany_21 : decode cX1_howMany 21 = .ok (.iload_n 1, 1) := by decide +kernel
theorem dX1_howMany_22 : decode cX1_howMany 22 = .ok (.if_icmp .ne 7, 3) := by decide +kernel
theorem dX1_howMany_25 : decode cX1_howMany 25 = .ok (.iconst 1, 1) := by decide +kernel
theorem dX1_howMany_26 : decode cX1_howMany 26 = .ok (.goto 4, 3) := by decide +kernel
theorem dX1_howMany_29 : decode cX1_howMany 29 = .ok (.iconst 0, 1) := by decide +kernel
theorem dX1_howMany_30 : decode cX1_howMany 30 = .ok (.iadd, 1) := by decide +kernel
theorem dX1_howMany_31 : decode cX1_howMany 31 = .ok (.istore_n 2, 1) := by decide +kernel
theorem dX1_howMany_32 : decode cX1_howMany 32 = .ok (.iinc 3 1, 3) := by decide +kernel
theorem dX1_howMany_35 : decode cX1_howMany 35 = .ok (.goto (-31), 3) := by decide +kernel
theorem dX1_howMany_38 : decode cX1_howMany 38 = .ok (.iload_n 2, 1) := by decide +kernel
theorem dX1_howMany_39 : decode cX1_howMany 39 = .ok (.ireturn, 1) := by decide +kernel
set_option maxRecDepth 20000 in
theorem ggX1_emptyClause_X3_at : GoodIn wsX1_emptyClause wsX3_at := goodIn_r _ [5] (by decide +kernel) (by decide +kernel)
set_option maxRecDepth 20000 in
theorem gX1_emptyClause_X3_at_n65 : GoodIn wsX1_emptyClause (wsX3_at) := ggX1_emptyClause_X3_at
theorem dX1_emptyClause_0 : decode cX1_emptyClause 0 = .ok (.iconst 0, 1) := by decide +kernel
theorem dX1_emptyClause_1 : decode cX1_emptyClause 1 = .ok (.istore_n 1, 1) := by decide +kernel
theorem dX1_emptyClause_2 : decode cX1_emptyClause 2 = .ok (.iload_n 1, 1) := by decide +kernel
theorem dX1_emptyClause_3 : decode cX1_emptyClause 3 = .ok (.aload_n 0, 1) := by decide +kernel
theorem dX1_emptyClause_4 : decode cX1_emptyClause 4 = .ok (.getfield 37, 3) := by decide +kernel
theorem dX1_emptyClause_7 : decode cX1_emptyClause 7 = .ok (.if_icmp .ge 22, 3) := by decide +kernel
theorem dX1_emptyClause_10 : decode cX1_emptyClause 10 = .ok (.aload_n 0, 1) := by decide +kernel
theorem dX1_emptyClause_11 : decode cX1_emptyClause 11 = .ok (.getfield 15, 3) := by decide +kernel
theorem dX1_emptyClause_14 : decode cX1_emptyClause 14 = .ok (.iload_n 1, 1) := by decide +kernel
theorem dX1_emptyClause_15 : decode cX1_emptyClause 15 = .ok (.invokestatic 65, 3) := by decide +kernel
theorem dX1_emptyClause_18 : decode cX1_emptyClause 18 = .ok (.ifCond .ne 5, 3) := by decide +kernel
theorem dX1_emptyClause_21 : decode cX1_emptyClause 21 = .ok (.iload_n 1, 1) := by decide +kernel
theorem dX1_emptyClause_22 : decode cX1_emptyClause 22 = .ok (.ireturn, 1) := by decide +kernel
theorem dX1_emptyClause_23 : decode cX1_emptyClause 23 = .ok (.iinc 1 1, 3) := by decide +kernel
theorem dX1_emptyClause_26 : decode cX1_emptyClause 26 = .ok (.goto (-24), 3) := by decide +kernel
theorem dX1_emptyClause_29 : decode cX1_emptyClause 29 = .ok (.iconst (-1), 1) := by decide +kernel
theorem dX1_emptyClause_30 : decode cX1_emptyClause 30 = .ok (.ireturn, 1) := by decide +kernel
set_option maxRecDepth 20000 in
theorem ggX1_bring_X3_holdsAlways : GoodIn wsX1_bring wsX3_holdsAlways := goodIn_r _ [7] (by decide +kernel) (by decide +kernel)
set_option maxRecDepth 20000 in
theorem gX1_bring_X3_holdsAlways_n88 : GoodIn wsX1_bring (wsX3_holdsAlways) := ggX1_bring_X3_holdsAlways
set_option maxRecDepth 20000 in
theorem ggX1_bring_X1_hasAnotherWithin : GoodIn wsX1_bring wsX1_hasAnotherWithin := goodIn_r _ [12, 3, 13, 14, 15, 16, 11, 17, 18, 19, 6, 20, 21, 22, 51, 52, 53, 54, 55, 56, 57, 58, 59, 60, 61, 62, 63] (by decide +kernel) (by decide +kernel)
set_option maxRecDepth 20000 in
theorem gX1_bring_X1_hasAnotherWithin : GoodIn wsX1_bring (wsV RX1 91 RX1 yX1_hasAnotherWithin wsX1_hasAnotherWithin) := goodIn_app (goodIn_of _ (by decide +kernel)) ggX1_bring_X1_hasAnotherWithin
set_option maxRecDepth 20000 in
theorem ggX1_bring_X1_dropAllAround : GoodIn wsX1_bring wsX1_dropAllAround := goodIn_r _ [26, 3, 13, 18, 19, 6, 20, 21, 22, 27, 28, 51, 52, 53, 54, 55, 56, 57, 58, 59, 60, 61, 62, 63] (by decide +kernel) (by decide +kernel)
set_option maxRecDepth 20000 in
theorem gX1_bring_X1_dropAllAround : GoodIn wsX1_bring (wsV RX1 95 RX1 yX1_dropAllAround wsX1_dropAllAround) := goodIn_app (goodIn_of _ (by decide +kernel)) ggX1_bring_X1_dropAllAround
set_option maxRecDepth 20000 in
theorem ggX1_bring_X1_takeIn : GoodIn wsX1_bring wsX1_takeIn := goodIn_r _ [32, 3, 13, 18, 33, 34, 35, 36, 37, 38, 39, 40, 41, 27, 6, 28, 19, 20, 42, 43, 44, 45, 46, 47, 48, 49, 50, 51, 52, 53, 54, 55, 56, 57, 58, 59, 60, 61, 62, 63] (by decide +kernel) (by decide +kernel)
set_option maxRecDepth 20000 in
theorem gX1_bring_X1_takeIn : GoodIn wsX1_bring (wsV RX1 99 RX1 yX1_takeIn wsX1_takeIn) := goodIn_app (goodIn_of _ (by decide +kernel)) ggX1_bring_X1_takeIn
theorem dX1_bring_0 : decode cX1_bring 0 = .ok (.iload_n 1, 1) := by decide +kernel
theorem dX1_bring_1 : decode cX1_bring 1 = .ok (.invokestatic 88, 3) := by decide +kernel
theorem dX1_bring_4 : decode cX1_bring 4 = .ok (.ifCond .eq 15, 3) := by decide +kernel
theorem dX1_bring_7 : decode cX1_bring 7 = .ok (.aload_n 0, 1) := by decide +kernel
theorem dX1_bring_8 : decode cX1_bring 8 = .ok (.dup, 1) := by decide +kernel
theorem dX1_bring_9 : decode cX1_bring 9 = .ok (.getfield 47, 3) := by decide +kernel
theorem dX1_bring_12 : decode cX1_bring 12 = .ok (.iconst 1, 1) := by decide +kernel
theorem dX1_bring_13 : decode cX1_bring 13 = .ok (.iadd, 1) := by decide +kernel
theorem dX1_bring_14 : decode cX1_bring 14 = .ok (.putfield 47, 3) := by decide +kernel
theorem dX1_bring_17 : decode cX1_bring 17 = .ok (.iconst (-1), 1) := by decide +kernel
theorem dX1_bring_18 : decode cX1_bring 18 = .ok (.ireturn, 1) := by decide +kernel
theorem dX1_bring_19 : decode cX1_bring 19 = .ok (.aload_n 0, 1) := by decide +kernel
theorem dX1_bring_20 : decode cX1_bring 20 = .ok (.iload_n 1, 1) := by decide +kernel
theorem dX1_bring_21 : decode cX1_bring 21 = .ok (.invokevirtual 91, 3) := by decide +kernel
theorem dX1_bring_24 : decode cX1_bring 24 = .ok (.ifCond .eq 16, 3) := by decide +kernel
theorem dX1_bring_27 : decode cX1_bring 27 = .ok (.aload_n 0, 1) := by decide +kernel
theorem dX1_bring_28 : decode cX1_bring 28 = .ok (.dup, 1) := by decide +kernel
theorem dX1_bring_29 : decode cX1_bring 29 = .ok (.getfield 50, 3) := by decide +kernel
theorem dX1_bring_32 : decode cX1_bring 32 = .ok (.iconst 1, 1) := by decide +kernel
theorem dX1_bring_33 : decode cX1_bring 33 = .ok (.iadd, 1) := by decide +kernel
theorem dX1_bring_34 : decode cX1_bring 34 = .ok (.putfield 50, 3) := by decide +kernel
theorem dX1_bring_37 : decode cX1_bring 37 = .ok (.bipush (-2), 2) := by decide +kernel
theorem dX1_bring_39 : decode cX1_bring 39 = .ok (.ireturn, 1) := by decide +kernel
theorem dX1_bring_40 : decode cX1_bring 40 = .ok (.aload_n 0, 1) := by decide +kernel
theorem dX1_bring_41 : decode cX1_bring 41 = .ok (.getfield 37, 3) := by decide +kernel
theorem dX1_bring_44 : decode cX1_bring 44 = .ok (.bipush 40, 2) := by decide +kernel
theorem dX1_bring_46 : decode cX1_bring 46 = .ok (.if_icmp .lt 6, 3) := by decide +kernel
theorem dX1_bring_49 : decode cX1_bring 49 = .ok (.ldc 94, 2) := by decide +kernel
theorem dX1_bring_51 : decode cX1_bring 51 = .ok (.ireturn, 1) := by decide +kernel
theorem dX1_bring_52 : decode cX1_bring 52 = .ok (.aload_n 0, 1) := by decide +kernel
theorem dX1_bring_53 : decode cX1_bring 53 = .ok (.iload_n 1, 1) := by decide +kernel
theorem dX1_bring_54 : decode cX1_bring 54 = .ok (.invokevirtual 95, 3) := by decide +kernel
theorem dX1_bring_57 : decode cX1_bring 57 = .ok (.aload_n 0, 1) := by decide +kernel
theorem dX1_bring_58 : decode cX1_bring 58 = .ok (.iload_n 1, 1) := by decide +kernel
theorem dX1_bring_59 : decode cX1_bring 59 = .ok (.iload_n 2, 1) := by decide +kernel
theorem dX1_bring_60 : decode cX1_bring 60 = .ok (.iload_n 3, 1) := by decide +kernel
theorem dX1_bring_61 : decode cX1_bring 61 = .ok (.iload 4, 2) := by decide +kernel
theorem dX1_bring_63 : decode cX1_bring 63 = .ok (.invokevirtual 99, 3) := by decide +kernel
theorem dX1_bring_66 : decode cX1_bring 66 = .ok (.ireturn, 1) := by decide +kernel
set_option maxRecDepth 20000 in
theorem ggX1_hasAnotherWithin_X1_isDropped : GoodIn wsX1_hasAnotherWithin wsX1_isDropped := goodIn_r _ [7, 8, 9, 10, 11, 14, 15, 16, 17, 18, 19, 20, 21, 22, 23, 24, 25, 26] (by decide +kernel) (by decide +kernel)
set_option maxRecDepth 20000 in
theorem gX1_hasAnotherWithin_X1_isDropped : GoodIn wsX1_hasAnotherWithin (wsV RX1 80 RX1 yX1_isDropped wsX1_isDropped) := goodIn_app (goodIn_of _ (by decide +kernel)) ggX1_hasAnotherWithin_X1_isDropped
set_option maxRecDepth 20000 in
theorem ggX1_hasAnotherWithin_X3_at : GoodIn wsX1_hasAnotherWithin wsX3_at := goodIn_r _ [11] (by decide +kernel) (by decide +kernel)
set_option maxRecDepth 20000 in
theorem gX1_hasAnotherWithin_X3_at_n65 : GoodIn wsX1_hasAnotherWithin (wsX3_at) := ggX1_hasAnotherWithin_X3_at
set_option maxRecDepth 20000 in
theorem ggX1_hasAnotherWithin_X3_isWithin : GoodIn wsX1_hasAnotherWithin wsX3_isWithin := goodIn_r _ [13] (by decide +kernel) (by decide +kernel)
set_option maxRecDepth 20000 in
theorem gX1_hasAnotherWithin_X3_isWithin_n103 : GoodIn wsX1_hasAnotherWithin (wsX3_isWithin) := ggX1_hasAnotherWithin_X3_isWithin
theorem dX1_hasAnotherWithin_0 : decode cX1_hasAnotherWithin 0 = .ok (.iconst 0, 1) := by decide +kernel
theorem dX1_hasAnotherWithin_1 : decode cX1_hasAnotherWithin 1 = .ok (.istore_n 2, 1) := by decide +kernel
theorem dX1_hasAnotherWithin_2 : decode cX1_hasAnotherWithin 2 = .ok (.iload_n 2, 1) := by decide +kernel
theorem dX1_hasAnotherWithin_3 : decode cX1_hasAnotherWithin 3 = .ok (.aload_n 0, 1) := by decide +kernel
theorem dX1_hasAnotherWithin_4 : decode cX1_hasAnotherWithin 4 = .ok (.getfield 37, 3) := by decide +kernel
theorem dX1_hasAnotherWithin_7 : decode cX1_hasAnotherWithin 7 = .ok (.if_icmp .ge 34, 3) := by decide +kernel
theorem dX1_hasAnotherWithin_10 : decode cX1_hasAnotherWithin 10 = .ok (.aload_n 0, 1) := by decide +kernel
theorem dX1_hasAnotherWithin_11 : decode cX1_hasAnotherWithin 11 = .ok (.iload_n 2, 1) := by decide +kernel
theorem dX1_hasAnotherWithin_12 : decode cX1_hasAnotherWithin 12 = .ok (.invokevirtual 80, 3) := by decide +kernel
theorem dX1_hasAnotherWithin_15 : decode cX1_hasAnotherWithin 15 = .ok (.ifCond .ne 20, 3) := by decide +kernel
theorem dX1_hasAnotherWithin_18 : decode cX1_hasAnotherWithin 18 = .ok (.aload_n 0, 1) := by decide +kernel
theorem dX1_hasAnotherWithin_19 : decode cX1_hasAnotherWithin 19 = .ok (.getfield 15, 3) := by decide +kernel
theorem dX1_hasAnotherWithin_22 : decode cX1_hasAnotherWithin 22 = .ok (.iload_n 2, 1) := by decide +kernel
theorem dX1_hasAnotherWithin_23 : decode cX1_hasAnotherWithin 23 = .ok (.invokestatic 65, 3) := by decide +kernel
theorem dX1_hasAnotherWithin_26 : decode cX1_hasAnotherWithin 26 = .ok (.iload_n 1, 1) := by decide +kernel
theorem dX1_hasAnotherWithin_27 : decode cX1_hasAnotherWithin 27 = .ok (.invokestatic 103, 3) := by decide +kernel
theorem dX1_hasAnotherWithin_30 : decode cX1_hasAnotherWithin 30 = .ok (.ifCond .eq 5, 3) := by decide +kernel
theorem dX1_hasAnotherWithin_33 : decode cX1_hasAnotherWithin 33 = .ok (.iconst 1, 1) := by decide +kernel
theorem dX1_hasAnotherWithin_34 : decode cX1_hasAnotherWithin 34 = .ok (.ireturn, 1) := by decide +kernel
theorem dX1_hasAnotherWithin_35 : decode cX1_hasAnotherWithin 35 = .ok (.iinc 2 1, 3) := by decide +kernel
theorem dX1_hasAnotherWithin_38 : decode cX1_hasAnotherWithin 38 = .ok (.goto (-36), 3) := by decide +kernel
theorem dX1_hasAnotherWithin_41 : decode cX1_hasAnotherWithin 41 = .ok (.iconst 0, 1) := by decide +kernel
theorem dX1_hasAnotherWithin_42 : decode cX1_hasAnotherWithin 42 = .ok (.ireturn, 1) := by decide +kernel
set_option maxRecDepth 20000 in
theorem ggX1_dropAllAround_X3_at : GoodIn wsX1_dropAllAround wsX3_at := goodIn_r _ [6] (by decide +kernel) (by decide +kernel)
set_option maxRecDepth 20000 in
theorem gX1_dropAllAround_X3_at_n65 : GoodIn wsX1_dropAllAround (wsX3_at) := ggX1_dropAllAround_X3_at
set_option maxRecDepth 20000 in
theorem ggX1_dropAllAround_X3_isWithin : GoodIn wsX1_dropAllAround wsX3_isWithin := goodIn_r _ [8] (by decide +kernel) (by decide +kernel)
set_option maxRecDepth 20000 in
theorem gX1_dropAllAround_X3_isWithin_n103 : GoodIn wsX1_dropAllAround (wsX3_isWithin) := ggX1_dropAllAround_X3_isWithin
set_option maxRecDepth 20000 in
theorem ggX1_dropAllAround_X3_put : GoodIn wsX1_dropAllAround wsX3_put := goodIn_r _ [10] (by decide +kernel) (by decide +kernel)
set_option maxRecDepth 20000 in
theorem gX1_dropAllAround_X3_put_n53 : GoodIn wsX1_dropAllAround (wsX3_put) := ggX1_dropAllAround_X3_put
theorem dX1_dropAllAround_0 : decode cX1_dropAllAround 0 = .ok (.iconst 0, 1) := by decide +kernel
theorem dX1_dropAllAround_1 : decode cX1_dropAllAround 1 = .ok (.istore_n 2, 1) := by decide +kernel
theorem dX1_dropAllAround_2 : decode cX1_dropAllAround 2 = .ok (.iload_n 2, 1) := by decide +kernel
theorem dX1_dropAllAround_3 : decode cX1_dropAllAround 3 = .ok (.aload_n 0, 1) := by decide +kernel
theorem dX1_dropAllAround_4 : decode cX1_dropAllAround 4 = .ok (.getfield 37, 3) := by decide +kernel
theorem dX1_dropAllAround_7 : decode cX1_dropAllAround 7 = .ok (.if_icmp .ge 33, 3) := by decide +kernel
theorem dX1_dropAllAround_10 : decode cX1_dropAllAround 10 = .ok (.iload_n 1, 1) := by decide +kernel
theorem dX1_dropAllAround_11 : decode cX1_dropAllAround 11 = .ok (.aload_n 0, 1) := by decide +kernel
theorem dX1_dropAllAround_12 : decode cX1_dropAllAround 12 = .ok (.getfield 15, 3) := by decide +kernel
theorem dX1_dropAllAround_15 : decode cX1_dropAllAround 15 = .ok (.iload_n 2, 1) := by decide +kernel
theorem dX1_dropAllAround_16 : decode cX1_dropAllAround 16 = .ok (.invokestatic 65, 3) := by decide +kernel
theorem dX1_dropAllAround_19 : decode cX1_dropAllAround 19 = .ok (.invokestatic 103, 3) := by decide +kernel
theorem dX1_dropAllAround_22 : decode cX1_dropAllAround 22 = .ok (.ifCond .eq 12, 3) := by decide +kernel
theorem dX1_dropAllAround_25 : decode cX1_dropAllAround 25 = .ok (.aload_n 0, 1) := by decide +kernel
theorem dX1_dropAllAround_26 : decode cX1_dropAllAround 26 = .ok (.getfield 18, 3) := by decide +kernel
theorem dX1_dropAllAround_29 : decode cX1_dropAllAround 29 = .ok (.iload_n 2, 1) := by decide +kernel
theorem dX1_dropAllAround_30 : decode cX1_dropAllAround 30 = .ok (.iconst 2, 1) := by decide +kernel
theorem dX1_dropAllAround_31 : decode cX1_dropAllAround 31 = .ok (.invokestatic 53, 3) := by decide +kernel
theorem dX1_dropAllAround_34 : decode cX1_dropAllAround 34 = .ok (.iinc 2 1, 3) := by decide +kernel
theorem dX1_dropAllAround_37 : decode cX1_dropAllAround 37 = .ok (.goto (-35), 3) := by decide +kernel
theorem dX1_dropAllAround_40 : decode cX1_dropAllAround 40 = .ok (.return_, 1) := by decide +kernel
set_option maxRecDepth 20000 in
theorem ggX1_takeIn_X3_put : GoodIn wsX1_takeIn wsX3_put := goodIn_r _ [15] (by decide +kernel) (by decide +kernel)
set_option maxRecDepth 20000 in
theorem gX1_takeIn_X3_put_n53 : GoodIn wsX1_takeIn (wsX3_put) := ggX1_takeIn_X3_put
set_option maxRecDepth 20000 in
theorem ggX1_takeIn_X3_at : GoodIn wsX1_takeIn wsX3_at := goodIn_r _ [17] (by decide +kernel) (by decide +kernel)
set_option maxRecDepth 20000 in
theorem gX1_takeIn_X3_at_n65 : GoodIn wsX1_takeIn (wsX3_at) := ggX1_takeIn_X3_at
set_option maxRecDepth 20000 in
theorem ggX1_takeIn_X3_valuesOfClause : GoodIn wsX1_takeIn wsX3_valuesOfClause := goodIn_r _ [19, 20, 21, 22, 23, 14, 24] (by decide +kernel) (by decide +kernel)
set_option maxRecDepth 20000 in
theorem gX1_takeIn_X3_valuesOfClause_n112 : GoodIn wsX1_takeIn (wsX3_valuesOfClause) := ggX1_takeIn_X3_valuesOfClause
set_option maxRecDepth 20000 in
theorem ggX1_takeIn_X3_putLong : GoodIn wsX1_takeIn wsX3_putLong := goodIn_r _ [26] (by decide +kernel) (by decide +kernel)
set_option maxRecDepth 20000 in
theorem gX1_takeIn_X3_putLong_n116 : GoodIn wsX1_takeIn (wsX3_putLong) := ggX1_takeIn_X3_putLong
theorem dX1_takeIn_0 : decode cX1_takeIn 0 = .ok (.aload_n 0, 1) := by decide +kernel
theorem dX1_takeIn_1 : decode cX1_takeIn 1 = .ok (.getfield 37, 3) := by decide +kernel
theorem dX1_takeIn_4 : decode cX1_takeIn 4 = .ok (.istore 5, 2) := by decide +kernel
theorem dX1_takeIn_6 : decode cX1_takeIn 6 = .ok (.iload_n 2, 1) := by decide +kernel
theorem dX1_takeIn_7 : decode cX1_takeIn 7 = .ok (.iconst (-1), 1) := by decide +kernel
theorem dX1_takeIn_8 : decode cX1_takeIn 8 = .ok (.if_icmp .ne 7, 3) := by decide +kernel
theorem dX1_takeIn_11 : decode cX1_takeIn 11 = .ok (.iconst 1, 1) := by decide +kernel
theorem dX1_takeIn_12 : decode cX1_takeIn 12 = .ok (.goto 4, 3) := by decide +kernel
theorem dX1_takeIn_15 : decode cX1_takeIn 15 = .ok (.iconst 0, 1) := by decide +kernel
theorem dX1_takeIn_16 : decode cX1_takeIn 16 = .ok (.istore 6, 2) := by decide +kernel
theorem dX1_takeIn_18 : decode cX1_takeIn 18 = .ok (.aload_n 0, 1) := by decide +kernel
theorem dX1_takeIn_19 : decode cX1_takeIn 19 = .ok (.getfield 15, 3) := by decide +kernel
theorem dX1_takeIn_22 : decode cX1_takeIn 22 = .ok (.iload 5, 2) := by decide +kernel
theorem dX1_takeIn_24 : decode cX1_takeIn 24 = .ok (.iload_n 1, 1) := by decide +kernel
theorem dX1_takeIn_25 : decode cX1_takeIn 25 = .ok (.invokestatic 53, 3) := by decide +kernel
theorem dX1_takeIn_28 : decode cX1_takeIn 28 = .ok (.aload_n 0, 1) := by decide +kernel
theorem dX1_takeIn_29 : decode cX1_takeIn 29 = .ok (.getfield 18, 3) := by decide +kernel
theorem dX1_takeIn_32 : decode cX1_takeIn 32 = .ok (.iload 5, 2) := by decide +kernel
theorem dX1_takeIn_34 : decode cX1_takeIn 34 = .ok (.iconst 0, 1) := by decide +kernel
theorem dX1_takeIn_35 : decode cX1_takeIn 35 = .ok (.invokestatic 53, 3) := by decide +kernel
theorem dX1_takeIn_38 : decode cX1_takeIn 38 = .ok (.aload_n 0, 1) := by decide +kernel
theorem dX1_takeIn_39 : decode cX1_takeIn 39 = .ok (.getfield 21, 3) := by decide +kernel
theorem dX1_takeIn_42 : decode cX1_takeIn 42 = .ok (.iload 5, 2) := by decide +kernel
theorem dX1_takeIn_44 : decode cX1_takeIn 44 = .ok (.iload_n 2, 1) := by decide +kernel
theorem dX1_takeIn_45 : decode cX1_takeIn 45 = .ok (.invokestatic 53, 3) := by decide +kernel
theorem dX1_takeIn_48 : decode cX1_takeIn 48 = .ok (.aload_n 0, 1) := by decide +kernel
theorem dX1_takeIn_49 : decode cX1_takeIn 49 = .ok (.getfield 24, 3) := by decide +kernel
theorem dX1_takeIn_52 : decode cX1_takeIn 52 = .ok (.iload 5, 2) := by decide +kernel
theorem dX1_takeIn_54 : decode cX1_takeIn 54 = .ok (.iload_n 3, 1) := by decide +kernel
theorem dX1_takeIn_55 : decode cX1_takeIn 55 = .ok (.invokestatic 53, 3) := by decide +kernel
theorem dX1_takeIn_58 : decode cX1_takeIn 58 = .ok (.aload_n 0, 1) := by decide +kernel
theorem dX1_takeIn_59 : decode cX1_takeIn 59 = .ok (.getfield 27, 3) := by decide +kernel
theorem dX1_takeIn_62 : decode cX1_takeIn 62 = .ok (.iload 5, 2) := by decide +kernel
theorem dX1_takeIn_64 : decode cX1_takeIn 64 = .ok (.iload 4, 2) := by decide +kernel
theorem dX1_takeIn_66 : decode cX1_takeIn 66 = .ok (.invokestatic 53, 3) := by decide +kernel
theorem dX1_takeIn_69 : decode cX1_takeIn 69 = .ok (.aload_n 0, 1) := by decide +kernel
theorem dX1_takeIn_70 : decode cX1_takeIn 70 = .ok (.getfield 30, 3) := by decide +kernel
theorem dX1_takeIn_73 : decode cX1_takeIn 73 = .ok (.iload 5, 2) := by decide +kernel
theorem dX1_takeIn_75 : decode cX1_takeIn 75 = .ok (.iload 6, 2) := by decide +kernel
theorem dX1_takeIn_77 : decode cX1_takeIn 77 = .ok (.ifCond .eq 7, 3) := by decide +kernel
theorem dX1_takeIn_80 : decode cX1_takeIn 80 = .ok (.iconst 0, 1) := by decide +kernel
theorem dX1_takeIn_81 : decode cX1_takeIn 81 = .ok (.goto 24, 3) := by decide +kernel
theorem dX1_takeIn_84 : decode cX1_takeIn 84 = .ok (.iconst 1, 1) := by decide +kernel
theorem dX1_takeIn_85 : decode cX1_takeIn 85 = .ok (.aload_n 0, 1) := by decide +kernel
theorem dX1_takeIn_86 : decode cX1_takeIn 86 = .ok (.getfield 30, 3) := by decide +kernel
theorem dX1_takeIn_89 : decode cX1_takeIn 89 = .ok (.iload_n 2, 1) := by decide +kernel
theorem dX1_takeIn_90 : decode cX1_takeIn 90 = .ok (.invokestatic 65, 3) := by decide +kernel
theorem dX1_takeIn_93 : decode cX1_takeIn 93 = .ok (.aload_n 0, 1) := by decide +kernel
theorem dX1_takeIn_94 : decode cX1_takeIn 94 = .ok (.getfield 30, 3) := by decide +kernel
theorem dX1_takeIn_97 : decode cX1_takeIn 97 = .ok (.iload_n 3, 1) := by decide +kernel
theorem dX1_takeIn_98 : decode cX1_takeIn 98 = .ok (.invokestatic 65, 3) := by decide +kernel
theorem dX1_takeIn_101 : decode cX1_takeIn 101 = .ok (.invokestatic 106, 3) := by decide +kernel
theorem dX1_takeIn_104 : decode cX1_takeIn 104 = .ok (.iadd, 1) := by decide +kernel
theorem dX1_takeIn_105 : decode cX1_takeIn 105 = .ok (.invokestatic 53, 3) := by decide +kernel
theorem dX1_takeIn_108 : decode cX1_takeIn 108 = .ok (.aload_n 0, 1) := by decide +kernel
theorem dX1_takeIn_109 : decode cX1_takeIn 109 = .ok (.getfield 33, 3) := by decide +kernel
theorem dX1_takeIn_112 : decode cX1_takeIn 112 = .ok (.iload 5, 2) := by decide +kernel
theorem dX1_takeIn_114 : decode cX1_takeIn 114 = .ok (.iload_n 1, 1) := by decide +kernel
theorem dX1_takeIn_115 : decode cX1_takeIn 115 = .ok (.invokestatic 112, 3) := by decide +kernel
theorem dX1_takeIn_118 : decode cX1_takeIn 118 = .ok (.invokestatic 116, 3) := by decide +kernel
theorem dX1_takeIn_121 : decode cX1_takeIn 121 = .ok (.aload_n 0, 1) := by decide +kernel
theorem dX1_takeIn_122 : decode cX1_takeIn 122 = .ok (.iload 5, 2) := by decide +kernel
theorem dX1_takeIn_124 : decode cX1_takeIn 124 = .ok (.iconst 1, 1) := by decide +kernel
theorem dX1_takeIn_125 : decode cX1_takeIn 125 = .ok (.iadd, 1) := by decide +kernel
theorem dX1_takeIn_126 : decode cX1_takeIn 126 = .ok (.putfield 37, 3) := by decide +kernel
theorem dX1_takeIn_129 : decode cX1_takeIn 129 = .ok (.iload 5, 2) := by decide +kernel
theorem dX1_takeIn_131 : decode cX1_takeIn 131 = .ok (.ireturn, 1) := by decide +kernel
set_option maxRecDepth 20000 in
theorem ggX1_takeStep_X1_emptyClause : GoodIn wsX1_takeStep wsX1_emptyClause := goodIn_r _ [9, 10, 11, 12, 13, 14, 82, 83, 84, 85, 86, 87, 88, 89, 90, 91, 92, 93, 94] (by decide +kernel) (by decide +kernel)
set_option maxRecDepth 20000 in
theorem gX1_takeStep_X1_emptyClause : GoodIn wsX1_takeStep (wsV RX1 120 RX1 yX1_emptyClause wsX1_emptyClause) := goodIn_app (goodIn_of _ (by decide +kernel)) ggX1_takeStep_X1_emptyClause
set_option maxRecDepth 20000 in
theorem ggX1_takeStep_X1_nextChoice : GoodIn wsX1_takeStep wsX1_nextChoice := goodIn_r _ [18, 19, 2, 10, 11, 3, 12, 13, 14, 20, 21, 22, 23, 24, 25, 26, 82, 83, 84, 85, 86, 87, 88, 89, 90, 91, 92, 93, 94] (by decide +kernel) (by decide +kernel)
set_option maxRecDepth 20000 in
theorem gX1_takeStep_X1_nextChoice : GoodIn wsX1_takeStep (wsV RX1 124 RX1 yX1_nextChoice wsX1_nextChoice) := goodIn_app (goodIn_of _ (by decide +kernel)) ggX1_takeStep_X1_nextChoice
set_option maxRecDepth 20000 in
theorem ggX1_takeStep_X3_put : GoodIn wsX1_takeStep wsX3_put := goodIn_r _ [28] (by decide +kernel) (by decide +kernel)
set_option maxRecDepth 20000 in
theorem gX1_takeStep_X3_put_n53 : GoodIn wsX1_takeStep (wsX3_put) := ggX1_takeStep_X3_put
set_option maxRecDepth 20000 in
theorem ggX1_takeStep_X1_resolveWithDone : GoodIn wsX1_takeStep wsX1_resolveWithDone := goodIn_r _ [32, 11, 10, 3, 4, 12, 13, 14, 33, 34, 35, 8, 36, 37, 38, 39, 40, 41, 42, 43, 44, 45, 46, 47, 48, 49, 50, 51, 52, 53, 54, 55, 56, 57, 58, 59, 27, 28, 60, 61, 62, 63, 64, 65, 66, 67, 68, 69, 70, 71, 72, 73, 74, 75, 76, 77, 78, 79, 80, 81, 82, 83, 84, 85, 86, 87, 88, 89, 90, 91, 92, 93, 94] (by decide +kernel) (by decide +kernel)
set_option maxRecDepth 20000 in
theorem gX1_takeStep_X1_resolveWithDone : GoodIn wsX1_takeStep (wsV RX1 128 RX1 yX1_resolveWithDone wsX1_resolveWithDone) := goodIn_app (goodIn_of _ (by decide +kernel)) ggX1_takeStep_X1_resolveWithDone
theorem dX1_takeStep_0 : decode cX1_takeStep 0 = .ok (.aload_n 0, 1) := by decide +kernel
theorem dX1_takeStep_1 : decode cX1_takeStep 1 = .ok (.invokevirtual 120, 3) := by decide +kernel
theorem dX1_takeStep_4 : decode cX1_takeStep 4 = .ok (.iconst (-1), 1) := by decide +kernel
theorem dX1_takeStep_5 : decode cX1_takeStep 5 = .ok (.if_icmp .ne 10, 3) := by decide +kernel
theorem dX1_takeStep_8 : decode cX1_takeStep 8 = .ok (.aload_n 0, 1) := by decide +kernel
theorem dX1_takeStep_9 : decode cX1_takeStep 9 = .ok (.invokevirtual 124, 3) := by decide +kernel
theorem dX1_takeStep_12 : decode cX1_takeStep 12 = .ok (.goto 4, 3) := by decide +kernel
theorem dX1_takeStep_15 : decode cX1_takeStep 15 = .ok (.iconst (-1), 1) := by decide +kernel
theorem dX1_takeStep_16 : decode cX1_takeStep 16 = .ok (.istore_n 1, 1) := by decide +kernel
theorem dX1_takeStep_17 : decode cX1_takeStep 17 = .ok (.iload_n 1, 1) := by decide +kernel
theorem dX1_takeStep_18 : decode cX1_takeStep 18 = .ok (.iconst (-1), 1) := by decide +kernel
theorem dX1_takeStep_19 : decode cX1_takeStep 19 = .ok (.if_icmp .ne 6, 3) := by decide +kernel
theorem dX1_takeStep_22 : decode cX1_takeStep 22 = .ok (.ldc 127, 2) := by decide +kernel
theorem dX1_takeStep_24 : decode cX1_takeStep 24 = .ok (.ireturn, 1) := by decide +kernel
theorem dX1_takeStep_25 : decode cX1_takeStep 25 = .ok (.aload_n 0, 1) := by decide +kernel
theorem dX1_takeStep_26 : decode cX1_takeStep 26 = .ok (.dup, 1) := by decide +kernel
theorem dX1_takeStep_27 : decode cX1_takeStep 27 = .ok (.getfield 41, 3) := by decide +kernel
theorem dX1_takeStep_30 : decode cX1_takeStep 30 = .ok (.iconst 1, 1) := by decide +kernel
theorem dX1_takeStep_31 : decode cX1_takeStep 31 = .ok (.iadd, 1) := by decide +kernel
theorem dX1_takeStep_32 : decode cX1_takeStep 32 = .ok (.putfield 41, 3) := by decide +kernel
theorem dX1_takeStep_35 : decode cX1_takeStep 35 = .ok (.aload_n 0, 1) := by decide +kernel
theorem dX1_takeStep_36 : decode cX1_takeStep 36 = .ok (.getfield 18, 3) := by decide +kernel
theorem dX1_takeStep_39 : decode cX1_takeStep 39 = .ok (.iload_n 1, 1) := by decide +kernel
theorem dX1_takeStep_40 : decode cX1_takeStep 40 = .ok (.iconst 1, 1) := by decide +kernel
theorem dX1_takeStep_41 : decode cX1_takeStep 41 = .ok (.invokestatic 53, 3) := by decide +kernel
theorem dX1_takeStep_44 : decode cX1_takeStep 44 = .ok (.aload_n 0, 1) := by decide +kernel
theorem dX1_takeStep_45 : decode cX1_takeStep 45 = .ok (.iload_n 1, 1) := by decide +kernel
theorem dX1_takeStep_46 : decode cX1_takeStep 46 = .ok (.invokevirtual 128, 3) := by decide +kernel
theorem dX1_takeStep_49 : decode cX1_takeStep 49 = .ok (.ifCond .eq 7, 3) := by decide +kernel
theorem dX1_takeStep_52 : decode cX1_takeStep 52 = .ok (.iload_n 1, 1) := by decide +kernel
theorem dX1_takeStep_53 : decode cX1_takeStep 53 = .ok (.goto 5, 3) := by decide +kernel
theorem dX1_takeStep_56 : decode cX1_takeStep 56 = .ok (.ldc 94, 2) := by decide +kernel
theorem dX1_takeStep_58 : decode cX1_takeStep 58 = .ok (.ireturn, 1) := by decide +kernel
set_option maxRecDepth 20000 in
theorem ggX1_nextChoice_X3_at : GoodIn wsX1_nextChoice wsX3_at := goodIn_r _ [8] (by decide +kernel) (by decide +kernel)
set_option maxRecDepth 20000 in
theorem gX1_nextChoice_X3_at_n65 : GoodIn wsX1_nextChoice (wsX3_at) := ggX1_nextChoice_X3_at
set_option maxRecDepth 20000 in
theorem ggX1_nextChoice_J6_bitCount_0f7a4 : GoodIn wsX1_nextChoice wsJ6_bitCount_0f7a4 := goodIn_r _ [12, 13, 14, 15] (by decide +kernel) (by decide +kernel)
set_option maxRecDepth 20000 in
theorem gX1_nextChoice_J6_bitCount_0f7a4 : GoodIn wsX1_nextChoice (va_wsS RX1 131 yJ6_bitCount_0f7a4 wsJ6_bitCount_0f7a4) := goodIn_app (goodIn_of _ (by decide +kernel)) ggX1_nextChoice_J6_bitCount_0f7a4
theorem dX1_nextChoice_0 : decode cX1_nextChoice 0 = .ok (.aload_n 0, 1) := by decide +kernel
theorem dX1_nextChoice_1 : decode cX1_nextChoice 1 = .ok (.getfield 44, 3) := by decide +kernel
theorem dX1_nextChoice_4 : decode cX1_nextChoice 4 = .ok (.ifCond .le 21, 3) := by decide +kernel
theorem dX1_nextChoice_7 : decode cX1_nextChoice 7 = .ok (.aload_n 0, 1) := by decide +kernel
theorem dX1_nextChoice_8 : decode cX1_nextChoice 8 = .ok (.getfield 41, 3) := by decide +kernel
theorem dX1_nextChoice_11 : decode cX1_nextChoice 11 = .ok (.iconst 1, 1) := by decide +kernel
theorem dX1_nextChoice_12 : decode cX1_nextChoice 12 = .ok (.iadd, 1) := by decide +kernel
theorem dX1_nextChoice_13 : decode cX1_nextChoice 13 = .ok (.aload_n 0, 1) := by decide +kernel
theorem dX1_nextChoice_14 : decode cX1_nextChoice 14 = .ok (.getfield 44, 3) := by decide +kernel
theorem dX1_nextChoice_17 : decode cX1_nextChoice 17 = .ok (.irem, 1) := by decide +kernel
theorem dX1_nextChoice_18 : decode cX1_nextChoice 18 = .ok (.ifCond .ne 7, 3) := by decide +kernel
theorem dX1_nextChoice_21 : decode cX1_nextChoice 21 = .ok (.iconst 1, 1) := by decide +kernel
theorem dX1_nextChoice_22 : decode cX1_nextChoice 22 = .ok (.goto 4, 3) := by decide +kernel
theorem dX1_nextChoice_25 : decode cX1_nextChoice 25 = .ok (.iconst 0, 1) := by decide +kernel
theorem dX1_nextChoice_26 : decode cX1_nextChoice 26 = .ok (.istore_n 1, 1) := by decide +kernel
theorem dX1_nextChoice_27 : decode cX1_nextChoice 27 = .ok (.iconst (-1), 1) := by decide +kernel
theorem dX1_nextChoice_28 : decode cX1_nextChoice 28 = .ok (.istore_n 2, 1) := by decide +kernel
theorem dX1_nextChoice_29 : decode cX1_nextChoice 29 = .ok (.bipush 7, 2) := by decide +kernel
theorem dX1_nextChoice_31 : decode cX1_nextChoice 31 = .ok (.istore_n 3, 1) := by decide +kernel
theorem dX1_nextChoice_32 : decode cX1_nextChoice 32 = .ok (.iconst 0, 1) := by decide +kernel
theorem dX1_nextChoice_33 : decode cX1_nextChoice 33 = .ok (.istore 4, 2) := by decide +kernel
theorem dX1_nextChoice_35 : decode cX1_nextChoice 35 = .ok (.iload 4, 2) := by decide +kernel
theorem dX1_nextChoice_37 : decode cX1_nextChoice 37 = .ok (.aload_n 0, 1) := by decide +kernel
theorem dX1_nextChoice_38 : decode cX1_nextChoice 38 = .ok (.getfield 37, 3) := by decide +kernel
theorem dX1_nextChoice_41 : decode cX1_nextChoice 41 = .ok (.if_icmp .ge 54, 3) := by decide +kernel
theorem dX1_nextChoice_44 : decode cX1_nextChoice 44 = .ok (.aload_n 0, 1) := by decide +kernel
theorem dX1_nextChoice_45 : decode cX1_nextChoice 45 = .ok (.getfield 15, 3) := by decide +kernel
theorem dX1_nextChoice_48 : decode cX1_nextChoice 48 = .ok (.iload 4, 2) := by decide +kernel
theorem dX1_nextChoice_50 : decode cX1_nextChoice 50 = .ok (.invokestatic 65, 3) := by decide +kernel
theorem dX1_nextChoice_53 : decode cX1_nextChoice 53 = .ok (.invokestatic 131, 3) := by decide +kernel
theorem dX1_nextChoice_56 : decode cX1_nextChoice 56 = .ok (.istore 5, 2) := by decide +kernel
theorem dX1_nextChoice_58 : decode cX1_nextChoice 58 = .ok (.aload_n 0, 1) := by decide +kernel
theorem dX1_nextChoice_59 : decode cX1_nextChoice 59 = .ok (.getfield 18, 3) := by decide +kernel
theorem dX1_nextChoice_62 : decode cX1_nextChoice 62 = .ok (.iload 4, 2) := by decide +kernel
theorem dX1_nextChoice_64 : decode cX1_nextChoice 64 = .ok (.invokestatic 65, 3) := by decide +kernel
theorem dX1_nextChoice_67 : decode cX1_nextChoice 67 = .ok (.ifCond .ne 22, 3) := by decide +kernel
theorem dX1_nextChoice_70 : decode cX1_nextChoice 70 = .ok (.iload 5, 2) := by decide +kernel
theorem dX1_nextChoice_72 : decode cX1_nextChoice 72 = .ok (.iload_n 3, 1) := by decide +kernel
theorem dX1_nextChoice_73 : decode cX1_nextChoice 73 = .ok (.if_icmp .ge 16, 3) := by decide +kernel
theorem dX1_nextChoice_76 : decode cX1_nextChoice 76 = .ok (.iload_n 1, 1) := by decide +kernel
theorem dX1_nextChoice_77 : decode cX1_nextChoice 77 = .ok (.ifCond .eq 6, 3) := by decide +kernel
theorem dX1_nextChoice_80 : decode cX1_nextChoice 80 = .ok (.iload 4, 2) := by decide +kernel
theorem dX1_nextChoice_82 : decode cX1_nextChoice 82 = .ok (.ireturn, 1) := by decide +kernel
theorem dX1_nextChoice_83 : decode cX1_nextChoice 83 = .ok (.iload 4, 2) := by decide +kernel
theorem dX1_nextChoice_85 : decode cX1_nextChoice 85 = .ok (.istore_n 2, 1) := by decide +kernel
theorem dX1_nextChoice_86 : decode cX1_nextChoice 86 = .ok (.iload 5, 2) := by decide +kernel
theorem dX1_nextChoice_88 : decode cX1_nextChoice 88 = .ok (.istore_n 3, 1) := by decide +kernel
theorem dX1_nextChoice_89 : decode cX1_nextChoice 89 = .ok (.iinc 4 1, 3) := by decide +kernel
theorem dX1_nextChoice_92 : decode cX1_nextChoice 92 = .ok (.goto (-57), 3) := by decide +kernel
theorem dX1_nextChoice_95 : decode cX1_nextChoice 95 = .ok (.iload_n 2, 1) := by decide +kernel
theorem dX1_nextChoice_96 : decode cX1_nextChoice 96 = .ok (.ireturn, 1) := by decide +kernel
set_option maxRecDepth 20000 in
theorem ggX1_resolveWithDone_X3_at : GoodIn wsX1_resolveWithDone wsX3_at := goodIn_r _ [7] (by decide +kernel) (by decide +kernel)
set_option maxRecDepth 20000 in
theorem gX1_resolveWithDone_X3_at_n65 : GoodIn wsX1_resolveWithDone (wsX3_at) := ggX1_resolveWithDone_X3_at
set_option maxRecDepth 20000 in
theorem ggX1_resolveWithDone_X1_greatestOf : GoodIn wsX1_resolveWithDone wsX1_greatestOf := goodIn_r _ [12, 13, 5, 6, 7, 60, 61, 62, 63, 64, 65, 66, 67, 68, 69, 70, 71, 72] (by decide +kernel) (by decide +kernel)
set_option maxRecDepth 20000 in
theorem gX1_resolveWithDone_X1_greatestOf : GoodIn wsX1_resolveWithDone (wsV RX1 73 RX1 yX1_greatestOf wsX1_greatestOf) := goodIn_app (goodIn_of _ (by decide +kernel)) ggX1_resolveWithDone_X1_greatestOf
set_option maxRecDepth 20000 in
theorem ggX1_resolveWithDone_X1_isDropped : GoodIn wsX1_resolveWithDone wsX1_isDropped := goodIn_r _ [17, 3, 5, 6, 7, 60, 61, 62, 63, 64, 65, 66, 67, 68, 69, 70, 71, 72] (by decide +kernel) (by decide +kernel)
set_option maxRecDepth 20000 in
theorem gX1_resolveWithDone_X1_isDropped : GoodIn wsX1_resolveWithDone (wsV RX1 80 RX1 yX1_isDropped wsX1_isDropped) := goodIn_app (goodIn_of _ (by decide +kernel)) ggX1_resolveWithDone_X1_isDropped
set_option maxRecDepth 20000 in
theorem ggX1_resolveWithDone_X1_bring : GoodIn wsX1_resolveWithDone wsX1_bring := goodIn_r _ [21, 22, 23, 2, 4, 24, 6, 25, 26, 27, 28, 11, 29, 1, 14, 15, 16, 17, 3, 5, 7, 30, 31, 32, 33, 34, 35, 36, 37, 38, 39, 40, 41, 42, 43, 44, 45, 46, 47, 48, 49, 50, 51, 52, 53, 54, 55, 56, 57, 58, 59, 60, 61, 62, 63, 64, 65, 66, 67, 68, 69, 70, 71, 72] (by decide +kernel) (by decide +kernel)
set_option maxRecDepth 20000 in
theorem gX1_resolveWithDone_X1_bring : GoodIn wsX1_resolveWithDone (wsV RX1 136 RX1 yX1_bring wsX1_bring) := goodIn_app (goodIn_of _ (by decide +kernel)) ggX1_resolveWithDone_X1_bring
theorem dX1_resolveWithDone_0 : decode cX1_resolveWithDone 0 = .ok (.aload_n 0, 1) := by decide +kernel
theorem dX1_resolveWithDone_1 : decode cX1_resolveWithDone 1 = .ok (.aload_n 0, 1) := by decide +kernel
theorem dX1_resolveWithDone_2 : decode cX1_resolveWithDone 2 = .ok (.getfield 15, 3) := by decide +kernel
theorem dX1_resolveWithDone_5 : decode cX1_resolveWithDone 5 = .ok (.iload_n 1, 1) := by decide +kernel
theorem dX1_resolveWithDone_6 : decode cX1_resolveWithDone 6 = .ok (.invokestatic 65, 3) := by decide +kernel
theorem dX1_resolveWithDone_9 : decode cX1_resolveWithDone 9 = .ok (.invokevirtual 73, 3) := by decide +kernel
theorem dX1_resolveWithDone_12 : decode cX1_resolveWithDone 12 = .ok (.istore_n 2, 1) := by decide +kernel
theorem dX1_resolveWithDone_13 : decode cX1_resolveWithDone 13 = .ok (.iload_n 2, 1) := by decide +kernel
theorem dX1_resolveWithDone_14 : decode cX1_resolveWithDone 14 = .ok (.iconst 1, 1) := by decide +kernel
theorem dX1_resolveWithDone_15 : decode cX1_resolveWithDone 15 = .ok (.ixor, 1) := by decide +kernel
theorem dX1_resolveWithDone_16 : decode cX1_resolveWithDone 16 = .ok (.istore_n 3, 1) := by decide +kernel
theorem dX1_resolveWithDone_17 : decode cX1_resolveWithDone 17 = .ok (.iload_n 2, 1) := by decide +kernel
theorem dX1_resolveWithDone_18 : decode cX1_resolveWithDone 18 = .ok (.iload_n 3, 1) := by decide +kernel
theorem dX1_resolveWithDone_19 : decode cX1_resolveWithDone 19 = .ok (.if_icmp .ge 7, 3) := by decide +kernel
theorem dX1_resolveWithDone_22 : decode cX1_resolveWithDone 22 = .ok (.iconst 1, 1) := by decide +kernel
theorem dX1_resolveWithDone_23 : decode cX1_resolveWithDone 23 = .ok (.goto 4, 3) := by decide +kernel
theorem dX1_resolveWithDone_26 : decode cX1_resolveWithDone 26 = .ok (.iconst 0, 1) := by decide +kernel
theorem dX1_resolveWithDone_27 : decode cX1_resolveWithDone 27 = .ok (.istore 4, 2) := by decide +kernel
theorem dX1_resolveWithDone_29 : decode cX1_resolveWithDone 29 = .ok (.iconst 1, 1) := by decide +kernel
theorem dX1_resolveWithDone_30 : decode cX1_resolveWithDone 30 = .ok (.iload_n 2, 1) := by decide +kernel
theorem dX1_resolveWithDone_31 : decode cX1_resolveWithDone 31 = .ok (.ishl, 1) := by decide +kernel
theorem dX1_resolveWithDone_32 : decode cX1_resolveWithDone 32 = .ok (.iconst 1, 1) := by decide +kernel
theorem dX1_resolveWithDone_33 : decode cX1_resolveWithDone 33 = .ok (.iload_n 3, 1) := by decide +kernel
theorem dX1_resolveWithDone_34 : decode cX1_resolveWithDone 34 = .ok (.ishl, 1) := by decide +kernel
theorem dX1_resolveWithDone_35 : decode cX1_resolveWithDone 35 = .ok (.ior, 1) := by decide +kernel
theorem dX1_resolveWithDone_36 : decode cX1_resolveWithDone 36 = .ok (.istore 5, 2) := by decide +kernel
theorem dX1_resolveWithDone_38 : decode cX1_resolveWithDone 38 = .ok (.aload_n 0, 1) := by decide +kernel
theorem dX1_resolveWithDone_39 : decode cX1_resolveWithDone 39 = .ok (.getfield 37, 3) := by decide +kernel
theorem dX1_resolveWithDone_42 : decode cX1_resolveWithDone 42 = .ok (.istore 6, 2) := by decide +kernel
theorem dX1_resolveWithDone_44 : decode cX1_resolveWithDone 44 = .ok (.iconst 0, 1) := by decide +kernel
theorem dX1_resolveWithDone_45 : decode cX1_resolveWithDone 45 = .ok (.istore 7, 2) := by decide +kernel
theorem dX1_resolveWithDone_47 : decode cX1_resolveWithDone 47 = .ok (.iload 7, 2) := by decide +kernel
theorem dX1_resolveWithDone_49 : decode cX1_resolveWithDone 49 = .ok (.iload 6, 2) := by decide +kernel
theorem dX1_resolveWithDone_51 : decode cX1_resolveWithDone 51 = .ok (.if_icmp .ge 114, 3) := by decide +kernel
theorem dX1_resolveWithDone_54 : decode cX1_resolveWithDone 54 = .ok (.aload_n 0, 1) := by decide +kernel
end
section
theorem dX1_resolveWithDone_55 : decode cX1_resolveWithDone 55 = .ok (.iload_n 1, 1) := by decide +kernel
theorem dX1_resolveWithDone_56 : decode cX1_resolveWithDone 56 = .ok (.invokevirtual 80, 3) := by decide +kernel
theorem dX1_resolveWithDone_59 : decode cX1_resolveWithDone 59 = .ok (.ifCond .ne 106, 3) := by decide +kernel
theorem dX1_resolveWithDone_62 : decode cX1_resolveWithDone 62 = .ok (.aload_n 0, 1) := by decide +kernel
theorem dX1_resolveWithDone_63 : decode cX1_resolveWithDone 63 = .ok (.getfield 18, 3) := by decide +kernel
theorem dX1_resolveWithDone_66 : decode cX1_resolveWithDone 66 = .ok (.iload 7, 2) := by decide +kernel
theorem dX1_resolveWithDone_68 : decode cX1_resolveWithDone 68 = .ok (.invokestatic 65, 3) := by decide +kernel
theorem dX1_resolveWithDone_71 : decode cX1_resolveWithDone 71 = .ok (.iconst 1, 1) := by decide +kernel
theorem dX1_resolveWithDone_72 : decode cX1_resolveWithDone 72 = .ok (.if_icmp .ne 87, 3) := by decide +kernel
theorem dX1_resolveWithDone_75 : decode cX1_resolveWithDone 75 = .ok (.aload_n 0, 1) := by decide +kernel
theorem dX1_resolveWithDone_76 : decode cX1_resolveWithDone 76 = .ok (.aload_n 0, 1) := by decide +kernel
theorem dX1_resolveWithDone_77 : decode cX1_resolveWithDone 77 = .ok (.getfield 15, 3) := by decide +kernel
theorem dX1_resolveWithDone_80 : decode cX1_resolveWithDone 80 = .ok (.iload 7, 2) := by decide +kernel
theorem dX1_resolveWithDone_82 : decode cX1_resolveWithDone 82 = .ok (.invokestatic 65, 3) := by decide +kernel
theorem dX1_resolveWithDone_85 : decode cX1_resolveWithDone 85 = .ok (.invokevirtual 73, 3) := by decide +kernel
theorem dX1_resolveWithDone_88 : decode cX1_resolveWithDone 88 = .ok (.iload_n 3, 1) := by decide +kernel
theorem dX1_resolveWithDone_89 : decode cX1_resolveWithDone 89 = .ok (.if_icmp .ne 70, 3) := by decide +kernel
theorem dX1_resolveWithDone_92 : decode cX1_resolveWithDone 92 = .ok (.aload_n 0, 1) := by decide +kernel
theorem dX1_resolveWithDone_93 : decode cX1_resolveWithDone 93 = .ok (.getfield 15, 3) := by decide +kernel
theorem dX1_resolveWithDone_96 : decode cX1_resolveWithDone 96 = .ok (.iload_n 1, 1) := by decide +kernel
theorem dX1_resolveWithDone_97 : decode cX1_resolveWithDone 97 = .ok (.invokestatic 65, 3) := by decide +kernel
theorem dX1_resolveWithDone_100 : decode cX1_resolveWithDone 100 = .ok (.aload_n 0, 1) := by decide +kernel
theorem dX1_resolveWithDone_101 : decode cX1_resolveWithDone 101 = .ok (.getfield 15, 3) := by decide +kernel
theorem dX1_resolveWithDone_104 : decode cX1_resolveWithDone 104 = .ok (.iload 7, 2) := by decide +kernel
theorem dX1_resolveWithDone_106 : decode cX1_resolveWithDone 106 = .ok (.invokestatic 65, 3) := by decide +kernel
theorem dX1_resolveWithDone_109 : decode cX1_resolveWithDone 109 = .ok (.ior, 1) := by decide +kernel
theorem dX1_resolveWithDone_110 : decode cX1_resolveWithDone 110 = .ok (.iload 5, 2) := by decide +kernel
theorem dX1_resolveWithDone_112 : decode cX1_resolveWithDone 112 = .ok (.iconst (-1), 1) := by decide +kernel
theorem dX1_resolveWithDone_113 : decode cX1_resolveWithDone 113 = .ok (.ixor, 1) := by decide +kernel
theorem dX1_resolveWithDone_114 : decode cX1_resolveWithDone 114 = .ok (.iand, 1) := by decide +kernel
theorem dX1_resolveWithDone_115 : decode cX1_resolveWithDone 115 = .ok (.istore 8, 2) := by decide +kernel
theorem dX1_resolveWithDone_117 : decode cX1_resolveWithDone 117 = .ok (.aload_n 0, 1) := by decide +kernel
theorem dX1_resolveWithDone_118 : decode cX1_resolveWithDone 118 = .ok (.iload 8, 2) := by decide +kernel
theorem dX1_resolveWithDone_120 : decode cX1_resolveWithDone 120 = .ok (.iload 4, 2) := by decide +kernel
theorem dX1_resolveWithDone_122 : decode cX1_resolveWithDone 122 = .ok (.ifCond .eq 7, 3) := by decide +kernel
theorem dX1_resolveWithDone_125 : decode cX1_resolveWithDone 125 = .ok (.iload_n 1, 1) := by decide +kernel
theorem dX1_resolveWithDone_126 : decode cX1_resolveWithDone 126 = .ok (.goto 5, 3) := by decide +kernel
theorem dX1_resolveWithDone_129 : decode cX1_resolveWithDone 129 = .ok (.iload 7, 2) := by decide +kernel
theorem dX1_resolveWithDone_131 : decode cX1_resolveWithDone 131 = .ok (.iload 4, 2) := by decide +kernel
theorem dX1_resolveWithDone_133 : decode cX1_resolveWithDone 133 = .ok (.ifCond .eq 8, 3) := by decide +kernel
theorem dX1_resolveWithDone_136 : decode cX1_resolveWithDone 136 = .ok (.iload 7, 2) := by decide +kernel
theorem dX1_resolveWithDone_138 : decode cX1_resolveWithDone 138 = .ok (.goto 4, 3) := by decide +kernel
theorem dX1_resolveWithDone_141 : decode cX1_resolveWithDone 141 = .ok (.iload_n 1, 1) := by decide +kernel
theorem dX1_resolveWithDone_142 : decode cX1_resolveWithDone 142 = .ok (.iload_n 2, 1) := by decide +kernel
theorem dX1_resolveWithDone_143 : decode cX1_resolveWithDone 143 = .ok (.iconst 1, 1) := by decide +kernel
theorem dX1_resolveWithDone_144 : decode cX1_resolveWithDone 144 = .ok (.ishr, 1) := by decide +kernel
theorem dX1_resolveWithDone_145 : decode cX1_resolveWithDone 145 = .ok (.invokevirtual 136, 3) := by decide +kernel
theorem dX1_resolveWithDone_148 : decode cX1_resolveWithDone 148 = .ok (.istore 9, 2) := by decide +kernel
theorem dX1_resolveWithDone_150 : decode cX1_resolveWithDone 150 = .ok (.iload 9, 2) := by decide +kernel
theorem dX1_resolveWithDone_152 : decode cX1_resolveWithDone 152 = .ok (.ldc 94, 2) := by decide +kernel
theorem dX1_resolveWithDone_154 : decode cX1_resolveWithDone 154 = .ok (.if_icmp .ne 5, 3) := by decide +kernel
theorem dX1_resolveWithDone_157 : decode cX1_resolveWithDone 157 = .ok (.iconst 0, 1) := by decide +kernel
theorem dX1_resolveWithDone_158 : decode cX1_resolveWithDone 158 = .ok (.ireturn, 1) := by decide +kernel
theorem dX1_resolveWithDone_159 : decode cX1_resolveWithDone 159 = .ok (.iinc 7 1, 3) := by decide +kernel
theorem dX1_resolveWithDone_162 : decode cX1_resolveWithDone 162 = .ok (.goto (-115), 3) := by decide +kernel
theorem dX1_resolveWithDone_165 : decode cX1_resolveWithDone 165 = .ok (.iconst 1, 1) := by decide +kernel
theorem dX1_resolveWithDone_166 : decode cX1_resolveWithDone 166 = .ok (.ireturn, 1) := by decide +kernel
set_option maxRecDepth 20000 in
theorem ggX1_treeOf_X3_setOf : GoodIn wsX1_treeOf wsX3_setOf := goodIn_r _ [5] (by decide +kernel) (by decide +kernel)
set_option maxRecDepth 20000 in
theorem gX1_treeOf_X3_setOf_n139 : GoodIn wsX1_treeOf (wsX3_setOf) := ggX1_treeOf_X3_setOf
set_option maxRecDepth 20000 in
theorem ggX1_treeOf_X3_isIn : GoodIn wsX1_treeOf wsX3_isIn := goodIn_r _ [7] (by decide +kernel) (by decide +kernel)
set_option maxRecDepth 20000 in
theorem gX1_treeOf_X3_isIn_n76 : GoodIn wsX1_treeOf (wsX3_isIn) := ggX1_treeOf_X3_isIn
set_option maxRecDepth 20000 in
theorem ggX1_treeOf_X3_at : GoodIn wsX1_treeOf wsX3_at := goodIn_r _ [9] (by decide +kernel) (by decide +kernel)
set_option maxRecDepth 20000 in
theorem gX1_treeOf_X3_at_n65 : GoodIn wsX1_treeOf (wsX3_at) := ggX1_treeOf_X3_at
theorem dX1_treeOf_0 : decode cX1_treeOf 0 = .ok (.iload_n 1, 1) := by decide +kernel
theorem dX1_treeOf_1 : decode cX1_treeOf 1 = .ok (.invokestatic 139, 3) := by decide +kernel
theorem dX1_treeOf_4 : decode cX1_treeOf 4 = .ok (.lstore_n 2, 1) := by decide +kernel
theorem dX1_treeOf_5 : decode cX1_treeOf 5 = .ok (.iload_n 1, 1) := by decide +kernel
theorem dX1_treeOf_6 : decode cX1_treeOf 6 = .ok (.istore 4, 2) := by decide +kernel
theorem dX1_treeOf_8 : decode cX1_treeOf 8 = .ok (.iload 4, 2) := by decide +kernel
theorem dX1_treeOf_10 : decode cX1_treeOf 10 = .ok (.ifCond .lt 46, 3) := by decide +kernel
theorem dX1_treeOf_13 : decode cX1_treeOf 13 = .ok (.lload_n 2, 1) := by decide +kernel
theorem dX1_treeOf_14 : decode cX1_treeOf 14 = .ok (.iload 4, 2) := by decide +kernel
theorem dX1_treeOf_16 : decode cX1_treeOf 16 = .ok (.invokestatic 76, 3) := by decide +kernel
theorem dX1_treeOf_19 : decode cX1_treeOf 19 = .ok (.ifCond .eq 31, 3) := by decide +kernel
theorem dX1_treeOf_22 : decode cX1_treeOf 22 = .ok (.lload_n 2, 1) := by decide +kernel
theorem dX1_treeOf_23 : decode cX1_treeOf 23 = .ok (.aload_n 0, 1) := by decide +kernel
theorem dX1_treeOf_24 : decode cX1_treeOf 24 = .ok (.getfield 21, 3) := by decide +kernel
theorem dX1_treeOf_27 : decode cX1_treeOf 27 = .ok (.iload 4, 2) := by decide +kernel
theorem dX1_treeOf_29 : decode cX1_treeOf 29 = .ok (.invokestatic 65, 3) := by decide +kernel
theorem dX1_treeOf_32 : decode cX1_treeOf 32 = .ok (.invokestatic 139, 3) := by decide +kernel
theorem dX1_treeOf_35 : decode cX1_treeOf 35 = .ok (.aload_n 0, 1) := by decide +kernel
theorem dX1_treeOf_36 : decode cX1_treeOf 36 = .ok (.getfield 24, 3) := by decide +kernel
theorem dX1_treeOf_39 : decode cX1_treeOf 39 = .ok (.iload 4, 2) := by decide +kernel
theorem dX1_treeOf_41 : decode cX1_treeOf 41 = .ok (.invokestatic 65, 3) := by decide +kernel
theorem dX1_treeOf_44 : decode cX1_treeOf 44 = .ok (.invokestatic 139, 3) := by decide +kernel
theorem dX1_treeOf_47 : decode cX1_treeOf 47 = .ok (.lor, 1) := by decide +kernel
theorem dX1_treeOf_48 : decode cX1_treeOf 48 = .ok (.lor, 1) := by decide +kernel
theorem dX1_treeOf_49 : decode cX1_treeOf 49 = .ok (.lstore_n 2, 1) := by decide +kernel
theorem dX1_treeOf_50 : decode cX1_treeOf 50 = .ok (.iinc 4 (-1), 3) := by decide +kernel
theorem dX1_treeOf_53 : decode cX1_treeOf 53 = .ok (.goto (-45), 3) := by decide +kernel
theorem dX1_treeOf_56 : decode cX1_treeOf 56 = .ok (.lload_n 2, 1) := by decide +kernel
theorem dX1_treeOf_57 : decode cX1_treeOf 57 = .ok (.lreturn, 1) := by decide +kernel
set_option maxRecDepth 20000 in
theorem ggX1_toldClauses_X1_wasTold : GoodIn wsX1_toldClauses wsX1_wasTold := goodIn_r _ [6, 7, 8, 9, 10, 13, 14, 15, 16, 17, 18, 19, 20, 21, 22, 23, 24, 25] (by decide +kernel) (by decide +kernel)
set_option maxRecDepth 20000 in
theorem gX1_toldClauses_X1_wasTold : GoodIn wsX1_toldClauses (wsV RX1 142 RX1 yX1_wasTold wsX1_wasTold) := goodIn_app (goodIn_of _ (by decide +kernel)) ggX1_toldClauses_X1_wasTold
set_option maxRecDepth 20000 in
theorem ggX1_toldClauses_X3_setOf : GoodIn wsX1_toldClauses wsX3_setOf := goodIn_r _ [12] (by decide +kernel) (by decide +kernel)
set_option maxRecDepth 20000 in
theorem gX1_toldClauses_X3_setOf_n139 : GoodIn wsX1_toldClauses (wsX3_setOf) := ggX1_toldClauses_X3_setOf
theorem dX1_toldClauses_0 : decode cX1_toldClauses 0 = .ok (.lconst 0, 1) := by decide +kernel
theorem dX1_toldClauses_1 : decode cX1_toldClauses 1 = .ok (.lstore_n 1, 1) := by decide +kernel
theorem dX1_toldClauses_2 : decode cX1_toldClauses 2 = .ok (.iconst 0, 1) := by decide +kernel
theorem dX1_toldClauses_3 : decode cX1_toldClauses 3 = .ok (.istore_n 3, 1) := by decide +kernel
theorem dX1_toldClauses_4 : decode cX1_toldClauses 4 = .ok (.iload_n 3, 1) := by decide +kernel
theorem dX1_toldClauses_5 : decode cX1_toldClauses 5 = .ok (.aload_n 0, 1) := by decide +kernel
theorem dX1_toldClauses_6 : decode cX1_toldClauses 6 = .ok (.getfield 37, 3) := by decide +kernel
theorem dX1_toldClauses_9 : decode cX1_toldClauses 9 = .ok (.if_icmp .ge 28, 3) := by decide +kernel
theorem dX1_toldClauses_12 : decode cX1_toldClauses 12 = .ok (.lload_n 1, 1) := by decide +kernel
theorem dX1_toldClauses_13 : decode cX1_toldClauses 13 = .ok (.aload_n 0, 1) := by decide +kernel
theorem dX1_toldClauses_14 : decode cX1_toldClauses 14 = .ok (.iload_n 3, 1) := by decide +kernel
theorem dX1_toldClauses_15 : decode cX1_toldClauses 15 = .ok (.invokevirtual 142, 3) := by decide +kernel
theorem dX1_toldClauses_18 : decode cX1_toldClauses 18 = .ok (.ifCond .eq 10, 3) := by decide +kernel
theorem dX1_toldClauses_21 : decode cX1_toldClauses 21 = .ok (.iload_n 3, 1) := by decide +kernel
theorem dX1_toldClauses_22 : decode cX1_toldClauses 22 = .ok (.invokestatic 139, 3) := by decide +kernel
theorem dX1_toldClauses_25 : decode cX1_toldClauses 25 = .ok (.goto 4, 3) := by decide +kernel
theorem dX1_toldClauses_28 : decode cX1_toldClauses 28 = .ok (.lconst 0, 1) := by decide +kernel
theorem dX1_toldClauses_29 : decode cX1_toldClauses 29 = .ok (.lor, 1) := by decide +kernel
theorem dX1_toldClauses_30 : decode cX1_toldClauses 30 = .ok (.lstore_n 1, 1) := by decide +kernel
theorem dX1_toldClauses_31 : decode cX1_toldClauses 31 = .ok (.iinc 3 1, 3) := by decide +kernel
theorem dX1_toldClauses_34 : decode cX1_toldClauses 34 = .ok (.goto (-30), 3) := by decide +kernel
theorem dX1_toldClauses_37 : decode cX1_toldClauses 37 = .ok (.lload_n 1, 1) := by decide +kernel
theorem dX1_toldClauses_38 : decode cX1_toldClauses 38 = .ok (.lreturn, 1) := by decide +kernel
set_option maxRecDepth 20000 in
theorem ggX1_valuesFulfilling_X3_isIn : GoodIn wsX1_valuesFulfilling wsX3_isIn := goodIn_r _ [6] (by decide +kernel) (by decide +kernel)
set_option maxRecDepth 20000 in
theorem gX1_valuesFulfilling_X3_isIn_n76 : GoodIn wsX1_valuesFulfilling (wsX3_isIn) := ggX1_valuesFulfilling_X3_isIn
set_option maxRecDepth 20000 in
theorem ggX1_valuesFulfilling_X3_longAt : GoodIn wsX1_valuesFulfilling wsX3_longAt := goodIn_r _ [8] (by decide +kernel) (by decide +kernel)
set_option maxRecDepth 20000 in
theorem gX1_valuesFulfilling_X3_longAt_n147 : GoodIn wsX1_valuesFulfilling (wsX3_longAt) := ggX1_valuesFulfilling_X3_longAt
theorem dX1_valuesFulfilling_0 : decode cX1_valuesFulfilling 0 = .ok (.ldc2_w 145, 3) := by decide +kernel
theorem dX1_valuesFulfilling_3 : decode cX1_valuesFulfilling 3 = .ok (.lstore_n 3, 1) := by decide +kernel
theorem dX1_valuesFulfilling_4 : decode cX1_valuesFulfilling 4 = .ok (.iconst 0, 1) := by decide +kernel
theorem dX1_valuesFulfilling_5 : decode cX1_valuesFulfilling 5 = .ok (.istore 5, 2) := by decide +kernel
theorem dX1_valuesFulfilling_7 : decode cX1_valuesFulfilling 7 = .ok (.iload 5, 2) := by decide +kernel
theorem dX1_valuesFulfilling_9 : decode cX1_valuesFulfilling 9 = .ok (.aload_n 0, 1) := by decide +kernel
theorem dX1_valuesFulfilling_10 : decode cX1_valuesFulfilling 10 = .ok (.getfield 37, 3) := by decide +kernel
theorem dX1_valuesFulfilling_13 : decode cX1_valuesFulfilling 13 = .ok (.if_icmp .ge 36, 3) := by decide +kernel
theorem dX1_valuesFulfilling_16 : decode cX1_valuesFulfilling 16 = .ok (.lload_n 3, 1) := by decide +kernel
theorem dX1_valuesFulfilling_17 : decode cX1_valuesFulfilling 17 = .ok (.lconst 0, 1) := by decide +kernel
theorem dX1_valuesFulfilling_18 : decode cX1_valuesFulfilling 18 = .ok (.lcmp, 1) := by decide +kernel
theorem dX1_valuesFulfilling_19 : decode cX1_valuesFulfilling 19 = .ok (.ifCond .eq 30, 3) := by decide +kernel
theorem dX1_valuesFulfilling_22 : decode cX1_valuesFulfilling 22 = .ok (.lload_n 1, 1) := by decide +kernel
theorem dX1_valuesFulfilling_23 : decode cX1_valuesFulfilling 23 = .ok (.iload 5, 2) := by decide +kernel
theorem dX1_valuesFulfilling_25 : decode cX1_valuesFulfilling 25 = .ok (.invokestatic 76, 3) := by decide +kernel
theorem dX1_valuesFulfilling_28 : decode cX1_valuesFulfilling 28 = .ok (.ifCond .eq 15, 3) := by decide +kernel
theorem dX1_valuesFulfilling_31 : decode cX1_valuesFulfilling 31 = .ok (.lload_n 3, 1) := by decide +kernel
theorem dX1_valuesFulfilling_32 : decode cX1_valuesFulfilling 32 = .ok (.aload_n 0, 1) := by decide +kernel
theorem dX1_valuesFulfilling_33 : decode cX1_valuesFulfilling 33 = .ok (.getfield 33, 3) := by decide +kernel
theorem dX1_valuesFulfilling_36 : decode cX1_valuesFulfilling 36 = .ok (.iload 5, 2) := by decide +kernel
theorem dX1_valuesFulfilling_38 : decode cX1_valuesFulfilling 38 = .ok (.invokestatic 147, 3) := by decide +kernel
theorem dX1_valuesFulfilling_41 : decode cX1_valuesFulfilling 41 = .ok (.land, 1) := by decide +kernel
theorem dX1_valuesFulfilling_42 : decode cX1_valuesFulfilling 42 = .ok (.lstore_n 3, 1) := by decide +kernel
theorem dX1_valuesFulfilling_43 : decode cX1_valuesFulfilling 43 = .ok (.iinc 5 1, 3) := by decide +kernel
theorem dX1_valuesFulfilling_46 : decode cX1_valuesFulfilling 46 = .ok (.goto (-39), 3) := by decide +kernel
theorem dX1_valuesFulfilling_49 : decode cX1_valuesFulfilling 49 = .ok (.lload_n 3, 1) := by decide +kernel
theorem dX1_valuesFulfilling_50 : decode cX1_valuesFulfilling 50 = .ok (.lreturn, 1) := by decide +kernel
set_option maxRecDepth 20000 in
theorem ggX1_fewestUnfulfillable_X3_setOf : GoodIn wsX1_fewestUnfulfillable wsX3_setOf := goodIn_r _ [5] (by decide +kernel) (by decide +kernel)
set_option maxRecDepth 20000 in
theorem gX1_fewestUnfulfillable_X3_setOf_n139 : GoodIn wsX1_fewestUnfulfillable (wsX3_setOf) := ggX1_fewestUnfulfillable_X3_setOf
set_option maxRecDepth 20000 in
theorem ggX1_fewestUnfulfillable_X1_valuesFulfilling : GoodIn wsX1_fewestUnfulfillable wsX1_valuesFulfilling := goodIn_r _ [10, 2, 1, 11, 12, 4, 13, 14, 15, 16, 17, 18, 19, 20, 21, 22, 23, 24, 25, 26, 27, 28] (by decide +kernel) (by decide +kernel)
set_option maxRecDepth 20000 in
theorem gX1_fewestUnfulfillable_X1_valuesFulfilling : GoodIn wsX1_fewestUnfulfillable (wsV RX1 151 RX1 yX1_valuesFulfilling wsX1_valuesFulfilling) := goodIn_app (goodIn_of _ (by decide +kernel)) ggX1_fewestUnfulfillable_X1_valuesFulfilling
theorem dX1_fewestUnfulfillable_0 : decode cX1_fewestUnfulfillable 0 = .ok (.lload_n 1, 1) := by decide +kernel
theorem dX1_fewestUnfulfillable_1 : decode cX1_fewestUnfulfillable 1 = .ok (.lstore_n 3, 1) := by decide +kernel
theorem dX1_fewestUnfulfillable_2 : decode cX1_fewestUnfulfillable 2 = .ok (.iconst 0, 1) := by decide +kernel
theorem dX1_fewestUnfulfillable_3 : decode cX1_fewestUnfulfillable 3 = .ok (.istore 5, 2) := by decide +kernel
theorem dX1_fewestUnfulfillable_5 : decode cX1_fewestUnfulfillable 5 = .ok (.iload 5, 2) := by decide +kernel
theorem dX1_fewestUnfulfillable_7 : decode cX1_fewestUnfulfillable 7 = .ok (.aload_n 0, 1) := by decide +kernel
theorem dX1_fewestUnfulfillable_8 : decode cX1_fewestUnfulfillable 8 = .ok (.getfield 37, 3) := by decide +kernel
theorem dX1_fewestUnfulfillable_11 : decode cX1_fewestUnfulfillable 11 = .ok (.if_icmp .ge 36, 3) := by decide +kernel
theorem dX1_fewestUnfulfillable_14 : decode cX1_fewestUnfulfillable 14 = .ok (.lload_n 3, 1) := by decide +kernel
theorem dX1_fewestUnfulfillable_15 : decode cX1_fewestUnfulfillable 15 = .ok (.iload 5, 2) := by decide +kernel
theorem dX1_fewestUnfulfillable_17 : decode cX1_fewestUnfulfillable 17 = .ok (.invokestatic 139, 3) := by decide +kernel
theorem dX1_fewestUnfulfillable_20 : decode cX1_fewestUnfulfillable 20 = .ok (.ldc2_w 145, 3) := by decide +kernel
theorem dX1_fewestUnfulfillable_23 : decode cX1_fewestUnfulfillable 23 = .ok (.lxor, 1) := by decide +kernel
theorem dX1_fewestUnfulfillable_24 : decode cX1_fewestUnfulfillable 24 = .ok (.land, 1) := by decide +kernel
theorem dX1_fewestUnfulfillable_25 : decode cX1_fewestUnfulfillable 25 = .ok (.lstore 6, 2) := by decide +kernel
theorem dX1_fewestUnfulfillable_27 : decode cX1_fewestUnfulfillable 27 = .ok (.aload_n 0, 1) := by decide +kernel
theorem dX1_fewestUnfulfillable_28 : decode cX1_fewestUnfulfillable 28 = .ok (.lload 6, 2) := by decide +kernel
theorem dX1_fewestUnfulfillable_30 : decode cX1_fewestUnfulfillable 30 = .ok (.invokevirtual 151, 3) := by decide +kernel
theorem dX1_fewestUnfulfillable_33 : decode cX1_fewestUnfulfillable 33 = .ok (.lconst 0, 1) := by decide +kernel
theorem dX1_fewestUnfulfillable_34 : decode cX1_fewestUnfulfillable 34 = .ok (.lcmp, 1) := by decide +kernel
theorem dX1_fewestUnfulfillable_35 : decode cX1_fewestUnfulfillable 35 = .ok (.ifCond .ne 6, 3) := by decide +kernel
theorem dX1_fewestUnfulfillable_38 : decode cX1_fewestUnfulfillable 38 = .ok (.lload 6, 2) := by decide +kernel
theorem dX1_fewestUnfulfillable_40 : decode cX1_fewestUnfulfillable 40 = .ok (.lstore_n 3, 1) := by decide +kernel
theorem dX1_fewestUnfulfillable_41 : decode cX1_fewestUnfulfillable 41 = .ok (.iinc 5 1, 3) := by decide +kernel
theorem dX1_fewestUnfulfillable_44 : decode cX1_fewestUnfulfillable 44 = .ok (.goto (-39), 3) := by decide +kernel
theorem dX1_fewestUnfulfillable_47 : decode cX1_fewestUnfulfillable 47 = .ok (.lload_n 3, 1) := by decide +kernel
theorem dX1_fewestUnfulfillable_48 : decode cX1_fewestUnfulfillable 48 = .ok (.lreturn, 1) := by decide +kernel
theorem dX2_init_0 : decode cX2_init 0 = .ok (.aload_n 0, 1) := by decide +kernel
theorem dX2_init_1 : decode cX2_init 1 = .ok (.invokespecial 3, 3) := by decide +kernel
theorem dX2_init_4 : decode cX2_init 4 = .ok (.aload_n 0, 1) := by decide +kernel
theorem dX2_init_5 : decode cX2_init 5 = .ok (.bipush 60, 2) := by decide +kernel
theorem dX2_init_7 : decode cX2_init 7 = .ok (.newarray .int, 2) := by decide +kernel
theorem dX2_init_9 : decode cX2_init 9 = .ok (.putfield 9, 3) := by decide +kernel
theorem dX2_init_12 : decode cX2_init 12 = .ok (.aload_n 0, 1) := by decide +kernel
theorem dX2_init_13 : decode cX2_init 13 = .ok (.iconst 0, 1) := by decide +kernel
theorem dX2_init_14 : decode cX2_init 14 = .ok (.putfield 15, 3) := by decide +kernel
theorem dX2_init_17 : decode cX2_init 17 = .ok (.return_, 1) := by decide +kernel
set_option maxRecDepth 20000 in
theorem ggX2_add_X3_put : GoodIn wsX2_add wsX3_put := goodIn_r _ [5] (by decide +kernel) (by decide +kernel)
set_option maxRecDepth 20000 in
theorem gX2_add_X3_put_n19 : GoodIn wsX2_add (wsX3_put) := ggX2_add_X3_put
theorem dX2_add_0 : decode cX2_add 0 = .ok (.aload_n 0, 1) := by decide +kernel
theorem dX2_add_1 : decode cX2_add 1 = .ok (.getfield 15, 3) := by decide +kernel
theorem dX2_add_4 : decode cX2_add 4 = .ok (.bipush 60, 2) := by decide +kernel
theorem dX2_add_6 : decode cX2_add 6 = .ok (.if_icmp .lt 5, 3) := by decide +kernel
theorem dX2_add_9 : decode cX2_add 9 = .ok (.iconst 0, 1) := by decide +kernel
theorem dX2_add_10 : decode cX2_add 10 = .ok (.ireturn, 1) := by decide +kernel
theorem dX2_add_11 : decode cX2_add 11 = .ok (.aload_n 0, 1) := by decide +kernel
theorem dX2_add_12 : decode cX2_add 12 = .ok (.getfield 9, 3) := by decide +kernel
theorem dX2_add_15 : decode cX2_add 15 = .ok (.aload_n 0, 1) := by decide +kernel
theorem dX2_add_16 : decode cX2_add 16 = .ok (.getfield 15, 3) := by decide +kernel
theorem dX2_add_19 : decode cX2_add 19 = .ok (.iload_n 1, 1) := by decide +kernel
theorem dX2_add_20 : decode cX2_add 20 = .ok (.invokestatic 19, 3) := by decide +kernel
theorem dX2_add_23 : decode cX2_add 23 = .ok (.aload_n 0, 1) := by decide +kernel
theorem dX2_add_24 : decode cX2_add 24 = .ok (.dup, 1) := by decide +kernel
theorem dX2_add_25 : decode cX2_add 25 = .ok (.getfield 15, 3) := by decide +kernel
theorem dX2_add_28 : decode cX2_add 28 = .ok (.iconst 1, 1) := by decide +kernel
theorem dX2_add_29 : decode cX2_add 29 = .ok (.iadd, 1) := by decide +kernel
theorem dX2_add_30 : decode cX2_add 30 = .ok (.putfield 15, 3) := by decide +kernel
theorem dX2_add_33 : decode cX2_add 33 = .ok (.iconst 1, 1) := by decide +kernel
theorem dX2_add_34 : decode cX2_add 34 = .ok (.ireturn, 1) := by decide +kernel
set_option maxRecDepth 20000 in
theorem ggX2_whereItBreaksOff_X3_at : GoodIn wsX2_whereItBreaksOff wsX3_at := goodIn_r _ [5] (by decide +kernel) (by decide +kernel)
set_option maxRecDepth 20000 in
theorem gX2_whereItBreaksOff_X3_at_n23 : GoodIn wsX2_whereItBreaksOff (wsX3_at) := ggX2_whereItBreaksOff_X3_at
theorem dX2_whereItBreaksOff_0 : decode cX2_whereItBreaksOff 0 = .ok (.iconst 0, 1) := by decide +kernel
theorem dX2_whereItBreaksOff_1 : decode cX2_whereItBreaksOff 1 = .ok (.istore_n 1, 1) := by decide +kernel
theorem dX2_whereItBreaksOff_2 : decode cX2_whereItBreaksOff 2 = .ok (.iconst 0, 1) := by decide +kernel
theorem dX2_whereItBreaksOff_3 : decode cX2_whereItBreaksOff 3 = .ok (.istore_n 2, 1) := by decide +kernel
theorem dX2_whereItBreaksOff_4 : decode cX2_whereItBreaksOff 4 = .ok (.iload_n 2, 1) := by decide +kernel
theorem dX2_whereItBreaksOff_5 : decode cX2_whereItBreaksOff 5 = .ok (.aload_n 0, 1) := by decide +kernel
theorem dX2_whereItBreaksOff_6 : decode cX2_whereItBreaksOff 6 = .ok (.getfield 15, 3) := by decide +kernel
theorem dX2_whereItBreaksOff_9 : decode cX2_whereItBreaksOff 9 = .ok (.if_icmp .ge 72, 3) := by decide +kernel
theorem dX2_whereItBreaksOff_12 : decode cX2_whereItBreaksOff 12 = .ok (.aload_n 0, 1) := by decide +kernel
theorem dX2_whereItBreaksOff_13 : decode cX2_whereItBreaksOff 13 = .ok (.getfield 9, 3) := by decide +kernel
theorem dX2_whereItBreaksOff_16 : decode cX2_whereItBreaksOff 16 = .ok (.iload_n 2, 1) := by decide +kernel
theorem dX2_whereItBreaksOff_17 : decode cX2_whereItBreaksOff 17 = .ok (.invokestatic 23, 3) := by decide +kernel
theorem dX2_whereItBreaksOff_20 : decode cX2_whereItBreaksOff 20 = .ok (.istore_n 3, 1) := by decide +kernel
theorem dX2_whereItBreaksOff_21 : decode cX2_whereItBreaksOff 21 = .ok (.iload_n 3, 1) := by decide +kernel
theorem dX2_whereItBreaksOff_22 : decode cX2_whereItBreaksOff 22 = .ok (.bipush 97, 2) := by decide +kernel
theorem dX2_whereItBreaksOff_24 : decode cX2_whereItBreaksOff 24 = .ok (.if_icmp .lt 13, 3) := by decide +kernel
theorem dX2_whereItBreaksOff_27 : decode cX2_whereItBreaksOff 27 = .ok (.iload_n 3, 1) := by decide +kernel
theorem dX2_whereItBreaksOff_28 : decode cX2_whereItBreaksOff 28 = .ok (.bipush 103, 2) := by decide +kernel
theorem dX2_whereItBreaksOff_30 : decode cX2_whereItBreaksOff 30 = .ok (.if_icmp .ge 7, 3) := by decide +kernel
theorem dX2_whereItBreaksOff_33 : decode cX2_whereItBreaksOff 33 = .ok (.iconst 1, 1) := by decide +kernel
theorem dX2_whereItBreaksOff_34 : decode cX2_whereItBreaksOff 34 = .ok (.goto 4, 3) := by decide +kernel
theorem dX2_whereItBreaksOff_37 : decode cX2_whereItBreaksOff 37 = .ok (.iconst 0, 1) := by decide +kernel
theorem dX2_whereItBreaksOff_38 : decode cX2_whereItBreaksOff 38 = .ok (.istore 4, 2) := by decide +kernel
theorem dX2_whereItBreaksOff_40 : decode cX2_whereItBreaksOff 40 = .ok (.iload 4, 2) := by decide +kernel
theorem dX2_whereItBreaksOff_42 : decode cX2_whereItBreaksOff 42 = .ok (.ifCond .ne 21, 3) := by decide +kernel
theorem dX2_whereItBreaksOff_45 : decode cX2_whereItBreaksOff 45 = .ok (.iload_n 1, 1) := by decide +kernel
theorem dX2_whereItBreaksOff_46 : decode cX2_whereItBreaksOff 46 = .ok (.ifCond .ne 15, 3) := by decide +kernel
theorem dX2_whereItBreaksOff_49 : decode cX2_whereItBreaksOff 49 = .ok (.iload_n 3, 1) := by decide +kernel
theorem dX2_whereItBreaksOff_50 : decode cX2_whereItBreaksOff 50 = .ok (.bipush 45, 2) := by decide +kernel
theorem dX2_whereItBreaksOff_52 : decode cX2_whereItBreaksOff 52 = .ok (.if_icmp .eq 11, 3) := by decide +kernel
theorem dX2_whereItBreaksOff_55 : decode cX2_whereItBreaksOff 55 = .ok (.iload_n 3, 1) := by decide +kernel
theorem dX2_whereItBreaksOff_56 : decode cX2_whereItBreaksOff 56 = .ok (.bipush 59, 2) := by decide +kernel
theorem dX2_whereItBreaksOff_58 : decode cX2_whereItBreaksOff 58 = .ok (.if_icmp .eq 5, 3) := by decide +kernel
theorem dX2_whereItBreaksOff_61 : decode cX2_whereItBreaksOff 61 = .ok (.iload_n 2, 1) := by decide +kernel
theorem dX2_whereItBreaksOff_62 : decode cX2_whereItBreaksOff 62 = .ok (.ireturn, 1) := by decide +kernel
theorem dX2_whereItBreaksOff_63 : decode cX2_whereItBreaksOff 63 = .ok (.iload_n 3, 1) := by decide +kernel
theorem dX2_whereItBreaksOff_64 : decode cX2_whereItBreaksOff 64 = .ok (.bipush 45, 2) := by decide +kernel
theorem dX2_whereItBreaksOff_66 : decode cX2_whereItBreaksOff 66 = .ok (.if_icmp .ne 7, 3) := by decide +kernel
theorem dX2_whereItBreaksOff_69 : decode cX2_whereItBreaksOff 69 = .ok (.iconst 1, 1) := by decide +kernel
theorem dX2_whereItBreaksOff_70 : decode cX2_whereItBreaksOff 70 = .ok (.goto 4, 3) := by decide +kernel
theorem dX2_whereItBreaksOff_73 : decode cX2_whereItBreaksOff 73 = .ok (.iconst 0, 1) := by decide +kernel
theorem dX2_whereItBreaksOff_74 : decode cX2_whereItBreaksOff 74 = .ok (.istore_n 1, 1) := by decide +kernel
theorem dX2_whereItBreaksOff_75 : decode cX2_whereItBreaksOff 75 = .ok (.iinc 2 1, 3) := by decide +kernel
theorem dX2_whereItBreaksOff_78 : decode cX2_whereItBreaksOff 78 = .ok (.goto (-74), 3) := by decide +kernel
theorem dX2_whereItBreaksOff_81 : decode cX2_whereItBreaksOff 81 = .ok (.aload_n 0, 1) := by decide +kernel
theorem dX2_whereItBreaksOff_82 : decode cX2_whereItBreaksOff 82 = .ok (.getfield 15, 3) := by decide +kernel
theorem dX2_whereItBreaksOff_85 : decode cX2_whereItBreaksOff 85 = .ok (.ifCond .eq 21, 3) := by decide +kernel
theorem dX2_whereItBreaksOff_88 : decode cX2_whereItBreaksOff 88 = .ok (.aload_n 0, 1) := by decide +kernel
theorem dX2_whereItBreaksOff_89 : decode cX2_whereItBreaksOff 89 = .ok (.getfield 9, 3) := by decide +kernel
theorem dX2_whereItBreaksOff_92 : decode cX2_whereItBreaksOff 92 = .ok (.aload_n 0, 1) := by decide +kernel
theorem dX2_whereItBreaksOff_93 : decode cX2_whereItBreaksOff 93 = .ok (.getfield 15, 3) := by decide +kernel
theorem dX2_whereItBreaksOff_96 : decode cX2_whereItBreaksOff 96 = .ok (.iconst 1, 1) := by decide +kernel
theorem dX2_whereItBreaksOff_97 : decode cX2_whereItBreaksOff 97 = .ok (.isub, 1) := by decide +kernel
theorem dX2_whereItBreaksOff_98 : decode cX2_whereItBreaksOff 98 = .ok (.invokestatic 23, 3) := by decide +kernel
theorem dX2_whereItBreaksOff_101 : decode cX2_whereItBreaksOff 101 = .ok (.bipush 59, 2) := by decide +kernel
theorem dX2_whereItBreaksOff_103 : decode cX2_whereItBreaksOff 103 = .ok (.if_icmp .ne 7, 3) := by decide +kernel
theorem dX2_whereItBreaksOff_106 : decode cX2_whereItBreaksOff 106 = .ok (.iconst (-1), 1) := by decide +kernel
theorem dX2_whereItBreaksOff_107 : decode cX2_whereItBreaksOff 107 = .ok (.goto 7, 3) := by decide +kernel
theorem dX2_whereItBreaksOff_110 : decode cX2_whereItBreaksOff 110 = .ok (.aload_n 0, 1) := by decide +kernel
theorem dX2_whereItBreaksOff_111 : decode cX2_whereItBreaksOff 111 = .ok (.getfield 15, 3) := by decide +kernel
theorem dX2_whereItBreaksOff_114 : decode cX2_whereItBreaksOff 114 = .ok (.ireturn, 1) := by decide +kernel
set_option maxRecDepth 20000 in
theorem ggX2_startOfClause_X3_at : GoodIn wsX2_startOfClause wsX3_at := goodIn_r _ [4] (by decide +kernel) (by decide +kernel)
set_option maxRecDepth 20000 in
theorem gX2_startOfClause_X3_at_n23 : GoodIn wsX2_startOfClause (wsX3_at) := ggX2_startOfClause_X3_at
theorem dX2_startOfClause_0 : decode cX2_startOfClause 0 = .ok (.iload_n 1, 1) := by decide +kernel
theorem dX2_startOfClause_1 : decode cX2_startOfClause 1 = .ok (.iconst 1, 1) := by decide +kernel
theorem dX2_startOfClause_2 : decode cX2_startOfClause 2 = .ok (.isub, 1) := by decide +kernel
theorem dX2_startOfClause_3 : decode cX2_startOfClause 3 = .ok (.istore_n 2, 1) := by decide +kernel
theorem dX2_startOfClause_4 : decode cX2_startOfClause 4 = .ok (.iload_n 2, 1) := by decide +kernel
theorem dX2_startOfClause_5 : decode cX2_startOfClause 5 = .ok (.ifCond .lt 26, 3) := by decide +kernel
theorem dX2_startOfClause_8 : decode cX2_startOfClause 8 = .ok (.aload_n 0, 1) := by decide +kernel
theorem dX2_startOfClause_9 : decode cX2_startOfClause 9 = .ok (.getfield 9, 3) := by decide +kernel
theorem dX2_startOfClause_12 : decode cX2_startOfClause 12 = .ok (.iload_n 2, 1) := by decide +kernel
theorem dX2_startOfClause_13 : decode cX2_startOfClause 13 = .ok (.invokestatic 23, 3) := by decide +kernel
theorem dX2_startOfClause_16 : decode cX2_startOfClause 16 = .ok (.bipush 59, 2) := by decide +kernel
theorem dX2_startOfClause_18 : decode cX2_startOfClause 18 = .ok (.if_icmp .ne 7, 3) := by decide +kernel
theorem dX2_startOfClause_21 : decode cX2_startOfClause 21 = .ok (.iload_n 2, 1) := by decide +kernel
theorem dX2_startOfClause_22 : decode cX2_startOfClause 22 = .ok (.iconst 1, 1) := by decide +kernel
theorem dX2_startOfClause_23 : decode cX2_startOfClause 23 = .ok (.iadd, 1) := by decide +kernel
theorem dX2_startOfClause_24 : decode cX2_startOfClause 24 = .ok (.ireturn, 1) := by decide +kernel
theorem dX2_startOfClause_25 : decode cX2_startOfClause 25 = .ok (.iinc 2 (-1), 3) := by decide +kernel
theorem dX2_startOfClause_28 : decode cX2_startOfClause 28 = .ok (.goto (-24), 3) := by decide +kernel
theorem dX2_startOfClause_31 : decode cX2_startOfClause 31 = .ok (.iconst 0, 1) := by decide +kernel
theorem dX2_startOfClause_32 : decode cX2_startOfClause 32 = .ok (.ireturn, 1) := by decide +kernel
set_option maxRecDepth 20000 in
theorem ggX3_init_X1_init : GoodIn wsX3_init wsX1_init := goodIn_r _ [17, 18, 2, 3, 19, 20, 21, 22, 23, 24, 25, 26, 27, 28, 29, 30, 31, 32, 33, 34, 35, 36, 48, 49, 50, 51, 52, 53, 54, 55, 56, 57, 58, 59, 60] (by decide +kernel) (by decide +kernel)
set_option maxRecDepth 20000 in
theorem gX3_init_X1_init_n9 : GoodIn wsX3_init (wsX1_init) := ggX3_init_X1_init
set_option maxRecDepth 20000 in
theorem ggX3_init_X0_init : GoodIn wsX3_init wsX0_init := goodIn_r _ [38, 39, 2, 3, 40, 41, 42, 5, 6, 16, 17, 18, 19, 20, 21, 22, 23, 24, 25, 26, 27, 28, 29, 30, 31, 32, 33, 34, 35, 36, 64, 65, 48, 49, 50, 51, 52, 53, 54, 55, 56, 57, 58, 59, 60] (by decide +kernel) (by decide +kernel)
set_option maxRecDepth 20000 in
theorem gX3_init_X0_init_n18 : GoodIn wsX3_init (wsX0_init) := ggX3_init_X0_init
set_option maxRecDepth 20000 in
theorem ggX3_init_X2_init : GoodIn wsX3_init wsX2_init := goodIn_r _ [44, 45, 2, 3, 19, 46, 47, 66, 67] (by decide +kernel) (by decide +kernel)
set_option maxRecDepth 20000 in
theorem gX3_init_X2_init_n25 : GoodIn wsX3_init (wsX2_init) := ggX3_init_X2_init
theorem dX3_init_0 : decode cX3_init 0 = .ok (.aload_n 0, 1) := by decide +kernel
theorem dX3_init_1 : decode cX3_init 1 = .ok (.invokespecial 1, 3) := by decide +kernel
theorem dX3_init_4 : decode cX3_init 4 = .ok (.aload_n 0, 1) := by decide +kernel
theorem dX3_init_5 : decode cX3_init 5 = .ok (.new 7, 3) := by decide +kernel
theorem dX3_init_8 : decode cX3_init 8 = .ok (.dup, 1) := by decide +kernel
theorem dX3_init_9 : decode cX3_init 9 = .ok (.invokespecial 9, 3) := by decide +kernel
theorem dX3_init_12 : decode cX3_init 12 = .ok (.putfield 10, 3) := by decide +kernel
theorem dX3_init_15 : decode cX3_init 15 = .ok (.aload_n 0, 1) := by decide +kernel
theorem dX3_init_16 : decode cX3_init 16 = .ok (.new 16, 3) := by decide +kernel
theorem dX3_init_19 : decode cX3_init 19 = .ok (.dup, 1) := by decide +kernel
theorem dX3_init_20 : decode cX3_init 20 = .ok (.invokespecial 18, 3) := by decide +kernel
theorem dX3_init_23 : decode cX3_init 23 = .ok (.putfield 19, 3) := by decide +kernel
theorem dX3_init_26 : decode cX3_init 26 = .ok (.aload_n 0, 1) := by decide +kernel
theorem dX3_init_27 : decode cX3_init 27 = .ok (.new 23, 3) := by decide +kernel
theorem dX3_init_30 : decode cX3_init 30 = .ok (.dup, 1) := by decide +kernel
theorem dX3_init_31 : decode cX3_init 31 = .ok (.invokespecial 25, 3) := by decide +kernel
theorem dX3_init_34 : decode cX3_init 34 = .ok (.putfield 26, 3) := by decide +kernel
theorem dX3_init_37 : decode cX3_init 37 = .ok (.return_, 1) := by decide +kernel
set_option maxRecDepth 20000 in
theorem ggX3_tell_X0_putAside : GoodIn wsX3_tell wsX0_putAside := goodIn_r _ [7, 8, 9, 10, 11, 5, 12, 13, 14, 15, 16, 17, 18, 19, 20, 21, 22, 23, 24, 25, 26, 27, 28, 29, 30, 31, 32, 33, 34, 35, 36, 37, 38, 39, 40, 41, 42, 43, 101, 102, 103, 104, 105, 106, 107, 108, 109, 110, 111, 112, 113, 114, 115] (by decide +kernel) (by decide +kernel)
set_option maxRecDepth 20000 in
theorem gX3_tell_X0_putAside_n31 : GoodIn wsX3_tell (wsX0_putAside) := ggX3_tell_X0_putAside
set_option maxRecDepth 20000 in
theorem ggX3_tell_X1_bring : GoodIn wsX3_tell wsX1_bring := goodIn_r _ [46, 29, 30, 26, 47, 48, 32, 49, 50, 51, 52, 15, 53, 19, 54, 55, 56, 57, 20, 58, 59, 60, 61, 62, 63, 64, 65, 66, 67, 68, 69, 70, 71, 21, 22, 23, 24, 72, 73, 36, 74, 25, 75, 76, 77, 78, 79, 80, 81, 82, 83, 103, 104, 105, 106, 107, 108, 109, 110, 111, 112, 113, 114, 115] (by decide +kernel) (by decide +kernel)
set_option maxRecDepth 20000 in
theorem gX3_tell_X1_bring_n35 : GoodIn wsX3_tell (wsX1_bring) := ggX3_tell_X1_bring
set_option maxRecDepth 20000 in
theorem ggX3_tell_X3_settle : GoodIn wsX3_tell wsX3_settle := goodIn_r _ [87, 1, 2, 3, 88, 5, 89, 90, 8, 9, 10, 11, 12, 13, 14, 15, 16, 17, 18, 19, 20, 21, 22, 23, 24, 25, 26, 27, 28, 29, 30, 31, 32, 33, 34, 35, 36, 37, 38, 39, 40, 41, 42, 43, 91, 92, 93, 94, 95, 96, 97, 98, 99, 100, 101, 102, 103, 104, 105, 106, 107, 108, 109, 110, 111, 112, 113, 114, 115] (by decide +kernel) (by decide +kernel)
set_option maxRecDepth 20000 in
theorem gX3_tell_X3_settle : GoodIn wsX3_tell (wsV RX3 39 RX3 yX3_settle wsX3_settle) := goodIn_app (goodIn_of _ (by decide +kernel)) ggX3_tell_X3_settle
theorem dX3_tell_0 : decode cX3_tell 0 = .ok (.iload_n 1, 1) := by decide +kernel
theorem dX3_tell_1 : decode cX3_tell 1 = .ok (.ifCond .lt 10, 3) := by decide +kernel
theorem dX3_tell_4 : decode cX3_tell 4 = .ok (.iload_n 1, 1) := by decide +kernel
theorem dX3_tell_5 : decode cX3_tell 5 = .ok (.sipush 4095, 3) := by decide +kernel
theorem dX3_tell_8 : decode cX3_tell 8 = .ok (.if_icmp .le 6, 3) := by decide +kernel
theorem dX3_tell_11 : decode cX3_tell 11 = .ok (.ldc 30, 2) := by decide +kernel
theorem dX3_tell_13 : decode cX3_tell 13 = .ok (.ireturn, 1) := by decide +kernel
theorem dX3_tell_14 : decode cX3_tell 14 = .ok (.aload_n 0, 1) := by decide +kernel
theorem dX3_tell_15 : decode cX3_tell 15 = .ok (.getfield 19, 3) := by decide +kernel
theorem dX3_tell_18 : decode cX3_tell 18 = .ok (.aload_n 0, 1) := by decide +kernel
theorem dX3_tell_19 : decode cX3_tell 19 = .ok (.getfield 10, 3) := by decide +kernel
theorem dX3_tell_22 : decode cX3_tell 22 = .ok (.invokevirtual 31, 3) := by decide +kernel
theorem dX3_tell_25 : decode cX3_tell 25 = .ok (.aload_n 0, 1) := by decide +kernel
theorem dX3_tell_26 : decode cX3_tell 26 = .ok (.aload_n 0, 1) := by decide +kernel
theorem dX3_tell_27 : decode cX3_tell 27 = .ok (.getfield 10, 3) := by decide +kernel
theorem dX3_tell_30 : decode cX3_tell 30 = .ok (.iload_n 1, 1) := by decide +kernel
theorem dX3_tell_31 : decode cX3_tell 31 = .ok (.iconst (-1), 1) := by decide +kernel
theorem dX3_tell_32 : decode cX3_tell 32 = .ok (.iconst (-1), 1) := by decide +kernel
theorem dX3_tell_33 : decode cX3_tell 33 = .ok (.iconst (-1), 1) := by decide +kernel
theorem dX3_tell_34 : decode cX3_tell 34 = .ok (.invokevirtual 35, 3) := by decide +kernel
theorem dX3_tell_37 : decode cX3_tell 37 = .ok (.invokevirtual 39, 3) := by decide +kernel
theorem dX3_tell_40 : decode cX3_tell 40 = .ok (.ireturn, 1) := by decide +kernel
set_option maxRecDepth 20000 in
theorem ggX3_rank_X0_putAside : GoodIn wsX3_rank wsX0_putAside := goodIn_r _ [7, 8, 9, 10, 11, 5, 12, 13, 14, 15, 16, 17, 18, 19, 20, 21, 22, 23, 24, 25, 26, 27, 28, 29, 30, 31, 32, 33, 34, 35, 36, 37, 38, 39, 40, 41, 42, 43, 72, 73, 74, 75, 76, 77, 78, 79, 80, 81, 82, 83, 84, 85, 86] (by decide +kernel) (by decide +kernel)
set_option maxRecDepth 20000 in
theorem gX3_rank_X0_putAside_n31 : GoodIn wsX3_rank (wsX0_putAside) := ggX3_rank_X0_putAside
set_option maxRecDepth 20000 in
theorem ggX3_rank_X1_changeRank : GoodIn wsX3_rank wsX1_changeRank := goodIn_r _ [46, 18, 26, 20, 47, 48, 49, 15, 50, 51, 32, 52, 53, 54, 74, 75, 76, 77, 78, 79, 80, 81, 82, 83, 84, 85, 86] (by decide +kernel) (by decide +kernel)
set_option maxRecDepth 20000 in
theorem gX3_rank_X1_changeRank_n43 : GoodIn wsX3_rank (wsX1_changeRank) := ggX3_rank_X1_changeRank
set_option maxRecDepth 20000 in
theorem ggX3_rank_X3_settle : GoodIn wsX3_rank wsX3_settle := goodIn_r _ [58, 1, 2, 3, 59, 5, 60, 61, 8, 9, 10, 11, 12, 13, 14, 15, 16, 17, 18, 19, 20, 21, 22, 23, 24, 25, 26, 27, 28, 29, 30, 31, 32, 33, 34, 35, 36, 37, 38, 39, 40, 41, 42, 43, 62, 63, 64, 65, 66, 67, 68, 69, 70, 71, 72, 73, 74, 75, 76, 77, 78, 79, 80, 81, 82, 83, 84, 85, 86] (by decide +kernel) (by decide +kernel)
set_option maxRecDepth 20000 in
theorem gX3_rank_X3_settle : GoodIn wsX3_rank (wsV RX3 39 RX3 yX3_settle wsX3_settle) := goodIn_app (goodIn_of _ (by decide +kernel)) ggX3_rank_X3_settle
theorem dX3_rank_0 : decode cX3_rank 0 = .ok (.iload_n 1, 1) := by decide +kernel
theorem dX3_rank_1 : decode cX3_rank 1 = .ok (.ifCond .lt 19, 3) := by decide +kernel
theorem dX3_rank_4 : decode cX3_rank 4 = .ok (.iload_n 1, 1) := by decide +kernel
theorem dX3_rank_5 : decode cX3_rank 5 = .ok (.bipush 6, 2) := by decide +kernel
theorem dX3_rank_7 : decode cX3_rank 7 = .ok (.if_icmp .ge 13, 3) := by decide +kernel
theorem dX3_rank_10 : decode cX3_rank 10 = .ok (.iload_n 2, 1) := by decide +kernel
theorem dX3_rank_11 : decode cX3_rank 11 = .ok (.ifCond .lt 9, 3) := by decide +kernel
theorem dX3_rank_14 : decode cX3_rank 14 = .ok (.iload_n 2, 1) := by decide +kernel
theorem dX3_rank_15 : decode cX3_rank 15 = .ok (.bipush 6, 2) := by decide +kernel
theorem dX3_rank_17 : decode cX3_rank 17 = .ok (.if_icmp .lt 6, 3) := by decide +kernel
theorem dX3_rank_20 : decode cX3_rank 20 = .ok (.ldc 30, 2) := by decide +kernel
theorem dX3_rank_22 : decode cX3_rank 22 = .ok (.ireturn, 1) := by decide +kernel
theorem dX3_rank_23 : decode cX3_rank 23 = .ok (.aload_n 0, 1) := by decide +kernel
theorem dX3_rank_24 : decode cX3_rank 24 = .ok (.getfield 19, 3) := by decide +kernel
theorem dX3_rank_27 : decode cX3_rank 27 = .ok (.aload_n 0, 1) := by decide +kernel
theorem dX3_rank_28 : decode cX3_rank 28 = .ok (.getfield 10, 3) := by decide +kernel
theorem dX3_rank_31 : decode cX3_rank 31 = .ok (.invokevirtual 31, 3) := by decide +kernel
theorem dX3_rank_34 : decode cX3_rank 34 = .ok (.aload_n 0, 1) := by decide +kernel
theorem dX3_rank_35 : decode cX3_rank 35 = .ok (.aload_n 0, 1) := by decide +kernel
theorem dX3_rank_36 : decode cX3_rank 36 = .ok (.getfield 10, 3) := by decide +kernel
theorem dX3_rank_39 : decode cX3_rank 39 = .ok (.iload_n 1, 1) := by decide +kernel
theorem dX3_rank_40 : decode cX3_rank 40 = .ok (.iload_n 2, 1) := by decide +kernel
theorem dX3_rank_41 : decode cX3_rank 41 = .ok (.invokevirtual 43, 3) := by decide +kernel
theorem dX3_rank_44 : decode cX3_rank 44 = .ok (.invokevirtual 39, 3) := by decide +kernel
theorem dX3_rank_47 : decode cX3_rank 47 = .ok (.ireturn, 1) := by decide +kernel
set_option maxRecDepth 20000 in
theorem ggX3_set_X0_putAside : GoodIn wsX3_set wsX0_putAside := goodIn_r _ [7, 8, 9, 10, 11, 5, 12, 13, 14, 15, 16, 17, 18, 19, 20, 21, 22, 23, 24, 25, 26, 27, 28, 29, 30, 31, 32, 33, 34, 35, 36, 37, 38, 39, 40, 41, 42, 43, 74, 75, 61, 62, 63, 64, 65, 66, 67, 68, 69, 70, 71, 72, 73] (by decide +kernel) (by decide +kernel)
set_option maxRecDepth 20000 in
theorem gX3_set_X0_putAside_n31 : GoodIn wsX3_set (wsX0_putAside) := ggX3_set_X0_putAside
set_option maxRecDepth 20000 in
theorem ggX3_set_X3_settle : GoodIn wsX3_set wsX3_settle := goodIn_r _ [47, 1, 2, 3, 48, 5, 49, 50, 8, 9, 10, 11, 12, 13, 14, 15, 16, 17, 18, 19, 20, 21, 22, 23, 24, 25, 26, 27, 28, 29, 30, 31, 32, 33, 34, 35, 36, 37, 38, 39, 40, 41, 42, 43, 51, 52, 53, 54, 55, 56, 57, 58, 59, 60, 74, 75, 61, 62, 63, 64, 65, 66, 67, 68, 69, 70, 71, 72, 73] (by decide +kernel) (by decide +kernel)
set_option maxRecDepth 20000 in
theorem gX3_set_X3_settle : GoodIn wsX3_set (wsV RX3 39 RX3 yX3_settle wsX3_settle) := goodIn_app (goodIn_of _ (by decide +kernel)) ggX3_set_X3_settle
theorem dX3_set_0 : decode cX3_set 0 = .ok (.iload_n 1, 1) := by decide +kernel
theorem dX3_set_1 : decode cX3_set 1 = .ok (.iconst 1, 1) := by decide +kernel
theorem dX3_set_2 : decode cX3_set 2 = .ok (.if_icmp .lt 9, 3) := by decide +kernel
theorem dX3_set_5 : decode cX3_set 5 = .ok (.iload_n 1, 1) := by decide +kernel
theorem dX3_set_6 : decode cX3_set 6 = .ok (.bipush 9, 2) := by decide +kernel
theorem dX3_set_8 : decode cX3_set 8 = .ok (.if_icmp .le 6, 3) := by decide +kernel
theorem dX3_set_11 : decode cX3_set 11 = .ok (.ldc 30, 2) := by decide +kernel
theorem dX3_set_13 : decode cX3_set 13 = .ok (.ireturn, 1) := by decide +kernel
theorem dX3_set_14 : decode cX3_set 14 = .ok (.aload_n 0, 1) := by decide +kernel
theorem dX3_set_15 : decode cX3_set 15 = .ok (.getfield 19, 3) := by decide +kernel
theorem dX3_set_18 : decode cX3_set 18 = .ok (.aload_n 0, 1) := by decide +kernel
theorem dX3_set_19 : decode cX3_set 19 = .ok (.getfield 10, 3) := by decide +kernel
theorem dX3_set_22 : decode cX3_set 22 = .ok (.invokevirtual 31, 3) := by decide +kernel
theorem dX3_set_25 : decode cX3_set 25 = .ok (.aload_n 0, 1) := by decide +kernel
theorem dX3_set_26 : decode cX3_set 26 = .ok (.getfield 10, 3) := by decide +kernel
theorem dX3_set_29 : decode cX3_set 29 = .ok (.getfield 47, 3) := by decide +kernel
theorem dX3_set_32 : decode cX3_set 32 = .ok (.istore_n 2, 1) := by decide +kernel
theorem dX3_set_33 : decode cX3_set 33 = .ok (.aload_n 0, 1) := by decide +kernel
theorem dX3_set_34 : decode cX3_set 34 = .ok (.getfield 10, 3) := by decide +kernel
theorem dX3_set_37 : decode cX3_set 37 = .ok (.iload_n 1, 1) := by decide +kernel
theorem dX3_set_38 : decode cX3_set 38 = .ok (.putfield 47, 3) := by decide +kernel
theorem dX3_set_41 : decode cX3_set 41 = .ok (.aload_n 0, 1) := by decide +kernel
theorem dX3_set_42 : decode cX3_set 42 = .ok (.iload_n 2, 1) := by decide +kernel
theorem dX3_set_43 : decode cX3_set 43 = .ok (.invokevirtual 39, 3) := by decide +kernel
theorem dX3_set_46 : decode cX3_set 46 = .ok (.ireturn, 1) := by decide +kernel
set_option maxRecDepth 20000 in
theorem ggX3_step_X0_putAside : GoodIn wsX3_step wsX0_putAside := goodIn_r _ [6, 7, 8, 9, 10, 4, 11, 12, 13, 14, 15, 16, 17, 18, 19, 20, 21, 22, 23, 24, 25, 26, 27, 28, 29, 30, 31, 32, 33, 34, 35, 36, 37, 38, 39, 40, 41, 42, 129, 130, 131, 132, 133, 134, 135, 136, 137, 138, 139, 140, 141, 142, 143] (by decide +kernel) (by decide +kernel)
set_option maxRecDepth 20000 in
theorem gX3_step_X0_putAside_n31 : GoodIn wsX3_step (wsX0_putAside) := ggX3_step_X0_putAside
set_option maxRecDepth 20000 in
theorem ggX3_step_X1_takeStep : GoodIn wsX3_step wsX1_takeStep := goodIn_r _ [45, 46, 26, 19, 47, 48, 49, 50, 14, 51, 25, 18, 52, 31, 53, 54, 55, 56, 57, 27, 58, 59, 60, 61, 62, 63, 64, 65, 66, 67, 68, 69, 70, 71, 72, 73, 74, 17, 75, 76, 77, 78, 79, 80, 81, 82, 28, 29, 83, 84, 85, 86, 87, 88, 89, 90, 91, 92, 93, 94, 95, 96, 97, 98, 20, 21, 22, 23, 99, 100, 35, 101, 24, 102, 103, 104, 105, 106, 107, 108, 109, 110, 131, 132, 133, 134, 135, 136, 137, 138, 139, 140, 141, 142, 143] (by decide +kernel) (by decide +kernel)
set_option maxRecDepth 20000 in
theorem gX3_step_X1_takeStep_n51 : GoodIn wsX3_step (wsX1_takeStep) := ggX3_step_X1_takeStep
set_option maxRecDepth 20000 in
theorem ggX3_step_X3_settle : GoodIn wsX3_step wsX3_settle := goodIn_r _ [114, 115, 1, 2, 116, 4, 117, 118, 7, 8, 9, 10, 11, 12, 13, 14, 15, 16, 17, 18, 19, 20, 21, 22, 23, 24, 25, 26, 27, 28, 29, 30, 31, 32, 33, 34, 35, 36, 37, 38, 39, 40, 41, 42, 119, 120, 121, 122, 123, 124, 125, 126, 127, 128, 129, 130, 131, 132, 133, 134, 135, 136, 137, 138, 139, 140, 141, 142, 143] (by decide +kernel) (by decide +kernel)
set_option maxRecDepth 20000 in
theorem gX3_step_X3_settle : GoodIn wsX3_step (wsV RX3 39 RX3 yX3_settle wsX3_settle) := goodIn_app (goodIn_of _ (by decide +kernel)) ggX3_step_X3_settle
theorem dX3_step_0 : decode cX3_step 0 = .ok (.aload_n 0, 1) := by decide +kernel
theorem dX3_step_1 : decode cX3_step 1 = .ok (.getfield 19, 3) := by decide +kernel
theorem dX3_step_4 : decode cX3_step 4 = .ok (.aload_n 0, 1) := by decide +kernel
theorem dX3_step_5 : decode cX3_step 5 = .ok (.getfield 10, 3) := by decide +kernel
theorem dX3_step_8 : decode cX3_step 8 = .ok (.invokevirtual 31, 3) := by decide +kernel
theorem dX3_step_11 : decode cX3_step 11 = .ok (.aload_n 0, 1) := by decide +kernel
theorem dX3_step_12 : decode cX3_step 12 = .ok (.aload_n 0, 1) := by decide +kernel
theorem dX3_step_13 : decode cX3_step 13 = .ok (.getfield 10, 3) := by decide +kernel
theorem dX3_step_16 : decode cX3_step 16 = .ok (.invokevirtual 51, 3) := by decide +kernel
theorem dX3_step_19 : decode cX3_step 19 = .ok (.invokevirtual 39, 3) := by decide +kernel
theorem dX3_step_22 : decode cX3_step 22 = .ok (.ireturn, 1) := by decide +kernel
set_option maxRecDepth 20000 in
theorem ggX3_run_X0_putAside : GoodIn wsX3_run wsX0_putAside := goodIn_r _ [9, 10, 11, 12, 13, 7, 14, 15, 16, 17, 18, 19, 20, 21, 22, 23, 24, 25, 26, 27, 28, 29, 30, 31, 32, 33, 34, 35, 36, 37, 38, 39, 40, 41, 42, 43, 44, 45, 131, 132, 133, 134, 135, 136, 137, 138, 139, 140, 141, 142, 143, 144, 145] (by decide +kernel) (by decide +kernel)
set_option maxRecDepth 20000 in
theorem gX3_run_X0_putAside_n31 : GoodIn wsX3_run (wsX0_putAside) := ggX3_run_X0_putAside
set_option maxRecDepth 20000 in
theorem ggX3_run_X1_takeStep : GoodIn wsX3_run wsX1_takeStep := goodIn_r _ [48, 49, 29, 22, 50, 51, 52, 53, 17, 54, 28, 21, 55, 34, 56, 57, 58, 59, 60, 30, 61, 62, 63, 64, 65, 66, 67, 68, 69, 70, 71, 72, 73, 74, 75, 76, 77, 20, 78, 79, 80, 81, 82, 83, 84, 85, 31, 32, 86, 87, 88, 89, 90, 91, 92, 93, 94, 95, 96, 97, 98, 99, 100, 101, 23, 24, 25, 26, 102, 103, 38, 104, 27, 105, 106, 107, 108, 109, 110, 111, 112, 113, 133, 134, 135, 136, 137, 138, 139, 140, 141, 142, 143, 144, 145] (by decide +kernel) (by decide +kernel)
set_option maxRecDepth 20000 in
theorem gX3_run_X1_takeStep_n51 : GoodIn wsX3_run (wsX1_takeStep) := ggX3_run_X1_takeStep
set_option maxRecDepth 20000 in
theorem ggX3_run_X3_settle : GoodIn wsX3_run wsX3_settle := goodIn_r _ [117, 1, 2, 3, 118, 7, 119, 120, 10, 11, 12, 13, 14, 15, 16, 17, 18, 19, 20, 21, 22, 23, 24, 25, 26, 27, 28, 29, 30, 31, 32, 33, 34, 35, 36, 37, 38, 39, 40, 41, 42, 43, 44, 45, 121, 122, 123, 124, 125, 126, 127, 128, 129, 130, 131, 132, 133, 134, 135, 136, 137, 138, 139, 140, 141, 142, 143, 144, 145] (by decide +kernel) (by decide +kernel)
set_option maxRecDepth 20000 in
theorem gX3_run_X3_settle : GoodIn wsX3_run (wsV RX3 39 RX3 yX3_settle wsX3_settle) := goodIn_app (goodIn_of _ (by decide +kernel)) ggX3_run_X3_settle
theorem dX3_run_0 : decode cX3_run 0 = .ok (.iload_n 1, 1) := by decide +kernel
theorem dX3_run_1 : decode cX3_run 1 = .ok (.iconst 1, 1) := by decide +kernel
theorem dX3_run_2 : decode cX3_run 2 = .ok (.if_icmp .lt 9, 3) := by decide +kernel
theorem dX3_run_5 : decode cX3_run 5 = .ok (.iload_n 1, 1) := by decide +kernel
theorem dX3_run_6 : decode cX3_run 6 = .ok (.bipush 40, 2) := by decide +kernel
theorem dX3_run_8 : decode cX3_run 8 = .ok (.if_icmp .le 6, 3) := by decide +kernel
theorem dX3_run_11 : decode cX3_run 11 = .ok (.ldc 30, 2) := by decide +kernel
theorem dX3_run_13 : decode cX3_run 13 = .ok (.ireturn, 1) := by decide +kernel
theorem dX3_run_14 : decode cX3_run 14 = .ok (.aload_n 0, 1) := by decide +kernel
theorem dX3_run_15 : decode cX3_run 15 = .ok (.getfield 19, 3) := by decide +kernel
theorem dX3_run_18 : decode cX3_run 18 = .ok (.aload_n 0, 1) := by decide +kernel
theorem dX3_run_19 : decode cX3_run 19 = .ok (.getfield 10, 3) := by decide +kernel
theorem dX3_run_22 : decode cX3_run 22 = .ok (.invokevirtual 31, 3) := by decide +kernel
theorem dX3_run_25 : decode cX3_run 25 = .ok (.iconst 0, 1) := by decide +kernel
theorem dX3_run_26 : decode cX3_run 26 = .ok (.istore_n 2, 1) := by decide +kernel
theorem dX3_run_27 : decode cX3_run 27 = .ok (.iconst 0, 1) := by decide +kernel
theorem dX3_run_28 : decode cX3_run 28 = .ok (.istore_n 3, 1) := by decide +kernel
theorem dX3_run_29 : decode cX3_run 29 = .ok (.iload_n 3, 1) := by decide +kernel
theorem dX3_run_30 : decode cX3_run 30 = .ok (.iload_n 1, 1) := by decide +kernel
theorem dX3_run_31 : decode cX3_run 31 = .ok (.if_icmp .ge 45, 3) := by decide +kernel
theorem dX3_run_34 : decode cX3_run 34 = .ok (.aload_n 0, 1) := by decide +kernel
theorem dX3_run_35 : decode cX3_run 35 = .ok (.getfield 10, 3) := by decide +kernel
theorem dX3_run_38 : decode cX3_run 38 = .ok (.invokevirtual 51, 3) := by decide +kernel
theorem dX3_run_41 : decode cX3_run 41 = .ok (.istore 4, 2) := by decide +kernel
theorem dX3_run_43 : decode cX3_run 43 = .ok (.iload 4, 2) := by decide +kernel
theorem dX3_run_45 : decode cX3_run 45 = .ok (.ldc 55, 2) := by decide +kernel
theorem dX3_run_47 : decode cX3_run 47 = .ok (.if_icmp .ne 10, 3) := by decide +kernel
theorem dX3_run_50 : decode cX3_run 50 = .ok (.aload_n 0, 1) := by decide +kernel
theorem dX3_run_51 : decode cX3_run 51 = .ok (.ldc 55, 2) := by decide +kernel
theorem dX3_run_53 : decode cX3_run 53 = .ok (.invokevirtual 39, 3) := by decide +kernel
theorem dX3_run_56 : decode cX3_run 56 = .ok (.ireturn, 1) := by decide +kernel
theorem dX3_run_57 : decode cX3_run 57 = .ok (.iload 4, 2) := by decide +kernel
theorem dX3_run_59 : decode cX3_run 59 = .ok (.ldc 56, 2) := by decide +kernel
theorem dX3_run_61 : decode cX3_run 61 = .ok (.if_icmp .ne 6, 3) := by decide +kernel
theorem dX3_run_64 : decode cX3_run 64 = .ok (.goto 12, 3) := by decide +kernel
theorem dX3_run_67 : decode cX3_run 67 = .ok (.iinc 2 1, 3) := by decide +kernel
theorem dX3_run_70 : decode cX3_run 70 = .ok (.iinc 3 1, 3) := by decide +kernel
theorem dX3_run_73 : decode cX3_run 73 = .ok (.goto (-44), 3) := by decide +kernel
theorem dX3_run_76 : decode cX3_run 76 = .ok (.aload_n 0, 1) := by decide +kernel
theorem dX3_run_77 : decode cX3_run 77 = .ok (.iload_n 2, 1) := by decide +kernel
theorem dX3_run_78 : decode cX3_run 78 = .ok (.invokevirtual 39, 3) := by decide +kernel
theorem dX3_run_81 : decode cX3_run 81 = .ok (.ireturn, 1) := by decide +kernel
set_option maxRecDepth 20000 in
theorem ggX3_empty_X0_putAside : GoodIn wsX3_empty wsX0_putAside := goodIn_r _ [6, 7, 8, 9, 10, 4, 11, 12, 13, 14, 15, 16, 17, 18, 19, 20, 21, 22, 23, 24, 25, 26, 27, 28, 29, 30, 31, 32, 33, 34, 35, 36, 37, 38, 39, 40, 41, 42, 74, 75, 61, 62, 63, 64, 65, 66, 67, 68, 69, 70, 71, 72, 73] (by decide +kernel) (by decide +kernel)
set_option maxRecDepth 20000 in
theorem gX3_empty_X0_putAside_n31 : GoodIn wsX3_empty (wsX0_putAside) := ggX3_empty_X0_putAside
set_option maxRecDepth 20000 in
theorem ggX3_empty_X3_settle : GoodIn wsX3_empty wsX3_settle := goodIn_r _ [46, 47, 1, 2, 48, 4, 49, 50, 7, 8, 9, 10, 11, 12, 13, 14, 15, 16, 17, 18, 19, 20, 21, 22, 23, 24, 25, 26, 27, 28, 29, 30, 31, 32, 33, 34, 35, 36, 37, 38, 39, 40, 41, 42, 51, 52, 53, 54, 55, 56, 57, 58, 59, 60, 74, 75, 61, 62, 63, 64, 65, 66, 67, 68, 69, 70, 71, 72, 73] (by decide +kernel) (by decide +kernel)
set_option maxRecDepth 20000 in
theorem gX3_empty_X3_settle : GoodIn wsX3_empty (wsV RX3 39 RX3 yX3_settle wsX3_settle) := goodIn_app (goodIn_of _ (by decide +kernel)) ggX3_empty_X3_settle
theorem dX3_empty_0 : decode cX3_empty 0 = .ok (.aload_n 0, 1) := by decide +kernel
theorem dX3_empty_1 : decode cX3_empty 1 = .ok (.getfield 19, 3) := by decide +kernel
theorem dX3_empty_4 : decode cX3_empty 4 = .ok (.aload_n 0, 1) := by decide +kernel
theorem dX3_empty_5 : decode cX3_empty 5 = .ok (.getfield 10, 3) := by decide +kernel
theorem dX3_empty_8 : decode cX3_empty 8 = .ok (.invokevirtual 31, 3) := by decide +kernel
theorem dX3_empty_11 : decode cX3_empty 11 = .ok (.aload_n 0, 1) := by decide +kernel
theorem dX3_empty_12 : decode cX3_empty 12 = .ok (.getfield 10, 3) := by decide +kernel
theorem dX3_empty_15 : decode cX3_empty 15 = .ok (.getfield 57, 3) := by decide +kernel
theorem dX3_empty_18 : decode cX3_empty 18 = .ok (.istore_n 1, 1) := by decide +kernel
theorem dX3_empty_19 : decode cX3_empty 19 = .ok (.aload_n 0, 1) := by decide +kernel
theorem dX3_empty_20 : decode cX3_empty 20 = .ok (.getfield 10, 3) := by decide +kernel
theorem dX3_empty_23 : decode cX3_empty 23 = .ok (.iconst 0, 1) := by decide +kernel
theorem dX3_empty_24 : decode cX3_empty 24 = .ok (.putfield 57, 3) := by decide +kernel
theorem dX3_empty_27 : decode cX3_empty 27 = .ok (.aload_n 0, 1) := by decide +kernel
theorem dX3_empty_28 : decode cX3_empty 28 = .ok (.getfield 10, 3) := by decide +kernel
theorem dX3_empty_31 : decode cX3_empty 31 = .ok (.iconst 0, 1) := by decide +kernel
theorem dX3_empty_32 : decode cX3_empty 32 = .ok (.putfield 60, 3) := by decide +kernel
theorem dX3_empty_35 : decode cX3_empty 35 = .ok (.aload_n 0, 1) := by decide +kernel
theorem dX3_empty_36 : decode cX3_empty 36 = .ok (.iload_n 1, 1) := by decide +kernel
theorem dX3_empty_37 : decode cX3_empty 37 = .ok (.invokevirtual 39, 3) := by decide +kernel
theorem dX3_empty_40 : decode cX3_empty 40 = .ok (.ireturn, 1) := by decide +kernel
set_option maxRecDepth 20000 in
theorem ggX3_clauseOf_X1_has : GoodIn wsX3_clauseOf wsX1_has := goodIn_r _ [6, 7, 46, 47, 48, 49, 50, 51, 52, 53, 54, 55, 56, 57, 58] (by decide +kernel) (by decide +kernel)
set_option maxRecDepth 20000 in
theorem gX3_clauseOf_X1_has_n63 : GoodIn wsX3_clauseOf (wsX1_has) := ggX3_clauseOf_X1_has
set_option maxRecDepth 20000 in
theorem ggX3_clauseOf_X3_at : GoodIn wsX3_clauseOf wsX3_at := goodIn_r _ [11] (by decide +kernel) (by decide +kernel)
set_option maxRecDepth 20000 in
theorem gX3_clauseOf_X3_at : GoodIn wsX3_clauseOf (va_wsS RX3 71 yX3_at wsX3_at) := goodIn_app (goodIn_of _ (by decide +kernel)) ggX3_clauseOf_X3_at
set_option maxRecDepth 20000 in
theorem ggX3_clauseOf_X1_greatestOf : GoodIn wsX3_clauseOf wsX1_greatestOf := goodIn_r _ [14, 15, 9, 10, 11, 46, 47, 48, 49, 50, 51, 52, 53, 54, 55, 56, 57, 58] (by decide +kernel) (by decide +kernel)
set_option maxRecDepth 20000 in
theorem gX3_clauseOf_X1_greatestOf_n78 : GoodIn wsX3_clauseOf (wsX1_greatestOf) := ggX3_clauseOf_X1_greatestOf
set_option maxRecDepth 20000 in
theorem ggX3_clauseOf_X3_foundOrNot : GoodIn wsX3_clauseOf wsX3_foundOrNot := goodIn_r _ [18, 19] (by decide +kernel) (by decide +kernel)
set_option maxRecDepth 20000 in
theorem gX3_clauseOf_X3_foundOrNot : GoodIn wsX3_clauseOf (va_wsS RX3 81 yX3_foundOrNot wsX3_foundOrNot) := goodIn_app (goodIn_of _ (by decide +kernel)) ggX3_clauseOf_X3_foundOrNot
set_option maxRecDepth 20000 in
theorem ggX3_clauseOf_J6_bitCount_0f7a4 : GoodIn wsX3_clauseOf wsJ6_bitCount_0f7a4 := goodIn_r _ [23, 24, 25, 26] (by decide +kernel) (by decide +kernel)
set_option maxRecDepth 20000 in
theorem gX3_clauseOf_J6_bitCount_0f7a4 : GoodIn wsX3_clauseOf (va_wsS RX3 93 yJ6_bitCount_0f7a4 wsJ6_bitCount_0f7a4) := goodIn_app (goodIn_of _ (by decide +kernel)) ggX3_clauseOf_J6_bitCount_0f7a4
set_option maxRecDepth 20000 in
theorem ggX3_clauseOf_X1_howManyLessThan : GoodIn wsX3_clauseOf wsX1_howManyLessThan := goodIn_r _ [29, 7, 30, 31, 32, 33, 4, 34, 35, 9, 10, 11, 36, 37, 38, 39, 40, 12, 13, 14, 15, 41, 42, 46, 47, 48, 49, 50, 51, 52, 53, 54, 55, 56, 57, 58] (by decide +kernel) (by decide +kernel)
set_option maxRecDepth 20000 in
theorem gX3_clauseOf_X1_howManyLessThan_n98 : GoodIn wsX3_clauseOf (wsX1_howManyLessThan) := ggX3_clauseOf_X1_howManyLessThan
theorem dX3_clauseOf_0 : decode cX3_clauseOf 0 = .ok (.aload_n 0, 1) := by decide +kernel
theorem dX3_clauseOf_1 : decode cX3_clauseOf 1 = .ok (.getfield 10, 3) := by decide +kernel
theorem dX3_clauseOf_4 : decode cX3_clauseOf 4 = .ok (.iload_n 1, 1) := by decide +kernel
theorem dX3_clauseOf_5 : decode cX3_clauseOf 5 = .ok (.invokevirtual 63, 3) := by decide +kernel
theorem dX3_clauseOf_8 : decode cX3_clauseOf 8 = .ok (.ifCond .ne 6, 3) := by decide +kernel
theorem dX3_clauseOf_11 : decode cX3_clauseOf 11 = .ok (.ldc 30, 2) := by decide +kernel
theorem dX3_clauseOf_13 : decode cX3_clauseOf 13 = .ok (.ireturn, 1) := by decide +kernel
theorem dX3_clauseOf_14 : decode cX3_clauseOf 14 = .ok (.iload_n 2, 1) := by decide +kernel
theorem dX3_clauseOf_15 : decode cX3_clauseOf 15 = .ok (.tableswitch 176 0 8 #[49, 61, 73, 95, 110, 125, 140, 155, 164], 49) := by decide +kernel
theorem dX3_clauseOf_64 : decode cX3_clauseOf 64 = .ok (.aload_n 0, 1) := by decide +kernel
theorem dX3_clauseOf_65 : decode cX3_clauseOf 65 = .ok (.getfield 10, 3) := by decide +kernel
theorem dX3_clauseOf_68 : decode cX3_clauseOf 68 = .ok (.getfield 67, 3) := by decide +kernel
theorem dX3_clauseOf_71 : decode cX3_clauseOf 71 = .ok (.iload_n 1, 1) := by decide +kernel
theorem dX3_clauseOf_72 : decode cX3_clauseOf 72 = .ok (.invokestatic 71, 3) := by decide +kernel
theorem dX3_clauseOf_75 : decode cX3_clauseOf 75 = .ok (.ireturn, 1) := by decide +kernel
theorem dX3_clauseOf_76 : decode cX3_clauseOf 76 = .ok (.aload_n 0, 1) := by decide +kernel
theorem dX3_clauseOf_77 : decode cX3_clauseOf 77 = .ok (.getfield 10, 3) := by decide +kernel
theorem dX3_clauseOf_80 : decode cX3_clauseOf 80 = .ok (.getfield 75, 3) := by decide +kernel
theorem dX3_clauseOf_83 : decode cX3_clauseOf 83 = .ok (.iload_n 1, 1) := by decide +kernel
theorem dX3_clauseOf_84 : decode cX3_clauseOf 84 = .ok (.invokestatic 71, 3) := by decide +kernel
theorem dX3_clauseOf_87 : decode cX3_clauseOf 87 = .ok (.ireturn, 1) := by decide +kernel
theorem dX3_clauseOf_88 : decode cX3_clauseOf 88 = .ok (.aload_n 0, 1) := by decide +kernel
theorem dX3_clauseOf_89 : decode cX3_clauseOf 89 = .ok (.getfield 10, 3) := by decide +kernel
theorem dX3_clauseOf_92 : decode cX3_clauseOf 92 = .ok (.aload_n 0, 1) := by decide +kernel
theorem dX3_clauseOf_93 : decode cX3_clauseOf 93 = .ok (.getfield 10, 3) := by decide +kernel
theorem dX3_clauseOf_96 : decode cX3_clauseOf 96 = .ok (.getfield 67, 3) := by decide +kernel
theorem dX3_clauseOf_99 : decode cX3_clauseOf 99 = .ok (.iload_n 1, 1) := by decide +kernel
theorem dX3_clauseOf_100 : decode cX3_clauseOf 100 = .ok (.invokestatic 71, 3) := by decide +kernel
theorem dX3_clauseOf_103 : decode cX3_clauseOf 103 = .ok (.invokevirtual 78, 3) := by decide +kernel
theorem dX3_clauseOf_106 : decode cX3_clauseOf 106 = .ok (.invokestatic 81, 3) := by decide +kernel
theorem dX3_clauseOf_109 : decode cX3_clauseOf 109 = .ok (.ireturn, 1) := by decide +kernel
theorem dX3_clauseOf_110 : decode cX3_clauseOf 110 = .ok (.aload_n 0, 1) := by decide +kernel
theorem dX3_clauseOf_111 : decode cX3_clauseOf 111 = .ok (.getfield 10, 3) := by decide +kernel
theorem dX3_clauseOf_114 : decode cX3_clauseOf 114 = .ok (.getfield 84, 3) := by decide +kernel
theorem dX3_clauseOf_117 : decode cX3_clauseOf 117 = .ok (.iload_n 1, 1) := by decide +kernel
theorem dX3_clauseOf_118 : decode cX3_clauseOf 118 = .ok (.invokestatic 71, 3) := by decide +kernel
theorem dX3_clauseOf_121 : decode cX3_clauseOf 121 = .ok (.invokestatic 81, 3) := by decide +kernel
theorem dX3_clauseOf_124 : decode cX3_clauseOf 124 = .ok (.ireturn, 1) := by decide +kernel
theorem dX3_clauseOf_125 : decode cX3_clauseOf 125 = .ok (.aload_n 0, 1) := by decide +kernel
theorem dX3_clauseOf_126 : decode cX3_clauseOf 126 = .ok (.getfield 10, 3) := by decide +kernel
theorem dX3_clauseOf_129 : decode cX3_clauseOf 129 = .ok (.getfield 87, 3) := by decide +kernel
theorem dX3_clauseOf_132 : decode cX3_clauseOf 132 = .ok (.iload_n 1, 1) := by decide +kernel
theorem dX3_clauseOf_133 : decode cX3_clauseOf 133 = .ok (.invokestatic 71, 3) := by decide +kernel
theorem dX3_clauseOf_136 : decode cX3_clauseOf 136 = .ok (.invokestatic 81, 3) := by decide +kernel
theorem dX3_clauseOf_139 : decode cX3_clauseOf 139 = .ok (.ireturn, 1) := by decide +kernel
theorem dX3_clauseOf_140 : decode cX3_clauseOf 140 = .ok (.aload_n 0, 1) := by decide +kernel
theorem dX3_clauseOf_141 : decode cX3_clauseOf 141 = .ok (.getfield 10, 3) := by decide +kernel
theorem dX3_clauseOf_144 : decode cX3_clauseOf 144 = .ok (.getfield 90, 3) := by decide +kernel
theorem dX3_clauseOf_147 : decode cX3_clauseOf 147 = .ok (.iload_n 1, 1) := by decide +kernel
theorem dX3_clauseOf_148 : decode cX3_clauseOf 148 = .ok (.invokestatic 71, 3) := by decide +kernel
theorem dX3_clauseOf_151 : decode cX3_clauseOf 151 = .ok (.invokestatic 81, 3) := by decide +kernel
theorem dX3_clauseOf_154 : decode cX3_clauseOf 154 = .ok (.ireturn, 1) := by decide +kernel
theorem dX3_clauseOf_155 : decode cX3_clauseOf 155 = .ok (.aload_n 0, 1) := by decide +kernel
theorem dX3_clauseOf_156 : decode cX3_clauseOf 156 = .ok (.getfield 10, 3) := by decide +kernel
theorem dX3_clauseOf_159 : decode cX3_clauseOf 159 = .ok (.getfield 67, 3) := by decide +kernel
theorem dX3_clauseOf_162 : decode cX3_clauseOf 162 = .ok (.iload_n 1, 1) := by decide +kernel
theorem dX3_clauseOf_163 : decode cX3_clauseOf 163 = .ok (.invokestatic 71, 3) := by decide +kernel
theorem dX3_clauseOf_166 : decode cX3_clauseOf 166 = .ok (.invokestatic 93, 3) := by decide +kernel
theorem dX3_clauseOf_169 : decode cX3_clauseOf 169 = .ok (.ireturn, 1) := by decide +kernel
theorem dX3_clauseOf_170 : decode cX3_clauseOf 170 = .ok (.aload_n 0, 1) := by decide +kernel
theorem dX3_clauseOf_171 : decode cX3_clauseOf 171 = .ok (.getfield 10, 3) := by decide +kernel
theorem dX3_clauseOf_174 : decode cX3_clauseOf 174 = .ok (.iload_n 1, 1) := by decide +kernel
theorem dX3_clauseOf_175 : decode cX3_clauseOf 175 = .ok (.invokevirtual 98, 3) := by decide +kernel
theorem dX3_clauseOf_178 : decode cX3_clauseOf 178 = .ok (.ireturn, 1) := by decide +kernel
theorem dX3_clauseOf_179 : decode cX3_clauseOf 179 = .ok (.aload_n 0, 1) := by decide +kernel
theorem dX3_clauseOf_180 : decode cX3_clauseOf 180 = .ok (.getfield 10, 3) := by decide +kernel
theorem dX3_clauseOf_183 : decode cX3_clauseOf 183 = .ok (.getfield 101, 3) := by decide +kernel
theorem dX3_clauseOf_186 : decode cX3_clauseOf 186 = .ok (.iload_n 1, 1) := by decide +kernel
theorem dX3_clauseOf_187 : decode cX3_clauseOf 187 = .ok (.invokestatic 71, 3) := by decide +kernel
theorem dX3_clauseOf_190 : decode cX3_clauseOf 190 = .ok (.ireturn, 1) := by decide +kernel
theorem dX3_clauseOf_191 : decode cX3_clauseOf 191 = .ok (.ldc 30, 2) := by decide +kernel
theorem dX3_clauseOf_193 : decode cX3_clauseOf 193 = .ok (.ireturn, 1) := by decide +kernel
set_option maxRecDepth 20000 in
theorem ggX3_tree_X1_has : GoodIn wsX3_tree wsX1_has := goodIn_r _ [6, 7, 23, 24, 25, 26, 27, 28, 29, 30, 31, 32, 33, 34, 35] (by decide +kernel) (by decide +kernel)
set_option maxRecDepth 20000 in
theorem gX3_tree_X1_has_n63 : GoodIn wsX3_tree (wsX1_has) := ggX3_tree_X1_has
set_option maxRecDepth 20000 in
theorem ggX3_tree_X1_treeOf : GoodIn wsX3_tree wsX1_treeOf := goodIn_r _ [10, 11, 12, 13, 14, 15, 16, 17, 18, 19, 23, 24, 25, 26, 27, 28, 29, 30, 31, 32, 33, 34, 35] (by decide +kernel) (by decide +kernel)
set_option maxRecDepth 20000 in
theorem gX3_tree_X1_treeOf_n104 : GoodIn wsX3_tree (wsX1_treeOf) := ggX3_tree_X1_treeOf
theorem dX3_tree_0 : decode cX3_tree 0 = .ok (.aload_n 0, 1) := by decide +kernel
theorem dX3_tree_1 : decode cX3_tree 1 = .ok (.getfield 10, 3) := by decide +kernel
theorem dX3_tree_4 : decode cX3_tree 4 = .ok (.iload_n 1, 1) := by decide +kernel
theorem dX3_tree_5 : decode cX3_tree 5 = .ok (.invokevirtual 63, 3) := by decide +kernel
theorem dX3_tree_8 : decode cX3_tree 8 = .ok (.ifCond .eq 14, 3) := by decide +kernel
theorem dX3_tree_11 : decode cX3_tree 11 = .ok (.aload_n 0, 1) := by decide +kernel
theorem dX3_tree_12 : decode cX3_tree 12 = .ok (.getfield 10, 3) := by decide +kernel
theorem dX3_tree_15 : decode cX3_tree 15 = .ok (.iload_n 1, 1) := by decide +kernel
theorem dX3_tree_16 : decode cX3_tree 16 = .ok (.invokevirtual 104, 3) := by decide +kernel
theorem dX3_tree_19 : decode cX3_tree 19 = .ok (.goto 6, 3) := by decide +kernel
theorem dX3_tree_22 : decode cX3_tree 22 = .ok (.ldc2_w 108, 3) := by decide +kernel
theorem dX3_tree_25 : decode cX3_tree 25 = .ok (.lreturn, 1) := by decide +kernel
set_option maxRecDepth 20000 in
theorem ggX3_refutation_X1_emptyClause : GoodIn wsX3_refutation wsX1_emptyClause := goodIn_r _ [5, 6, 7, 8, 9, 10, 18, 19, 20, 21, 22, 23, 24, 25, 26, 27, 28, 29, 30] (by decide +kernel) (by decide +kernel)
set_option maxRecDepth 20000 in
theorem gX3_refutation_X1_emptyClause_n114 : GoodIn wsX3_refutation (wsX1_emptyClause) := ggX3_refutation_X1_emptyClause
set_option maxRecDepth 20000 in
theorem ggX3_refutation_X3_foundOrNot : GoodIn wsX3_refutation wsX3_foundOrNot := goodIn_r _ [13, 14] (by decide +kernel) (by decide +kernel)
set_option maxRecDepth 20000 in
theorem gX3_refutation_X3_foundOrNot : GoodIn wsX3_refutation (va_wsS RX3 81 yX3_foundOrNot wsX3_foundOrNot) := goodIn_app (goodIn_of _ (by decide +kernel)) ggX3_refutation_X3_foundOrNot
theorem dX3_refutation_0 : decode cX3_refutation 0 = .ok (.aload_n 0, 1) := by decide +kernel
theorem dX3_refutation_1 : decode cX3_refutation 1 = .ok (.getfield 10, 3) := by decide +kernel
theorem dX3_refutation_4 : decode cX3_refutation 4 = .ok (.invokevirtual 114, 3) := by decide +kernel
theorem dX3_refutation_7 : decode cX3_refutation 7 = .ok (.invokestatic 81, 3) := by decide +kernel
theorem dX3_refutation_10 : decode cX3_refutation 10 = .ok (.ireturn, 1) := by decide +kernel
set_option maxRecDepth 20000 in
theorem ggX3_models_X1_toldClauses : GoodIn wsX3_models wsX1_toldClauses := goodIn_r _ [5, 6, 7, 8, 9, 3, 10, 11, 12, 13, 14, 15, 16, 36, 37, 38, 39, 40, 41, 42, 43, 44, 45, 46, 47, 48] (by decide +kernel) (by decide +kernel)
set_option maxRecDepth 20000 in
theorem gX3_models_X1_toldClauses_n117 : GoodIn wsX3_models (wsX1_toldClauses) := ggX3_models_X1_toldClauses
set_option maxRecDepth 20000 in
theorem ggX3_models_X1_valuesFulfilling : GoodIn wsX3_models wsX1_valuesFulfilling := goodIn_r _ [19, 20, 6, 21, 22, 13, 23, 24, 25, 36, 37, 38, 39, 40, 41, 42, 43, 44, 45, 46, 47, 48] (by decide +kernel) (by decide +kernel)
set_option maxRecDepth 20000 in
theorem gX3_models_X1_valuesFulfilling_n121 : GoodIn wsX3_models (wsX1_valuesFulfilling) := ggX3_models_X1_valuesFulfilling
set_option maxRecDepth 20000 in
theorem ggX3_models_J13_bitCount_95d88 : GoodIn wsX3_models wsJ13_bitCount_95d88 := goodIn_r _ [29, 30, 31, 32] (by decide +kernel) (by decide +kernel)
set_option maxRecDepth 20000 in
theorem gX3_models_J13_bitCount_95d88 : GoodIn wsX3_models (va_wsS RX3 125 yJ13_bitCount_95d88 wsJ13_bitCount_95d88) := goodIn_app (goodIn_of _ (by decide +kernel)) ggX3_models_J13_bitCount_95d88
end
section
theorem dX3_models_0 : decode cX3_models 0 = .ok (.aload_n 0, 1) := by decide +kernel
theorem dX3_models_1 : decode cX3_models 1 = .ok (.getfield 10, 3) := by decide +kernel
theorem dX3_models_4 : decode cX3_models 4 = .ok (.aload_n 0, 1) := by decide +kernel
theorem dX3_models_5 : decode cX3_models 5 = .ok (.getfield 10, 3) := by decide +kernel
theorem dX3_models_8 : decode cX3_models 8 = .ok (.invokevirtual 117, 3) := by decide +kernel
theorem dX3_models_11 : decode cX3_models 11 = .ok (.invokevirtual 121, 3) := by decide +kernel
theorem dX3_models_14 : decode cX3_models 14 = .ok (.invokestatic 125, 3) := by decide +kernel
theorem dX3_models_17 : decode cX3_models 17 = .ok (.ireturn, 1) := by decide +kernel
set_option maxRecDepth 20000 in
theorem ggX3_core_X1_toldClauses : GoodIn wsX3_core wsX1_toldClauses := goodIn_r _ [6, 7, 8, 9, 10, 4, 11, 12, 13, 14, 15, 16, 17, 34, 35, 36, 37, 38, 39, 40, 41, 42, 43, 44, 45, 46] (by decide +kernel) (by decide +kernel)
set_option maxRecDepth 20000 in
theorem gX3_core_X1_toldClauses_n117 : GoodIn wsX3_core (wsX1_toldClauses) := ggX3_core_X1_toldClauses
set_option maxRecDepth 20000 in
theorem ggX3_core_X1_valuesFulfilling : GoodIn wsX3_core wsX1_valuesFulfilling := goodIn_r _ [20, 21, 7, 22, 23, 14, 24, 25, 26, 34, 35, 36, 37, 38, 39, 40, 41, 42, 43, 44, 45, 46] (by decide +kernel) (by decide +kernel)
set_option maxRecDepth 20000 in
theorem gX3_core_X1_valuesFulfilling_n121 : GoodIn wsX3_core (wsX1_valuesFulfilling) := ggX3_core_X1_valuesFulfilling
set_option maxRecDepth 20000 in
theorem ggX3_core_X1_fewestUnfulfillable : GoodIn wsX3_core wsX1_fewestUnfulfillable := goodIn_r _ [29, 7, 21, 16, 14, 17, 30, 18, 19, 4, 20, 22, 23, 24, 25, 26, 34, 35, 36, 37, 38, 39, 40, 41, 42, 43, 44, 45, 46] (by decide +kernel) (by decide +kernel)
set_option maxRecDepth 20000 in
theorem gX3_core_X1_fewestUnfulfillable_n137 : GoodIn wsX3_core (wsX1_fewestUnfulfillable) := ggX3_core_X1_fewestUnfulfillable
theorem dX3_core_0 : decode cX3_core 0 = .ok (.aload_n 0, 1) := by decide +kernel
theorem dX3_core_1 : decode cX3_core 1 = .ok (.getfield 10, 3) := by decide +kernel
theorem dX3_core_4 : decode cX3_core 4 = .ok (.invokevirtual 117, 3) := by decide +kernel
theorem dX3_core_7 : decode cX3_core 7 = .ok (.lstore_n 1, 1) := by decide +kernel
theorem dX3_core_8 : decode cX3_core 8 = .ok (.aload_n 0, 1) := by decide +kernel
theorem dX3_core_9 : decode cX3_core 9 = .ok (.getfield 10, 3) := by decide +kernel
theorem dX3_core_12 : decode cX3_core 12 = .ok (.lload_n 1, 1) := by decide +kernel
theorem dX3_core_13 : decode cX3_core 13 = .ok (.invokevirtual 121, 3) := by decide +kernel
theorem dX3_core_16 : decode cX3_core 16 = .ok (.lconst 0, 1) := by decide +kernel
theorem dX3_core_17 : decode cX3_core 17 = .ok (.lcmp, 1) := by decide +kernel
theorem dX3_core_18 : decode cX3_core 18 = .ok (.ifCond .ne 14, 3) := by decide +kernel
theorem dX3_core_21 : decode cX3_core 21 = .ok (.aload_n 0, 1) := by decide +kernel
theorem dX3_core_22 : decode cX3_core 22 = .ok (.getfield 10, 3) := by decide +kernel
theorem dX3_core_25 : decode cX3_core 25 = .ok (.lload_n 1, 1) := by decide +kernel
theorem dX3_core_26 : decode cX3_core 26 = .ok (.invokevirtual 137, 3) := by decide +kernel
theorem dX3_core_29 : decode cX3_core 29 = .ok (.goto 6, 3) := by decide +kernel
theorem dX3_core_32 : decode cX3_core 32 = .ok (.ldc2_w 140, 3) := by decide +kernel
theorem dX3_core_35 : decode cX3_core 35 = .ok (.lreturn, 1) := by decide +kernel
set_option maxRecDepth 20000 in
theorem ggX3_follows_X1_toldClauses : GoodIn wsX3_follows wsX1_toldClauses := goodIn_r _ [7, 8, 9, 10, 11, 5, 12, 13, 14, 15, 16, 17, 18, 36, 37, 38, 39, 40, 41, 42, 43, 44, 45, 46, 47, 48] (by decide +kernel) (by decide +kernel)
set_option maxRecDepth 20000 in
theorem gX3_follows_X1_toldClauses_n117 : GoodIn wsX3_follows (wsX1_toldClauses) := ggX3_follows_X1_toldClauses
set_option maxRecDepth 20000 in
theorem ggX3_follows_X1_valuesFulfilling : GoodIn wsX3_follows wsX1_valuesFulfilling := goodIn_r _ [21, 22, 8, 23, 24, 15, 25, 26, 27, 36, 37, 38, 39, 40, 41, 42, 43, 44, 45, 46, 47, 48] (by decide +kernel) (by decide +kernel)
set_option maxRecDepth 20000 in
theorem gX3_follows_X1_valuesFulfilling_n121 : GoodIn wsX3_follows (wsX1_valuesFulfilling) := ggX3_follows_X1_valuesFulfilling
set_option maxRecDepth 20000 in
theorem ggX3_follows_X3_valuesOfClause : GoodIn wsX3_follows wsX3_valuesOfClause := goodIn_r _ [30, 31, 3, 32, 26, 15, 27] (by decide +kernel) (by decide +kernel)
set_option maxRecDepth 20000 in
theorem gX3_follows_X3_valuesOfClause : GoodIn wsX3_follows (va_wsS RX3 142 yX3_valuesOfClause wsX3_valuesOfClause) := goodIn_app (goodIn_of _ (by decide +kernel)) ggX3_follows_X3_valuesOfClause
theorem dX3_follows_0 : decode cX3_follows 0 = .ok (.iload_n 1, 1) := by decide +kernel
theorem dX3_follows_1 : decode cX3_follows 1 = .ok (.ifCond .lt 10, 3) := by decide +kernel
theorem dX3_follows_4 : decode cX3_follows 4 = .ok (.iload_n 1, 1) := by decide +kernel
theorem dX3_follows_5 : decode cX3_follows 5 = .ok (.sipush 4095, 3) := by decide +kernel
theorem dX3_follows_8 : decode cX3_follows 8 = .ok (.if_icmp .le 6, 3) := by decide +kernel
theorem dX3_follows_11 : decode cX3_follows 11 = .ok (.ldc 30, 2) := by decide +kernel
theorem dX3_follows_13 : decode cX3_follows 13 = .ok (.ireturn, 1) := by decide +kernel
theorem dX3_follows_14 : decode cX3_follows 14 = .ok (.aload_n 0, 1) := by decide +kernel
theorem dX3_follows_15 : decode cX3_follows 15 = .ok (.getfield 10, 3) := by decide +kernel
theorem dX3_follows_18 : decode cX3_follows 18 = .ok (.aload_n 0, 1) := by decide +kernel
theorem dX3_follows_19 : decode cX3_follows 19 = .ok (.getfield 10, 3) := by decide +kernel
theorem dX3_follows_22 : decode cX3_follows 22 = .ok (.invokevirtual 117, 3) := by decide +kernel
theorem dX3_follows_25 : decode cX3_follows 25 = .ok (.invokevirtual 121, 3) := by decide +kernel
theorem dX3_follows_28 : decode cX3_follows 28 = .ok (.lstore_n 2, 1) := by decide +kernel
theorem dX3_follows_29 : decode cX3_follows 29 = .ok (.lload_n 2, 1) := by decide +kernel
theorem dX3_follows_30 : decode cX3_follows 30 = .ok (.iload_n 1, 1) := by decide +kernel
theorem dX3_follows_31 : decode cX3_follows 31 = .ok (.invokestatic 142, 3) := by decide +kernel
theorem dX3_follows_34 : decode cX3_follows 34 = .ok (.ldc2_w 145, 3) := by decide +kernel
theorem dX3_follows_37 : decode cX3_follows 37 = .ok (.lxor, 1) := by decide +kernel
theorem dX3_follows_38 : decode cX3_follows 38 = .ok (.land, 1) := by decide +kernel
theorem dX3_follows_39 : decode cX3_follows 39 = .ok (.lconst 0, 1) := by decide +kernel
theorem dX3_follows_40 : decode cX3_follows 40 = .ok (.lcmp, 1) := by decide +kernel
theorem dX3_follows_41 : decode cX3_follows 41 = .ok (.ifCond .ne 7, 3) := by decide +kernel
theorem dX3_follows_44 : decode cX3_follows 44 = .ok (.iconst 1, 1) := by decide +kernel
theorem dX3_follows_45 : decode cX3_follows 45 = .ok (.goto 4, 3) := by decide +kernel
theorem dX3_follows_48 : decode cX3_follows 48 = .ok (.iconst 0, 1) := by decide +kernel
theorem dX3_follows_49 : decode cX3_follows 49 = .ok (.ireturn, 1) := by decide +kernel
set_option maxRecDepth 20000 in
theorem ggX3_share_X3_valuesOfClause : GoodIn wsX3_share wsX3_valuesOfClause := goodIn_r _ [5, 6, 7, 8, 9, 4, 10] (by decide +kernel) (by decide +kernel)
set_option maxRecDepth 20000 in
theorem gX3_share_X3_valuesOfClause : GoodIn wsX3_share (va_wsS RX3 142 yX3_valuesOfClause wsX3_valuesOfClause) := goodIn_app (goodIn_of _ (by decide +kernel)) ggX3_share_X3_valuesOfClause
set_option maxRecDepth 20000 in
theorem ggX3_share_J13_bitCount_95d88 : GoodIn wsX3_share wsJ13_bitCount_95d88 := goodIn_r _ [14, 15, 16, 17] (by decide +kernel) (by decide +kernel)
set_option maxRecDepth 20000 in
theorem gX3_share_J13_bitCount_95d88 : GoodIn wsX3_share (va_wsS RX3 125 yJ13_bitCount_95d88 wsJ13_bitCount_95d88) := goodIn_app (goodIn_of _ (by decide +kernel)) ggX3_share_J13_bitCount_95d88
set_option maxRecDepth 20000 in
theorem ggX3_share_X3_floatBitsOf64ths : GoodIn wsX3_share wsX3_floatBitsOf64ths := goodIn_r _ [20, 21] (by decide +kernel) (by decide +kernel)
set_option maxRecDepth 20000 in
theorem gX3_share_X3_floatBitsOf64ths : GoodIn wsX3_share (va_wsS RX3 147 yX3_floatBitsOf64ths wsX3_floatBitsOf64ths) := goodIn_app (goodIn_of _ (by decide +kernel)) ggX3_share_X3_floatBitsOf64ths
theorem dX3_share_0 : decode cX3_share 0 = .ok (.iload_n 1, 1) := by decide +kernel
theorem dX3_share_1 : decode cX3_share 1 = .ok (.ifCond .lt 10, 3) := by decide +kernel
theorem dX3_share_4 : decode cX3_share 4 = .ok (.iload_n 1, 1) := by decide +kernel
theorem dX3_share_5 : decode cX3_share 5 = .ok (.sipush 4095, 3) := by decide +kernel
theorem dX3_share_8 : decode cX3_share 8 = .ok (.if_icmp .le 6, 3) := by decide +kernel
theorem dX3_share_11 : decode cX3_share 11 = .ok (.ldc 30, 2) := by decide +kernel
theorem dX3_share_13 : decode cX3_share 13 = .ok (.ireturn, 1) := by decide +kernel
theorem dX3_share_14 : decode cX3_share 14 = .ok (.iload_n 1, 1) := by decide +kernel
theorem dX3_share_15 : decode cX3_share 15 = .ok (.invokestatic 142, 3) := by decide +kernel
theorem dX3_share_18 : decode cX3_share 18 = .ok (.invokestatic 125, 3) := by decide +kernel
theorem dX3_share_21 : decode cX3_share 21 = .ok (.invokestatic 147, 3) := by decide +kernel
theorem dX3_share_24 : decode cX3_share 24 = .ok (.ireturn, 1) := by decide +kernel
set_option maxRecDepth 20000 in
theorem ggX3_count_X1_howMany : GoodIn wsX3_count wsX1_howMany := goodIn_r _ [8, 9, 10, 11, 12, 13, 21, 22, 23, 24, 25, 26, 27, 28, 29, 30, 31, 32, 33] (by decide +kernel) (by decide +kernel)
set_option maxRecDepth 20000 in
theorem gX3_count_X1_howMany_n150 : GoodIn wsX3_count (wsX1_howMany) := ggX3_count_X1_howMany
set_option maxRecDepth 20000 in
theorem ggX3_count_X1_rankOf : GoodIn wsX3_count wsX1_rankOf := goodIn_r _ [16, 17, 11, 12, 13, 21, 22, 23, 24, 25, 26, 27, 28, 29, 30, 31, 32, 33] (by decide +kernel) (by decide +kernel)
set_option maxRecDepth 20000 in
theorem gX3_count_X1_rankOf_n165 : GoodIn wsX3_count (wsX1_rankOf) := ggX3_count_X1_rankOf
theorem dX3_count_0 : decode cX3_count 0 = .ok (.iload_n 1, 1) := by decide +kernel
theorem dX3_count_1 : decode cX3_count 1 = .ok (.tableswitch 138 0 9 #[55, 63, 72, 81, 90, 98, 106, 114, 122, 130], 55) := by decide +kernel
theorem dX3_count_56 : decode cX3_count 56 = .ok (.aload_n 0, 1) := by decide +kernel
theorem dX3_count_57 : decode cX3_count 57 = .ok (.getfield 10, 3) := by decide +kernel
theorem dX3_count_60 : decode cX3_count 60 = .ok (.getfield 57, 3) := by decide +kernel
theorem dX3_count_63 : decode cX3_count 63 = .ok (.ireturn, 1) := by decide +kernel
theorem dX3_count_64 : decode cX3_count 64 = .ok (.aload_n 0, 1) := by decide +kernel
theorem dX3_count_65 : decode cX3_count 65 = .ok (.getfield 10, 3) := by decide +kernel
theorem dX3_count_68 : decode cX3_count 68 = .ok (.iconst 0, 1) := by decide +kernel
theorem dX3_count_69 : decode cX3_count 69 = .ok (.invokevirtual 150, 3) := by decide +kernel
theorem dX3_count_72 : decode cX3_count 72 = .ok (.ireturn, 1) := by decide +kernel
theorem dX3_count_73 : decode cX3_count 73 = .ok (.aload_n 0, 1) := by decide +kernel
theorem dX3_count_74 : decode cX3_count 74 = .ok (.getfield 10, 3) := by decide +kernel
theorem dX3_count_77 : decode cX3_count 77 = .ok (.iconst 1, 1) := by decide +kernel
theorem dX3_count_78 : decode cX3_count 78 = .ok (.invokevirtual 150, 3) := by decide +kernel
theorem dX3_count_81 : decode cX3_count 81 = .ok (.ireturn, 1) := by decide +kernel
theorem dX3_count_82 : decode cX3_count 82 = .ok (.aload_n 0, 1) := by decide +kernel
theorem dX3_count_83 : decode cX3_count 83 = .ok (.getfield 10, 3) := by decide +kernel
theorem dX3_count_86 : decode cX3_count 86 = .ok (.iconst 2, 1) := by decide +kernel
theorem dX3_count_87 : decode cX3_count 87 = .ok (.invokevirtual 150, 3) := by decide +kernel
theorem dX3_count_90 : decode cX3_count 90 = .ok (.ireturn, 1) := by decide +kernel
theorem dX3_count_91 : decode cX3_count 91 = .ok (.aload_n 0, 1) := by decide +kernel
theorem dX3_count_92 : decode cX3_count 92 = .ok (.getfield 10, 3) := by decide +kernel
theorem dX3_count_95 : decode cX3_count 95 = .ok (.getfield 60, 3) := by decide +kernel
theorem dX3_count_98 : decode cX3_count 98 = .ok (.ireturn, 1) := by decide +kernel
theorem dX3_count_99 : decode cX3_count 99 = .ok (.aload_n 0, 1) := by decide +kernel
theorem dX3_count_100 : decode cX3_count 100 = .ok (.getfield 10, 3) := by decide +kernel
theorem dX3_count_103 : decode cX3_count 103 = .ok (.getfield 47, 3) := by decide +kernel
theorem dX3_count_106 : decode cX3_count 106 = .ok (.ireturn, 1) := by decide +kernel
theorem dX3_count_107 : decode cX3_count 107 = .ok (.aload_n 0, 1) := by decide +kernel
theorem dX3_count_108 : decode cX3_count 108 = .ok (.getfield 10, 3) := by decide +kernel
theorem dX3_count_111 : decode cX3_count 111 = .ok (.getfield 153, 3) := by decide +kernel
theorem dX3_count_114 : decode cX3_count 114 = .ok (.ireturn, 1) := by decide +kernel
theorem dX3_count_115 : decode cX3_count 115 = .ok (.aload_n 0, 1) := by decide +kernel
theorem dX3_count_116 : decode cX3_count 116 = .ok (.getfield 10, 3) := by decide +kernel
theorem dX3_count_119 : decode cX3_count 119 = .ok (.getfield 156, 3) := by decide +kernel
theorem dX3_count_122 : decode cX3_count 122 = .ok (.ireturn, 1) := by decide +kernel
theorem dX3_count_123 : decode cX3_count 123 = .ok (.aload_n 0, 1) := by decide +kernel
theorem dX3_count_124 : decode cX3_count 124 = .ok (.getfield 19, 3) := by decide +kernel
theorem dX3_count_127 : decode cX3_count 127 = .ok (.getfield 159, 3) := by decide +kernel
theorem dX3_count_130 : decode cX3_count 130 = .ok (.ireturn, 1) := by decide +kernel
theorem dX3_count_131 : decode cX3_count 131 = .ok (.aload_n 0, 1) := by decide +kernel
theorem dX3_count_132 : decode cX3_count 132 = .ok (.getfield 26, 3) := by decide +kernel
theorem dX3_count_135 : decode cX3_count 135 = .ok (.getfield 162, 3) := by decide +kernel
theorem dX3_count_138 : decode cX3_count 138 = .ok (.ireturn, 1) := by decide +kernel
theorem dX3_count_139 : decode cX3_count 139 = .ok (.iload_n 1, 1) := by decide +kernel
theorem dX3_count_140 : decode cX3_count 140 = .ok (.bipush 10, 2) := by decide +kernel
theorem dX3_count_142 : decode cX3_count 142 = .ok (.if_icmp .lt 23, 3) := by decide +kernel
theorem dX3_count_145 : decode cX3_count 145 = .ok (.iload_n 1, 1) := by decide +kernel
theorem dX3_count_146 : decode cX3_count 146 = .ok (.bipush 16, 2) := by decide +kernel
theorem dX3_count_148 : decode cX3_count 148 = .ok (.if_icmp .ge 17, 3) := by decide +kernel
theorem dX3_count_151 : decode cX3_count 151 = .ok (.aload_n 0, 1) := by decide +kernel
theorem dX3_count_152 : decode cX3_count 152 = .ok (.getfield 10, 3) := by decide +kernel
theorem dX3_count_155 : decode cX3_count 155 = .ok (.iload_n 1, 1) := by decide +kernel
theorem dX3_count_156 : decode cX3_count 156 = .ok (.bipush 10, 2) := by decide +kernel
theorem dX3_count_158 : decode cX3_count 158 = .ok (.isub, 1) := by decide +kernel
theorem dX3_count_159 : decode cX3_count 159 = .ok (.invokevirtual 165, 3) := by decide +kernel
theorem dX3_count_162 : decode cX3_count 162 = .ok (.goto 5, 3) := by decide +kernel
theorem dX3_count_165 : decode cX3_count 165 = .ok (.ldc 30, 2) := by decide +kernel
theorem dX3_count_167 : decode cX3_count 167 = .ok (.ireturn, 1) := by decide +kernel
set_option maxRecDepth 20000 in
theorem ggX3_undo_X0_restoreLatest : GoodIn wsX3_undo wsX0_restoreLatest := goodIn_r _ [7, 8, 9, 10, 11, 5, 12, 13, 14, 15, 16, 17, 18, 19, 20, 21, 22, 23, 24, 25, 26, 27, 28, 29, 30, 31, 32, 33, 34, 35, 36, 37, 38, 39, 40, 41, 42, 43, 47, 48, 49, 50, 51, 52, 53, 54, 55, 56, 57, 58, 59, 60, 61] (by decide +kernel) (by decide +kernel)
set_option maxRecDepth 20000 in
theorem gX3_undo_X0_restoreLatest_n168 : GoodIn wsX3_undo (wsX0_restoreLatest) := ggX3_undo_X0_restoreLatest
theorem dX3_undo_0 : decode cX3_undo 0 = .ok (.aload_n 0, 1) := by decide +kernel
theorem dX3_undo_1 : decode cX3_undo 1 = .ok (.getfield 19, 3) := by decide +kernel
theorem dX3_undo_4 : decode cX3_undo 4 = .ok (.aload_n 0, 1) := by decide +kernel
theorem dX3_undo_5 : decode cX3_undo 5 = .ok (.getfield 10, 3) := by decide +kernel
theorem dX3_undo_8 : decode cX3_undo 8 = .ok (.invokevirtual 168, 3) := by decide +kernel
theorem dX3_undo_11 : decode cX3_undo 11 = .ok (.ifCond .eq 13, 3) := by decide +kernel
theorem dX3_undo_14 : decode cX3_undo 14 = .ok (.aload_n 0, 1) := by decide +kernel
theorem dX3_undo_15 : decode cX3_undo 15 = .ok (.getfield 19, 3) := by decide +kernel
theorem dX3_undo_18 : decode cX3_undo 18 = .ok (.getfield 159, 3) := by decide +kernel
theorem dX3_undo_21 : decode cX3_undo 21 = .ok (.goto 5, 3) := by decide +kernel
theorem dX3_undo_24 : decode cX3_undo 24 = .ok (.ldc 56, 2) := by decide +kernel
theorem dX3_undo_26 : decode cX3_undo 26 = .ok (.ireturn, 1) := by decide +kernel
set_option maxRecDepth 20000 in
theorem ggX3_type_X2_add : GoodIn wsX3_type wsX2_add := goodIn_r _ [7, 8, 9, 10, 11, 12, 16, 17] (by decide +kernel) (by decide +kernel)
set_option maxRecDepth 20000 in
theorem gX3_type_X2_add_n172 : GoodIn wsX3_type (wsX2_add) := ggX3_type_X2_add
theorem dX3_type_0 : decode cX3_type 0 = .ok (.iload_n 1, 1) := by decide +kernel
theorem dX3_type_1 : decode cX3_type 1 = .ok (.bipush 32, 2) := by decide +kernel
theorem dX3_type_3 : decode cX3_type 3 = .ok (.if_icmp .lt 9, 3) := by decide +kernel
theorem dX3_type_6 : decode cX3_type 6 = .ok (.iload_n 1, 1) := by decide +kernel
theorem dX3_type_7 : decode cX3_type 7 = .ok (.bipush 126, 2) := by decide +kernel
theorem dX3_type_9 : decode cX3_type 9 = .ok (.if_icmp .le 6, 3) := by decide +kernel
theorem dX3_type_12 : decode cX3_type 12 = .ok (.ldc 30, 2) := by decide +kernel
theorem dX3_type_14 : decode cX3_type 14 = .ok (.ireturn, 1) := by decide +kernel
theorem dX3_type_15 : decode cX3_type 15 = .ok (.aload_n 0, 1) := by decide +kernel
theorem dX3_type_16 : decode cX3_type 16 = .ok (.getfield 26, 3) := by decide +kernel
theorem dX3_type_19 : decode cX3_type 19 = .ok (.iload_n 1, 1) := by decide +kernel
theorem dX3_type_20 : decode cX3_type 20 = .ok (.invokevirtual 172, 3) := by decide +kernel
theorem dX3_type_23 : decode cX3_type 23 = .ok (.ifCond .eq 13, 3) := by decide +kernel
theorem dX3_type_26 : decode cX3_type 26 = .ok (.aload_n 0, 1) := by decide +kernel
theorem dX3_type_27 : decode cX3_type 27 = .ok (.getfield 26, 3) := by decide +kernel
theorem dX3_type_30 : decode cX3_type 30 = .ok (.getfield 162, 3) := by decide +kernel
theorem dX3_type_33 : decode cX3_type 33 = .ok (.goto 5, 3) := by decide +kernel
theorem dX3_type_36 : decode cX3_type 36 = .ok (.ldc 55, 2) := by decide +kernel
theorem dX3_type_38 : decode cX3_type 38 = .ok (.ireturn, 1) := by decide +kernel
theorem dX3_clearText_0 : decode cX3_clearText 0 = .ok (.aload_n 0, 1) := by decide +kernel
theorem dX3_clearText_1 : decode cX3_clearText 1 = .ok (.getfield 26, 3) := by decide +kernel
theorem dX3_clearText_4 : decode cX3_clearText 4 = .ok (.getfield 162, 3) := by decide +kernel
theorem dX3_clearText_7 : decode cX3_clearText 7 = .ok (.istore_n 1, 1) := by decide +kernel
theorem dX3_clearText_8 : decode cX3_clearText 8 = .ok (.aload_n 0, 1) := by decide +kernel
theorem dX3_clearText_9 : decode cX3_clearText 9 = .ok (.getfield 26, 3) := by decide +kernel
theorem dX3_clearText_12 : decode cX3_clearText 12 = .ok (.iconst 0, 1) := by decide +kernel
theorem dX3_clearText_13 : decode cX3_clearText 13 = .ok (.putfield 162, 3) := by decide +kernel
theorem dX3_clearText_16 : decode cX3_clearText 16 = .ok (.iload_n 1, 1) := by decide +kernel
theorem dX3_clearText_17 : decode cX3_clearText 17 = .ok (.ireturn, 1) := by decide +kernel
set_option maxRecDepth 20000 in
theorem ggX3_fault_X2_whereItBreaksOff : GoodIn wsX3_fault wsX2_whereItBreaksOff := goodIn_r _ [7, 8, 9, 10, 11, 12, 19, 20] (by decide +kernel) (by decide +kernel)
set_option maxRecDepth 20000 in
theorem gX3_fault_X2_whereItBreaksOff_n175 : GoodIn wsX3_fault (wsX2_whereItBreaksOff) := ggX3_fault_X2_whereItBreaksOff
set_option maxRecDepth 20000 in
theorem ggX3_fault_X2_startOfClause : GoodIn wsX3_fault wsX2_startOfClause := goodIn_r _ [15, 9, 10, 11, 12, 19, 20] (by decide +kernel) (by decide +kernel)
set_option maxRecDepth 20000 in
theorem gX3_fault_X2_startOfClause_n178 : GoodIn wsX3_fault (wsX2_startOfClause) := ggX3_fault_X2_startOfClause
theorem dX3_fault_0 : decode cX3_fault 0 = .ok (.iload_n 1, 1) := by decide +kernel
theorem dX3_fault_1 : decode cX3_fault 1 = .ok (.ifCond .lt 8, 3) := by decide +kernel
theorem dX3_fault_4 : decode cX3_fault 4 = .ok (.iload_n 1, 1) := by decide +kernel
theorem dX3_fault_5 : decode cX3_fault 5 = .ok (.iconst 1, 1) := by decide +kernel
theorem dX3_fault_6 : decode cX3_fault 6 = .ok (.if_icmp .le 6, 3) := by decide +kernel
theorem dX3_fault_9 : decode cX3_fault 9 = .ok (.ldc 30, 2) := by decide +kernel
theorem dX3_fault_11 : decode cX3_fault 11 = .ok (.ireturn, 1) := by decide +kernel
theorem dX3_fault_12 : decode cX3_fault 12 = .ok (.aload_n 0, 1) := by decide +kernel
theorem dX3_fault_13 : decode cX3_fault 13 = .ok (.getfield 26, 3) := by decide +kernel
theorem dX3_fault_16 : decode cX3_fault 16 = .ok (.invokevirtual 175, 3) := by decide +kernel
theorem dX3_fault_19 : decode cX3_fault 19 = .ok (.istore_n 2, 1) := by decide +kernel
theorem dX3_fault_20 : decode cX3_fault 20 = .ok (.iload_n 2, 1) := by decide +kernel
theorem dX3_fault_21 : decode cX3_fault 21 = .ok (.iconst (-1), 1) := by decide +kernel
theorem dX3_fault_22 : decode cX3_fault 22 = .ok (.if_icmp .ne 6, 3) := by decide +kernel
theorem dX3_fault_25 : decode cX3_fault 25 = .ok (.ldc 133, 2) := by decide +kernel
theorem dX3_fault_27 : decode cX3_fault 27 = .ok (.ireturn, 1) := by decide +kernel
theorem dX3_fault_28 : decode cX3_fault 28 = .ok (.aload_n 0, 1) := by decide +kernel
theorem dX3_fault_29 : decode cX3_fault 29 = .ok (.getfield 26, 3) := by decide +kernel
theorem dX3_fault_32 : decode cX3_fault 32 = .ok (.iload_n 2, 1) := by decide +kernel
theorem dX3_fault_33 : decode cX3_fault 33 = .ok (.invokevirtual 178, 3) := by decide +kernel
theorem dX3_fault_36 : decode cX3_fault 36 = .ok (.istore_n 3, 1) := by decide +kernel
theorem dX3_fault_37 : decode cX3_fault 37 = .ok (.iload_n 1, 1) := by decide +kernel
theorem dX3_fault_38 : decode cX3_fault 38 = .ok (.ifCond .ne 7, 3) := by decide +kernel
theorem dX3_fault_41 : decode cX3_fault 41 = .ok (.iload_n 3, 1) := by decide +kernel
theorem dX3_fault_42 : decode cX3_fault 42 = .ok (.goto 6, 3) := by decide +kernel
theorem dX3_fault_45 : decode cX3_fault 45 = .ok (.iload_n 2, 1) := by decide +kernel
theorem dX3_fault_46 : decode cX3_fault 46 = .ok (.iload_n 3, 1) := by decide +kernel
theorem dX3_fault_47 : decode cX3_fault 47 = .ok (.isub, 1) := by decide +kernel
theorem dX3_fault_48 : decode cX3_fault 48 = .ok (.ireturn, 1) := by decide +kernel
set_option maxRecDepth 20000 in
theorem ggX3_play_X2_whereItBreaksOff : GoodIn wsX3_play wsX2_whereItBreaksOff := goodIn_r _ [8, 9, 10, 11, 12, 13, 115, 116] (by decide +kernel) (by decide +kernel)
set_option maxRecDepth 20000 in
theorem gX3_play_X2_whereItBreaksOff_n175 : GoodIn wsX3_play (wsX2_whereItBreaksOff) := ggX3_play_X2_whereItBreaksOff
set_option maxRecDepth 20000 in
theorem ggX3_play_X0_putAside : GoodIn wsX3_play wsX0_putAside := goodIn_r _ [17, 18, 19, 20, 21, 15, 22, 23, 24, 25, 26, 27, 28, 29, 30, 31, 32, 33, 34, 35, 36, 37, 38, 39, 40, 41, 12, 42, 43, 44, 45, 46, 47, 48, 49, 50, 51, 52, 117, 118, 119, 120, 121, 122, 123, 124, 125, 126, 127, 128, 129, 130, 131] (by decide +kernel) (by decide +kernel)
set_option maxRecDepth 20000 in
theorem gX3_play_X0_putAside_n31 : GoodIn wsX3_play (wsX0_putAside) := ggX3_play_X0_putAside
set_option maxRecDepth 20000 in
theorem ggX3_play_X3_bringText : GoodIn wsX3_play wsX3_bringText := goodIn_r _ [56, 1, 4, 57, 58, 11, 12, 13, 59, 25, 60, 61, 39, 40, 36, 62, 63, 64, 65, 66, 67, 68, 29, 69, 70, 71, 72, 30, 73, 74, 75, 76, 77, 78, 79, 80, 81, 82, 83, 84, 31, 32, 33, 34, 85, 86, 45, 87, 35, 88, 89, 90, 91, 92, 93, 94, 95, 96, 112, 113, 114, 115, 116, 119, 120, 121, 122, 123, 124, 125, 126, 127, 128, 129, 130, 131] (by decide +kernel) (by decide +kernel)
set_option maxRecDepth 20000 in
theorem gX3_play_X3_bringText : GoodIn wsX3_play (wsV RX3 181 RX3 yX3_bringText wsX3_bringText) := goodIn_app (goodIn_of _ (by decide +kernel)) ggX3_play_X3_bringText
set_option maxRecDepth 20000 in
theorem ggX3_play_X3_settle : GoodIn wsX3_play wsX3_settle := goodIn_r _ [100, 101, 3, 4, 102, 15, 103, 104, 18, 19, 20, 21, 22, 23, 24, 25, 26, 27, 28, 29, 30, 31, 32, 33, 34, 35, 36, 37, 38, 39, 40, 41, 12, 42, 43, 44, 45, 46, 47, 48, 49, 50, 51, 52, 105, 106, 107, 108, 109, 110, 111, 112, 113, 114, 117, 118, 119, 120, 121, 122, 123, 124, 125, 126, 127, 128, 129, 130, 131] (by decide +kernel) (by decide +kernel)
set_option maxRecDepth 20000 in
theorem gX3_play_X3_settle : GoodIn wsX3_play (wsV RX3 39 RX3 yX3_settle wsX3_settle) := goodIn_app (goodIn_of _ (by decide +kernel)) ggX3_play_X3_settle
theorem dX3_play_0 : decode cX3_play 0 = .ok (.aload_n 0, 1) := by decide +kernel
theorem dX3_play_1 : decode cX3_play 1 = .ok (.getfield 26, 3) := by decide +kernel
theorem dX3_play_4 : decode cX3_play 4 = .ok (.invokevirtual 175, 3) := by decide +kernel
theorem dX3_play_7 : decode cX3_play 7 = .ok (.iconst (-1), 1) := by decide +kernel
theorem dX3_play_8 : decode cX3_play 8 = .ok (.if_icmp .eq 6, 3) := by decide +kernel
theorem dX3_play_11 : decode cX3_play 11 = .ok (.ldc 56, 2) := by decide +kernel
theorem dX3_play_13 : decode cX3_play 13 = .ok (.ireturn, 1) := by decide +kernel
theorem dX3_play_14 : decode cX3_play 14 = .ok (.aload_n 0, 1) := by decide +kernel
theorem dX3_play_15 : decode cX3_play 15 = .ok (.getfield 19, 3) := by decide +kernel
theorem dX3_play_18 : decode cX3_play 18 = .ok (.aload_n 0, 1) := by decide +kernel
theorem dX3_play_19 : decode cX3_play 19 = .ok (.getfield 10, 3) := by decide +kernel
theorem dX3_play_22 : decode cX3_play 22 = .ok (.invokevirtual 31, 3) := by decide +kernel
theorem dX3_play_25 : decode cX3_play 25 = .ok (.aload_n 0, 1) := by decide +kernel
theorem dX3_play_26 : decode cX3_play 26 = .ok (.aload_n 0, 1) := by decide +kernel
theorem dX3_play_27 : decode cX3_play 27 = .ok (.invokevirtual 181, 3) := by decide +kernel
theorem dX3_play_30 : decode cX3_play 30 = .ok (.invokevirtual 39, 3) := by decide +kernel
theorem dX3_play_33 : decode cX3_play 33 = .ok (.ireturn, 1) := by decide +kernel
set_option maxRecDepth 20000 in
theorem ggX3_settle_X0_takeBack : GoodIn wsX3_settle wsX0_takeBack := goodIn_r _ [7, 8, 9, 10, 11, 5, 12, 13, 14, 15, 16, 17, 18, 19, 20, 21, 22, 23, 24, 25, 26, 27, 28, 29, 30, 31, 32, 33, 34, 35, 36, 37, 38, 39, 40, 41, 42, 43, 54, 55, 56, 57, 58, 59, 60, 61, 62, 63, 64, 65, 66, 67, 68] (by decide +kernel) (by decide +kernel)
set_option maxRecDepth 20000 in
theorem gX3_settle_X0_takeBack_n184 : GoodIn wsX3_settle (wsX0_takeBack) := ggX3_settle_X0_takeBack
set_option maxRecDepth 20000 in
theorem ggX3_settle_X0_keep : GoodIn wsX3_settle wsX0_keep := goodIn_r _ [46, 8, 47, 48, 49, 5, 50, 13, 9, 10, 11, 12, 54, 55] (by decide +kernel) (by decide +kernel)
set_option maxRecDepth 20000 in
theorem gX3_settle_X0_keep_n187 : GoodIn wsX3_settle (wsX0_keep) := ggX3_settle_X0_keep
theorem dX3_settle_0 : decode cX3_settle 0 = .ok (.iload_n 1, 1) := by decide +kernel
theorem dX3_settle_1 : decode cX3_settle 1 = .ok (.ldc 30, 2) := by decide +kernel
theorem dX3_settle_3 : decode cX3_settle 3 = .ok (.if_icmp .gt 17, 3) := by decide +kernel
theorem dX3_settle_6 : decode cX3_settle 6 = .ok (.aload_n 0, 1) := by decide +kernel
theorem dX3_settle_7 : decode cX3_settle 7 = .ok (.getfield 19, 3) := by decide +kernel
theorem dX3_settle_10 : decode cX3_settle 10 = .ok (.aload_n 0, 1) := by decide +kernel
theorem dX3_settle_11 : decode cX3_settle 11 = .ok (.getfield 10, 3) := by decide +kernel
theorem dX3_settle_14 : decode cX3_settle 14 = .ok (.invokevirtual 184, 3) := by decide +kernel
theorem dX3_settle_17 : decode cX3_settle 17 = .ok (.goto 10, 3) := by decide +kernel
theorem dX3_settle_20 : decode cX3_settle 20 = .ok (.aload_n 0, 1) := by decide +kernel
theorem dX3_settle_21 : decode cX3_settle 21 = .ok (.getfield 19, 3) := by decide +kernel
theorem dX3_settle_24 : decode cX3_settle 24 = .ok (.invokevirtual 187, 3) := by decide +kernel
theorem dX3_settle_27 : decode cX3_settle 27 = .ok (.iload_n 1, 1) := by decide +kernel
theorem dX3_settle_28 : decode cX3_settle 28 = .ok (.ireturn, 1) := by decide +kernel
set_option maxRecDepth 20000 in
theorem ggX3_bringText_X3_at : GoodIn wsX3_bringText wsX3_at := goodIn_r _ [7] (by decide +kernel) (by decide +kernel)
set_option maxRecDepth 20000 in
theorem gX3_bringText_X3_at : GoodIn wsX3_bringText (va_wsS RX3 71 yX3_at wsX3_at) := goodIn_app (goodIn_of _ (by decide +kernel)) ggX3_bringText_X3_at
set_option maxRecDepth 20000 in
theorem ggX3_bringText_X1_bring : GoodIn wsX3_bringText wsX1_bring := goodIn_r _ [11, 12, 13, 14, 15, 16, 6, 17, 18, 19, 20, 9, 21, 22, 23, 24, 25, 26, 27, 5, 7, 28, 29, 30, 31, 32, 33, 34, 35, 36, 37, 38, 39, 40, 41, 42, 43, 44, 45, 46, 47, 48, 49, 50, 51, 52, 53, 54, 55, 56, 57, 63, 64, 65, 66, 67, 68, 69, 70, 71, 72, 73, 74, 75] (by decide +kernel) (by decide +kernel)
set_option maxRecDepth 20000 in
theorem gX3_bringText_X1_bring_n35 : GoodIn wsX3_bringText (wsX1_bring) := ggX3_bringText_X1_bring
theorem dX3_bringText_0 : decode cX3_bringText 0 = .ok (.iconst 0, 1) := by decide +kernel
theorem dX3_bringText_1 : decode cX3_bringText 1 = .ok (.istore_n 1, 1) := by decide +kernel
theorem dX3_bringText_2 : decode cX3_bringText 2 = .ok (.iconst 0, 1) := by decide +kernel
theorem dX3_bringText_3 : decode cX3_bringText 3 = .ok (.istore_n 2, 1) := by decide +kernel
theorem dX3_bringText_4 : decode cX3_bringText 4 = .ok (.iconst 0, 1) := by decide +kernel
theorem dX3_bringText_5 : decode cX3_bringText 5 = .ok (.istore_n 3, 1) := by decide +kernel
theorem dX3_bringText_6 : decode cX3_bringText 6 = .ok (.iconst 0, 1) := by decide +kernel
theorem dX3_bringText_7 : decode cX3_bringText 7 = .ok (.istore 4, 2) := by decide +kernel
theorem dX3_bringText_9 : decode cX3_bringText 9 = .ok (.iload 4, 2) := by decide +kernel
theorem dX3_bringText_11 : decode cX3_bringText 11 = .ok (.aload_n 0, 1) := by decide +kernel
theorem dX3_bringText_12 : decode cX3_bringText 12 = .ok (.getfield 26, 3) := by decide +kernel
theorem dX3_bringText_15 : decode cX3_bringText 15 = .ok (.getfield 162, 3) := by decide +kernel
theorem dX3_bringText_18 : decode cX3_bringText 18 = .ok (.if_icmp .ge 99, 3) := by decide +kernel
theorem dX3_bringText_21 : decode cX3_bringText 21 = .ok (.aload_n 0, 1) := by decide +kernel
theorem dX3_bringText_22 : decode cX3_bringText 22 = .ok (.getfield 26, 3) := by decide +kernel
theorem dX3_bringText_25 : decode cX3_bringText 25 = .ok (.getfield 190, 3) := by decide +kernel
theorem dX3_bringText_28 : decode cX3_bringText 28 = .ok (.iload 4, 2) := by decide +kernel
theorem dX3_bringText_30 : decode cX3_bringText 30 = .ok (.invokestatic 71, 3) := by decide +kernel
theorem dX3_bringText_33 : decode cX3_bringText 33 = .ok (.istore 5, 2) := by decide +kernel
theorem dX3_bringText_35 : decode cX3_bringText 35 = .ok (.iload 5, 2) := by decide +kernel
theorem dX3_bringText_37 : decode cX3_bringText 37 = .ok (.bipush 59, 2) := by decide +kernel
theorem dX3_bringText_39 : decode cX3_bringText 39 = .ok (.if_icmp .ne 44, 3) := by decide +kernel
theorem dX3_bringText_42 : decode cX3_bringText 42 = .ok (.aload_n 0, 1) := by decide +kernel
theorem dX3_bringText_43 : decode cX3_bringText 43 = .ok (.getfield 10, 3) := by decide +kernel
theorem dX3_bringText_46 : decode cX3_bringText 46 = .ok (.iload_n 2, 1) := by decide +kernel
theorem dX3_bringText_47 : decode cX3_bringText 47 = .ok (.iconst (-1), 1) := by decide +kernel
theorem dX3_bringText_48 : decode cX3_bringText 48 = .ok (.iconst (-1), 1) := by decide +kernel
theorem dX3_bringText_49 : decode cX3_bringText 49 = .ok (.iconst (-1), 1) := by decide +kernel
theorem dX3_bringText_50 : decode cX3_bringText 50 = .ok (.invokevirtual 35, 3) := by decide +kernel
theorem dX3_bringText_53 : decode cX3_bringText 53 = .ok (.istore 6, 2) := by decide +kernel
theorem dX3_bringText_55 : decode cX3_bringText 55 = .ok (.iload 6, 2) := by decide +kernel
theorem dX3_bringText_57 : decode cX3_bringText 57 = .ok (.ldc 55, 2) := by decide +kernel
theorem dX3_bringText_59 : decode cX3_bringText 59 = .ok (.if_icmp .ne 6, 3) := by decide +kernel
theorem dX3_bringText_62 : decode cX3_bringText 62 = .ok (.ldc 55, 2) := by decide +kernel
theorem dX3_bringText_64 : decode cX3_bringText 64 = .ok (.ireturn, 1) := by decide +kernel
theorem dX3_bringText_65 : decode cX3_bringText 65 = .ok (.iload_n 1, 1) := by decide +kernel
theorem dX3_bringText_66 : decode cX3_bringText 66 = .ok (.iload 6, 2) := by decide +kernel
theorem dX3_bringText_68 : decode cX3_bringText 68 = .ok (.ifCond .lt 7, 3) := by decide +kernel
theorem dX3_bringText_71 : decode cX3_bringText 71 = .ok (.iconst 1, 1) := by decide +kernel
theorem dX3_bringText_72 : decode cX3_bringText 72 = .ok (.goto 4, 3) := by decide +kernel
theorem dX3_bringText_75 : decode cX3_bringText 75 = .ok (.iconst 0, 1) := by decide +kernel
theorem dX3_bringText_76 : decode cX3_bringText 76 = .ok (.iadd, 1) := by decide +kernel
theorem dX3_bringText_77 : decode cX3_bringText 77 = .ok (.istore_n 1, 1) := by decide +kernel
theorem dX3_bringText_78 : decode cX3_bringText 78 = .ok (.iconst 0, 1) := by decide +kernel
theorem dX3_bringText_79 : decode cX3_bringText 79 = .ok (.istore_n 2, 1) := by decide +kernel
theorem dX3_bringText_80 : decode cX3_bringText 80 = .ok (.goto 31, 3) := by decide +kernel
theorem dX3_bringText_83 : decode cX3_bringText 83 = .ok (.iload 5, 2) := by decide +kernel
theorem dX3_bringText_85 : decode cX3_bringText 85 = .ok (.bipush 45, 2) := by decide +kernel
theorem dX3_bringText_87 : decode cX3_bringText 87 = .ok (.if_icmp .ne 8, 3) := by decide +kernel
theorem dX3_bringText_90 : decode cX3_bringText 90 = .ok (.iconst 1, 1) := by decide +kernel
theorem dX3_bringText_91 : decode cX3_bringText 91 = .ok (.istore_n 3, 1) := by decide +kernel
theorem dX3_bringText_92 : decode cX3_bringText 92 = .ok (.goto 19, 3) := by decide +kernel
theorem dX3_bringText_95 : decode cX3_bringText 95 = .ok (.iload_n 2, 1) := by decide +kernel
theorem dX3_bringText_96 : decode cX3_bringText 96 = .ok (.iconst 1, 1) := by decide +kernel
theorem dX3_bringText_97 : decode cX3_bringText 97 = .ok (.iconst 2, 1) := by decide +kernel
theorem dX3_bringText_98 : decode cX3_bringText 98 = .ok (.iload 5, 2) := by decide +kernel
theorem dX3_bringText_100 : decode cX3_bringText 100 = .ok (.bipush 97, 2) := by decide +kernel
theorem dX3_bringText_102 : decode cX3_bringText 102 = .ok (.isub, 1) := by decide +kernel
theorem dX3_bringText_103 : decode cX3_bringText 103 = .ok (.imul, 1) := by decide +kernel
theorem dX3_bringText_104 : decode cX3_bringText 104 = .ok (.iload_n 3, 1) := by decide +kernel
theorem dX3_bringText_105 : decode cX3_bringText 105 = .ok (.iadd, 1) := by decide +kernel
theorem dX3_bringText_106 : decode cX3_bringText 106 = .ok (.ishl, 1) := by decide +kernel
theorem dX3_bringText_107 : decode cX3_bringText 107 = .ok (.ior, 1) := by decide +kernel
theorem dX3_bringText_108 : decode cX3_bringText 108 = .ok (.istore_n 2, 1) := by decide +kernel
theorem dX3_bringText_109 : decode cX3_bringText 109 = .ok (.iconst 0, 1) := by decide +kernel
theorem dX3_bringText_110 : decode cX3_bringText 110 = .ok (.istore_n 3, 1) := by decide +kernel
theorem dX3_bringText_111 : decode cX3_bringText 111 = .ok (.iinc 4 1, 3) := by decide +kernel
theorem dX3_bringText_114 : decode cX3_bringText 114 = .ok (.goto (-105), 3) := by decide +kernel
theorem dX3_bringText_117 : decode cX3_bringText 117 = .ok (.iload_n 1, 1) := by decide +kernel
theorem dX3_bringText_118 : decode cX3_bringText 118 = .ok (.ireturn, 1) := by decide +kernel
theorem dX3_foundOrNot_0 : decode cX3_foundOrNot 0 = .ok (.iload_n 0, 1) := by decide +kernel
theorem dX3_foundOrNot_1 : decode cX3_foundOrNot 1 = .ok (.ifCond .ge 8, 3) := by decide +kernel
theorem dX3_foundOrNot_4 : decode cX3_foundOrNot 4 = .ok (.ldc 133, 2) := by decide +kernel
theorem dX3_foundOrNot_6 : decode cX3_foundOrNot 6 = .ok (.goto 4, 3) := by decide +kernel
theorem dX3_foundOrNot_9 : decode cX3_foundOrNot 9 = .ok (.iload_n 0, 1) := by decide +kernel
theorem dX3_foundOrNot_10 : decode cX3_foundOrNot 10 = .ok (.ireturn, 1) := by decide +kernel
theorem dX3_at_0 : decode cX3_at 0 = .ok (.aload_n 0, 1) := by decide +kernel
theorem dX3_at_1 : decode cX3_at 1 = .ok (.ifnull 19, 3) := by decide +kernel
theorem dX3_at_4 : decode cX3_at 4 = .ok (.iload_n 1, 1) := by decide +kernel
theorem dX3_at_5 : decode cX3_at 5 = .ok (.ifCond .lt 15, 3) := by decide +kernel
theorem dX3_at_8 : decode cX3_at 8 = .ok (.iload_n 1, 1) := by decide +kernel
theorem dX3_at_9 : decode cX3_at 9 = .ok (.aload_n 0, 1) := by decide +kernel
theorem dX3_at_10 : decode cX3_at 10 = .ok (.arraylength, 1) := by decide +kernel
theorem dX3_at_11 : decode cX3_at 11 = .ok (.if_icmp .ge 9, 3) := by decide +kernel
theorem dX3_at_14 : decode cX3_at 14 = .ok (.aload_n 0, 1) := by decide +kernel
theorem dX3_at_15 : decode cX3_at 15 = .ok (.iload_n 1, 1) := by decide +kernel
theorem dX3_at_16 : decode cX3_at 16 = .ok (.iaload, 1) := by decide +kernel
theorem dX3_at_17 : decode cX3_at 17 = .ok (.goto 4, 3) := by decide +kernel
theorem dX3_at_20 : decode cX3_at 20 = .ok (.iconst 0, 1) := by decide +kernel
theorem dX3_at_21 : decode cX3_at 21 = .ok (.ireturn, 1) := by decide +kernel
theorem dX3_put_0 : decode cX3_put 0 = .ok (.aload_n 0, 1) := by decide +kernel
theorem dX3_put_1 : decode cX3_put 1 = .ok (.ifnull 17, 3) := by decide +kernel
theorem dX3_put_4 : decode cX3_put 4 = .ok (.iload_n 1, 1) := by decide +kernel
theorem dX3_put_5 : decode cX3_put 5 = .ok (.ifCond .lt 13, 3) := by decide +kernel
theorem dX3_put_8 : decode cX3_put 8 = .ok (.iload_n 1, 1) := by decide +kernel
theorem dX3_put_9 : decode cX3_put 9 = .ok (.aload_n 0, 1) := by decide +kernel
theorem dX3_put_10 : decode cX3_put 10 = .ok (.arraylength, 1) := by decide +kernel
theorem dX3_put_11 : decode cX3_put 11 = .ok (.if_icmp .ge 7, 3) := by decide +kernel
theorem dX3_put_14 : decode cX3_put 14 = .ok (.aload_n 0, 1) := by decide +kernel
theorem dX3_put_15 : decode cX3_put 15 = .ok (.iload_n 1, 1) := by decide +kernel
theorem dX3_put_16 : decode cX3_put 16 = .ok (.iload_n 2, 1) := by decide +kernel
theorem dX3_put_17 : decode cX3_put 17 = .ok (.iastore, 1) := by decide +kernel
theorem dX3_put_18 : decode cX3_put 18 = .ok (.return_, 1) := by decide +kernel
theorem dX3_longAt_0 : decode cX3_longAt 0 = .ok (.aload_n 0, 1) := by decide +kernel
theorem dX3_longAt_1 : decode cX3_longAt 1 = .ok (.ifnull 19, 3) := by decide +kernel
theorem dX3_longAt_4 : decode cX3_longAt 4 = .ok (.iload_n 1, 1) := by decide +kernel
theorem dX3_longAt_5 : decode cX3_longAt 5 = .ok (.ifCond .lt 15, 3) := by decide +kernel
theorem dX3_longAt_8 : decode cX3_longAt 8 = .ok (.iload_n 1, 1) := by decide +kernel
theorem dX3_longAt_9 : decode cX3_longAt 9 = .ok (.aload_n 0, 1) := by decide +kernel
theorem dX3_longAt_10 : decode cX3_longAt 10 = .ok (.arraylength, 1) := by decide +kernel
theorem dX3_longAt_11 : decode cX3_longAt 11 = .ok (.if_icmp .ge 9, 3) := by decide +kernel
theorem dX3_longAt_14 : decode cX3_longAt 14 = .ok (.aload_n 0, 1) := by decide +kernel
theorem dX3_longAt_15 : decode cX3_longAt 15 = .ok (.iload_n 1, 1) := by decide +kernel
theorem dX3_longAt_16 : decode cX3_longAt 16 = .ok (.laload, 1) := by decide +kernel
theorem dX3_longAt_17 : decode cX3_longAt 17 = .ok (.goto 4, 3) := by decide +kernel
theorem dX3_longAt_20 : decode cX3_longAt 20 = .ok (.lconst 0, 1) := by decide +kernel
theorem dX3_longAt_21 : decode cX3_longAt 21 = .ok (.lreturn, 1) := by decide +kernel
theorem dX3_putLong_0 : decode cX3_putLong 0 = .ok (.aload_n 0, 1) := by decide +kernel
theorem dX3_putLong_1 : decode cX3_putLong 1 = .ok (.ifnull 17, 3) := by decide +kernel
theorem dX3_putLong_4 : decode cX3_putLong 4 = .ok (.iload_n 1, 1) := by decide +kernel
theorem dX3_putLong_5 : decode cX3_putLong 5 = .ok (.ifCond .lt 13, 3) := by decide +kernel
theorem dX3_putLong_8 : decode cX3_putLong 8 = .ok (.iload_n 1, 1) := by decide +kernel
theorem dX3_putLong_9 : decode cX3_putLong 9 = .ok (.aload_n 0, 1) := by decide +kernel
theorem dX3_putLong_10 : decode cX3_putLong 10 = .ok (.arraylength, 1) := by decide +kernel
theorem dX3_putLong_11 : decode cX3_putLong 11 = .ok (.if_icmp .ge 7, 3) := by decide +kernel
theorem dX3_putLong_14 : decode cX3_putLong 14 = .ok (.aload_n 0, 1) := by decide +kernel
theorem dX3_putLong_15 : decode cX3_putLong 15 = .ok (.iload_n 1, 1) := by decide +kernel
theorem dX3_putLong_16 : decode cX3_putLong 16 = .ok (.lload_n 2, 1) := by decide +kernel
theorem dX3_putLong_17 : decode cX3_putLong 17 = .ok (.lastore, 1) := by decide +kernel
theorem dX3_putLong_18 : decode cX3_putLong 18 = .ok (.return_, 1) := by decide +kernel
theorem dX3_copyRow_0 : decode cX3_copyRow 0 = .ok (.aload_n 0, 1) := by decide +kernel
theorem dX3_copyRow_1 : decode cX3_copyRow 1 = .ok (.ifnull 21, 3) := by decide +kernel
theorem dX3_copyRow_4 : decode cX3_copyRow 4 = .ok (.aload_n 1, 1) := by decide +kernel
theorem dX3_copyRow_5 : decode cX3_copyRow 5 = .ok (.ifnull 17, 3) := by decide +kernel
theorem dX3_copyRow_8 : decode cX3_copyRow 8 = .ok (.aload_n 0, 1) := by decide +kernel
theorem dX3_copyRow_9 : decode cX3_copyRow 9 = .ok (.iconst 0, 1) := by decide +kernel
theorem dX3_copyRow_10 : decode cX3_copyRow 10 = .ok (.aload_n 1, 1) := by decide +kernel
theorem dX3_copyRow_11 : decode cX3_copyRow 11 = .ok (.iconst 0, 1) := by decide +kernel
theorem dX3_copyRow_12 : decode cX3_copyRow 12 = .ok (.aload_n 0, 1) := by decide +kernel
theorem dX3_copyRow_13 : decode cX3_copyRow 13 = .ok (.arraylength, 1) := by decide +kernel
theorem dX3_copyRow_14 : decode cX3_copyRow 14 = .ok (.aload_n 1, 1) := by decide +kernel
theorem dX3_copyRow_15 : decode cX3_copyRow 15 = .ok (.arraylength, 1) := by decide +kernel
theorem dX3_copyRow_16 : decode cX3_copyRow 16 = .ok (.invokestatic 193, 3) := by decide +kernel
theorem dX3_copyRow_19 : decode cX3_copyRow 19 = .ok (.invokestatic 198, 3) := by decide +kernel
theorem dX3_copyRow_22 : decode cX3_copyRow 22 = .ok (.return_, 1) := by decide +kernel
theorem dX3_copyLongRow_0 : decode cX3_copyLongRow 0 = .ok (.aload_n 0, 1) := by decide +kernel
theorem dX3_copyLongRow_1 : decode cX3_copyLongRow 1 = .ok (.ifnull 21, 3) := by decide +kernel
theorem dX3_copyLongRow_4 : decode cX3_copyLongRow 4 = .ok (.aload_n 1, 1) := by decide +kernel
theorem dX3_copyLongRow_5 : decode cX3_copyLongRow 5 = .ok (.ifnull 17, 3) := by decide +kernel
theorem dX3_copyLongRow_8 : decode cX3_copyLongRow 8 = .ok (.aload_n 0, 1) := by decide +kernel
theorem dX3_copyLongRow_9 : decode cX3_copyLongRow 9 = .ok (.iconst 0, 1) := by decide +kernel
theorem dX3_copyLongRow_10 : decode cX3_copyLongRow 10 = .ok (.aload_n 1, 1) := by decide +kernel
theorem dX3_copyLongRow_11 : decode cX3_copyLongRow 11 = .ok (.iconst 0, 1) := by decide +kernel
theorem dX3_copyLongRow_12 : decode cX3_copyLongRow 12 = .ok (.aload_n 0, 1) := by decide +kernel
theorem dX3_copyLongRow_13 : decode cX3_copyLongRow 13 = .ok (.arraylength, 1) := by decide +kernel
theorem dX3_copyLongRow_14 : decode cX3_copyLongRow 14 = .ok (.aload_n 1, 1) := by decide +kernel
theorem dX3_copyLongRow_15 : decode cX3_copyLongRow 15 = .ok (.arraylength, 1) := by decide +kernel
theorem dX3_copyLongRow_16 : decode cX3_copyLongRow 16 = .ok (.invokestatic 193, 3) := by decide +kernel
theorem dX3_copyLongRow_19 : decode cX3_copyLongRow 19 = .ok (.invokestatic 198, 3) := by decide +kernel
theorem dX3_copyLongRow_22 : decode cX3_copyLongRow 22 = .ok (.return_, 1) := by decide +kernel
theorem dX3_isIn_0 : decode cX3_isIn 0 = .ok (.lload_n 0, 1) := by decide +kernel
theorem dX3_isIn_1 : decode cX3_isIn 1 = .ok (.iload_n 2, 1) := by decide +kernel
theorem dX3_isIn_2 : decode cX3_isIn 2 = .ok (.lushr, 1) := by decide +kernel
theorem dX3_isIn_3 : decode cX3_isIn 3 = .ok (.lconst 1, 1) := by decide +kernel
theorem dX3_isIn_4 : decode cX3_isIn 4 = .ok (.land, 1) := by decide +kernel
theorem dX3_isIn_5 : decode cX3_isIn 5 = .ok (.lconst 0, 1) := by decide +kernel
theorem dX3_isIn_6 : decode cX3_isIn 6 = .ok (.lcmp, 1) := by decide +kernel
theorem dX3_isIn_7 : decode cX3_isIn 7 = .ok (.ifCond .eq 7, 3) := by decide +kernel
theorem dX3_isIn_10 : decode cX3_isIn 10 = .ok (.iconst 1, 1) := by decide +kernel
theorem dX3_isIn_11 : decode cX3_isIn 11 = .ok (.goto 4, 3) := by decide +kernel
theorem dX3_isIn_14 : decode cX3_isIn 14 = .ok (.iconst 0, 1) := by decide +kernel
theorem dX3_isIn_15 : decode cX3_isIn 15 = .ok (.ireturn, 1) := by decide +kernel
theorem dX3_setOf_0 : decode cX3_setOf 0 = .ok (.iload_n 0, 1) := by decide +kernel
theorem dX3_setOf_1 : decode cX3_setOf 1 = .ok (.ifCond .ge 7, 3) := by decide +kernel
theorem dX3_setOf_4 : decode cX3_setOf 4 = .ok (.lconst 0, 1) := by decide +kernel
theorem dX3_setOf_5 : decode cX3_setOf 5 = .ok (.goto 6, 3) := by decide +kernel
theorem dX3_setOf_8 : decode cX3_setOf 8 = .ok (.lconst 1, 1) := by decide +kernel
theorem dX3_setOf_9 : decode cX3_setOf 9 = .ok (.iload_n 0, 1) := by decide +kernel
theorem dX3_setOf_10 : decode cX3_setOf 10 = .ok (.lshl, 1) := by decide +kernel
theorem dX3_setOf_11 : decode cX3_setOf 11 = .ok (.lreturn, 1) := by decide +kernel
theorem dX3_isWithin_0 : decode cX3_isWithin 0 = .ok (.iload_n 0, 1) := by decide +kernel
theorem dX3_isWithin_1 : decode cX3_isWithin 1 = .ok (.iload_n 1, 1) := by decide +kernel
theorem dX3_isWithin_2 : decode cX3_isWithin 2 = .ok (.iconst (-1), 1) := by decide +kernel
theorem dX3_isWithin_3 : decode cX3_isWithin 3 = .ok (.ixor, 1) := by decide +kernel
theorem dX3_isWithin_4 : decode cX3_isWithin 4 = .ok (.iand, 1) := by decide +kernel
theorem dX3_isWithin_5 : decode cX3_isWithin 5 = .ok (.ifCond .ne 7, 3) := by decide +kernel
theorem dX3_isWithin_8 : decode cX3_isWithin 8 = .ok (.iconst 1, 1) := by decide +kernel
theorem dX3_isWithin_9 : decode cX3_isWithin 9 = .ok (.goto 4, 3) := by decide +kernel
theorem dX3_isWithin_12 : decode cX3_isWithin 12 = .ok (.iconst 0, 1) := by decide +kernel
theorem dX3_isWithin_13 : decode cX3_isWithin 13 = .ok (.ireturn, 1) := by decide +kernel
theorem dX3_holdsAlways_0 : decode cX3_holdsAlways 0 = .ok (.iload_n 0, 1) := by decide +kernel
theorem dX3_holdsAlways_1 : decode cX3_holdsAlways 1 = .ok (.iload_n 0, 1) := by decide +kernel
theorem dX3_holdsAlways_2 : decode cX3_holdsAlways 2 = .ok (.iconst 1, 1) := by decide +kernel
theorem dX3_holdsAlways_3 : decode cX3_holdsAlways 3 = .ok (.ishr, 1) := by decide +kernel
theorem dX3_holdsAlways_4 : decode cX3_holdsAlways 4 = .ok (.iand, 1) := by decide +kernel
theorem dX3_holdsAlways_5 : decode cX3_holdsAlways 5 = .ok (.sipush 1365, 3) := by decide +kernel
theorem dX3_holdsAlways_8 : decode cX3_holdsAlways 8 = .ok (.iand, 1) := by decide +kernel
theorem dX3_holdsAlways_9 : decode cX3_holdsAlways 9 = .ok (.ifCond .eq 7, 3) := by decide +kernel
theorem dX3_holdsAlways_12 : decode cX3_holdsAlways 12 = .ok (.iconst 1, 1) := by decide +kernel
theorem dX3_holdsAlways_13 : decode cX3_holdsAlways 13 = .ok (.goto 4, 3) := by decide +kernel
theorem dX3_holdsAlways_16 : decode cX3_holdsAlways 16 = .ok (.iconst 0, 1) := by decide +kernel
theorem dX3_holdsAlways_17 : decode cX3_holdsAlways 17 = .ok (.ireturn, 1) := by decide +kernel
set_option maxRecDepth 20000 in
theorem ggX3_valuesOfClause_X3_longAt : GoodIn wsX3_valuesOfClause wsX3_longAt := goodIn_r _ [6] (by decide +kernel) (by decide +kernel)
set_option maxRecDepth 20000 in
theorem gX3_valuesOfClause_X3_longAt : GoodIn wsX3_valuesOfClause (va_wsS RX3 208 yX3_longAt wsX3_longAt) := goodIn_app (goodIn_of _ (by decide +kernel)) ggX3_valuesOfClause_X3_longAt
theorem dX3_valuesOfClause_0 : decode cX3_valuesOfClause 0 = .ok (.lconst 0, 1) := by decide +kernel
theorem dX3_valuesOfClause_1 : decode cX3_valuesOfClause 1 = .ok (.lstore_n 1, 1) := by decide +kernel
theorem dX3_valuesOfClause_2 : decode cX3_valuesOfClause 2 = .ok (.iconst 0, 1) := by decide +kernel
theorem dX3_valuesOfClause_3 : decode cX3_valuesOfClause 3 = .ok (.istore_n 3, 1) := by decide +kernel
theorem dX3_valuesOfClause_4 : decode cX3_valuesOfClause 4 = .ok (.iload_n 3, 1) := by decide +kernel
theorem dX3_valuesOfClause_5 : decode cX3_valuesOfClause 5 = .ok (.bipush 6, 2) := by decide +kernel
theorem dX3_valuesOfClause_7 : decode cX3_valuesOfClause 7 = .ok (.if_icmp .ge 63, 3) := by decide +kernel
theorem dX3_valuesOfClause_10 : decode cX3_valuesOfClause 10 = .ok (.iload_n 0, 1) := by decide +kernel
theorem dX3_valuesOfClause_11 : decode cX3_valuesOfClause 11 = .ok (.iconst 2, 1) := by decide +kernel
theorem dX3_valuesOfClause_12 : decode cX3_valuesOfClause 12 = .ok (.iload_n 3, 1) := by decide +kernel
theorem dX3_valuesOfClause_13 : decode cX3_valuesOfClause 13 = .ok (.imul, 1) := by decide +kernel
theorem dX3_valuesOfClause_14 : decode cX3_valuesOfClause 14 = .ok (.ishr, 1) := by decide +kernel
theorem dX3_valuesOfClause_15 : decode cX3_valuesOfClause 15 = .ok (.iconst 3, 1) := by decide +kernel
theorem dX3_valuesOfClause_16 : decode cX3_valuesOfClause 16 = .ok (.iand, 1) := by decide +kernel
theorem dX3_valuesOfClause_17 : decode cX3_valuesOfClause 17 = .ok (.istore 4, 2) := by decide +kernel
theorem dX3_valuesOfClause_19 : decode cX3_valuesOfClause 19 = .ok (.getstatic 204, 3) := by decide +kernel
theorem dX3_valuesOfClause_22 : decode cX3_valuesOfClause 22 = .ok (.iload_n 3, 1) := by decide +kernel
theorem dX3_valuesOfClause_23 : decode cX3_valuesOfClause 23 = .ok (.invokestatic 208, 3) := by decide +kernel
theorem dX3_valuesOfClause_26 : decode cX3_valuesOfClause 26 = .ok (.lstore 5, 2) := by decide +kernel
theorem dX3_valuesOfClause_28 : decode cX3_valuesOfClause 28 = .ok (.lload_n 1, 1) := by decide +kernel
theorem dX3_valuesOfClause_29 : decode cX3_valuesOfClause 29 = .ok (.iload 4, 2) := by decide +kernel
theorem dX3_valuesOfClause_31 : decode cX3_valuesOfClause 31 = .ok (.iconst 1, 1) := by decide +kernel
theorem dX3_valuesOfClause_32 : decode cX3_valuesOfClause 32 = .ok (.iand, 1) := by decide +kernel
theorem dX3_valuesOfClause_33 : decode cX3_valuesOfClause 33 = .ok (.ifCond .eq 8, 3) := by decide +kernel
theorem dX3_valuesOfClause_36 : decode cX3_valuesOfClause 36 = .ok (.lload 5, 2) := by decide +kernel
theorem dX3_valuesOfClause_38 : decode cX3_valuesOfClause 38 = .ok (.goto 4, 3) := by decide +kernel
theorem dX3_valuesOfClause_41 : decode cX3_valuesOfClause 41 = .ok (.lconst 0, 1) := by decide +kernel
theorem dX3_valuesOfClause_42 : decode cX3_valuesOfClause 42 = .ok (.lor, 1) := by decide +kernel
theorem dX3_valuesOfClause_43 : decode cX3_valuesOfClause 43 = .ok (.lstore_n 1, 1) := by decide +kernel
theorem dX3_valuesOfClause_44 : decode cX3_valuesOfClause 44 = .ok (.lload_n 1, 1) := by decide +kernel
theorem dX3_valuesOfClause_45 : decode cX3_valuesOfClause 45 = .ok (.iload 4, 2) := by decide +kernel
theorem dX3_valuesOfClause_47 : decode cX3_valuesOfClause 47 = .ok (.iconst 2, 1) := by decide +kernel
theorem dX3_valuesOfClause_48 : decode cX3_valuesOfClause 48 = .ok (.iand, 1) := by decide +kernel
theorem dX3_valuesOfClause_49 : decode cX3_valuesOfClause 49 = .ok (.ifCond .eq 12, 3) := by decide +kernel
theorem dX3_valuesOfClause_52 : decode cX3_valuesOfClause 52 = .ok (.lload 5, 2) := by decide +kernel
theorem dX3_valuesOfClause_54 : decode cX3_valuesOfClause 54 = .ok (.ldc2_w 145, 3) := by decide +kernel
theorem dX3_valuesOfClause_57 : decode cX3_valuesOfClause 57 = .ok (.lxor, 1) := by decide +kernel
theorem dX3_valuesOfClause_58 : decode cX3_valuesOfClause 58 = .ok (.goto 4, 3) := by decide +kernel
theorem dX3_valuesOfClause_61 : decode cX3_valuesOfClause 61 = .ok (.lconst 0, 1) := by decide +kernel
theorem dX3_valuesOfClause_62 : decode cX3_valuesOfClause 62 = .ok (.lor, 1) := by decide +kernel
theorem dX3_valuesOfClause_63 : decode cX3_valuesOfClause 63 = .ok (.lstore_n 1, 1) := by decide +kernel
theorem dX3_valuesOfClause_64 : decode cX3_valuesOfClause 64 = .ok (.iinc 3 1, 3) := by decide +kernel
theorem dX3_valuesOfClause_67 : decode cX3_valuesOfClause 67 = .ok (.goto (-63), 3) := by decide +kernel
theorem dX3_valuesOfClause_70 : decode cX3_valuesOfClause 70 = .ok (.lload_n 1, 1) := by decide +kernel
theorem dX3_valuesOfClause_71 : decode cX3_valuesOfClause 71 = .ok (.lreturn, 1) := by decide +kernel
theorem dX3_floatBitsOf64ths_0 : decode cX3_floatBitsOf64ths 0 = .ok (.iload_n 0, 1) := by decide +kernel
theorem dX3_floatBitsOf64ths_1 : decode cX3_floatBitsOf64ths 1 = .ok (.ifCond .gt 5, 3) := by decide +kernel
theorem dX3_floatBitsOf64ths_4 : decode cX3_floatBitsOf64ths 4 = .ok (.iconst 0, 1) := by decide +kernel
theorem dX3_floatBitsOf64ths_5 : decode cX3_floatBitsOf64ths 5 = .ok (.ireturn, 1) := by decide +kernel
theorem dX3_floatBitsOf64ths_6 : decode cX3_floatBitsOf64ths 6 = .ok (.iconst 0, 1) := by decide +kernel
theorem dX3_floatBitsOf64ths_7 : decode cX3_floatBitsOf64ths 7 = .ok (.istore_n 1, 1) := by decide +kernel
theorem dX3_floatBitsOf64ths_8 : decode cX3_floatBitsOf64ths 8 = .ok (.iconst 1, 1) := by decide +kernel
theorem dX3_floatBitsOf64ths_9 : decode cX3_floatBitsOf64ths 9 = .ok (.istore_n 2, 1) := by decide +kernel
theorem dX3_floatBitsOf64ths_10 : decode cX3_floatBitsOf64ths 10 = .ok (.iload_n 2, 1) := by decide +kernel
theorem dX3_floatBitsOf64ths_11 : decode cX3_floatBitsOf64ths 11 = .ok (.bipush 6, 2) := by decide +kernel
theorem dX3_floatBitsOf64ths_13 : decode cX3_floatBitsOf64ths 13 = .ok (.if_icmp .gt 21, 3) := by decide +kernel
theorem dX3_floatBitsOf64ths_16 : decode cX3_floatBitsOf64ths 16 = .ok (.iload_n 0, 1) := by decide +kernel
theorem dX3_floatBitsOf64ths_17 : decode cX3_floatBitsOf64ths 17 = .ok (.iload_n 2, 1) := by decide +kernel
theorem dX3_floatBitsOf64ths_18 : decode cX3_floatBitsOf64ths 18 = .ok (.ishr, 1) := by decide +kernel
theorem dX3_floatBitsOf64ths_19 : decode cX3_floatBitsOf64ths 19 = .ok (.ifCond .eq 7, 3) := by decide +kernel
theorem dX3_floatBitsOf64ths_22 : decode cX3_floatBitsOf64ths 22 = .ok (.iload_n 2, 1) := by decide +kernel
theorem dX3_floatBitsOf64ths_23 : decode cX3_floatBitsOf64ths 23 = .ok (.goto 4, 3) := by decide +kernel
theorem dX3_floatBitsOf64ths_26 : decode cX3_floatBitsOf64ths 26 = .ok (.iload_n 1, 1) := by decide +kernel
theorem dX3_floatBitsOf64ths_27 : decode cX3_floatBitsOf64ths 27 = .ok (.istore_n 1, 1) := by decide +kernel
theorem dX3_floatBitsOf64ths_28 : decode cX3_floatBitsOf64ths 28 = .ok (.iinc 2 1, 3) := by decide +kernel
theorem dX3_floatBitsOf64ths_31 : decode cX3_floatBitsOf64ths 31 = .ok (.goto (-21), 3) := by decide +kernel
theorem dX3_floatBitsOf64ths_34 : decode cX3_floatBitsOf64ths 34 = .ok (.bipush 127, 2) := by decide +kernel
theorem dX3_floatBitsOf64ths_36 : decode cX3_floatBitsOf64ths 36 = .ok (.iload_n 1, 1) := by decide +kernel
theorem dX3_floatBitsOf64ths_37 : decode cX3_floatBitsOf64ths 37 = .ok (.iadd, 1) := by decide +kernel
theorem dX3_floatBitsOf64ths_38 : decode cX3_floatBitsOf64ths 38 = .ok (.bipush 6, 2) := by decide +kernel
theorem dX3_floatBitsOf64ths_40 : decode cX3_floatBitsOf64ths 40 = .ok (.isub, 1) := by decide +kernel
theorem dX3_floatBitsOf64ths_41 : decode cX3_floatBitsOf64ths 41 = .ok (.istore_n 2, 1) := by decide +kernel
theorem dX3_floatBitsOf64ths_42 : decode cX3_floatBitsOf64ths 42 = .ok (.iload_n 2, 1) := by decide +kernel
theorem dX3_floatBitsOf64ths_43 : decode cX3_floatBitsOf64ths 43 = .ok (.bipush 23, 2) := by decide +kernel
theorem dX3_floatBitsOf64ths_45 : decode cX3_floatBitsOf64ths 45 = .ok (.ishl, 1) := by decide +kernel
theorem dX3_floatBitsOf64ths_46 : decode cX3_floatBitsOf64ths 46 = .ok (.iload_n 0, 1) := by decide +kernel
theorem dX3_floatBitsOf64ths_47 : decode cX3_floatBitsOf64ths 47 = .ok (.bipush 23, 2) := by decide +kernel
theorem dX3_floatBitsOf64ths_49 : decode cX3_floatBitsOf64ths 49 = .ok (.iload_n 1, 1) := by decide +kernel
theorem dX3_floatBitsOf64ths_50 : decode cX3_floatBitsOf64ths 50 = .ok (.isub, 1) := by decide +kernel
theorem dX3_floatBitsOf64ths_51 : decode cX3_floatBitsOf64ths 51 = .ok (.ishl, 1) := by decide +kernel
theorem dX3_floatBitsOf64ths_52 : decode cX3_floatBitsOf64ths 52 = .ok (.ldc 212, 2) := by decide +kernel
theorem dX3_floatBitsOf64ths_54 : decode cX3_floatBitsOf64ths 54 = .ok (.iand, 1) := by decide +kernel
theorem dX3_floatBitsOf64ths_55 : decode cX3_floatBitsOf64ths 55 = .ok (.ior, 1) := by decide +kernel
theorem dX3_floatBitsOf64ths_56 : decode cX3_floatBitsOf64ths 56 = .ok (.ireturn, 1) := by decide +kernel
theorem dJ6_bitCount_0f7a4_0 : decode cJ6_bitCount_0f7a4 0 = .ok (.iload_n 0, 1) := by decide +kernel
theorem dJ6_bitCount_0f7a4_1 : decode cJ6_bitCount_0f7a4 1 = .ok (.iload_n 0, 1) := by decide +kernel
theorem dJ6_bitCount_0f7a4_2 : decode cJ6_bitCount_0f7a4 2 = .ok (.iconst 1, 1) := by decide +kernel
theorem dJ6_bitCount_0f7a4_3 : decode cJ6_bitCount_0f7a4 3 = .ok (.iushr, 1) := by decide +kernel
theorem dJ6_bitCount_0f7a4_4 : decode cJ6_bitCount_0f7a4 4 = .ok (.ldc_w 265, 3) := by decide +kernel
theorem dJ6_bitCount_0f7a4_7 : decode cJ6_bitCount_0f7a4 7 = .ok (.iand, 1) := by decide +kernel
theorem dJ6_bitCount_0f7a4_8 : decode cJ6_bitCount_0f7a4 8 = .ok (.isub, 1) := by decide +kernel
theorem dJ6_bitCount_0f7a4_9 : decode cJ6_bitCount_0f7a4 9 = .ok (.istore_n 0, 1) := by decide +kernel
theorem dJ6_bitCount_0f7a4_10 : decode cJ6_bitCount_0f7a4 10 = .ok (.iload_n 0, 1) := by decide +kernel
theorem dJ6_bitCount_0f7a4_11 : decode cJ6_bitCount_0f7a4 11 = .ok (.ldc_w 266, 3) := by decide +kernel
theorem dJ6_bitCount_0f7a4_14 : decode cJ6_bitCount_0f7a4 14 = .ok (.iand, 1) := by decide +kernel
theorem dJ6_bitCount_0f7a4_15 : decode cJ6_bitCount_0f7a4 15 = .ok (.iload_n 0, 1) := by decide +kernel
theorem dJ6_bitCount_0f7a4_16 : decode cJ6_bitCount_0f7a4 16 = .ok (.iconst 2, 1) := by decide +kernel
theorem dJ6_bitCount_0f7a4_17 : decode cJ6_bitCount_0f7a4 17 = .ok (.iushr, 1) := by decide +kernel
theorem dJ6_bitCount_0f7a4_18 : decode cJ6_bitCount_0f7a4 18 = .ok (.ldc_w 266, 3) := by decide +kernel
theorem dJ6_bitCount_0f7a4_21 : decode cJ6_bitCount_0f7a4 21 = .ok (.iand, 1) := by decide +kernel
theorem dJ6_bitCount_0f7a4_22 : decode cJ6_bitCount_0f7a4 22 = .ok (.iadd, 1) := by decide +kernel
theorem dJ6_bitCount_0f7a4_23 : decode cJ6_bitCount_0f7a4 23 = .ok (.istore_n 0, 1) := by decide +kernel
theorem dJ6_bitCount_0f7a4_24 : decode cJ6_bitCount_0f7a4 24 = .ok (.iload_n 0, 1) := by decide +kernel
theorem dJ6_bitCount_0f7a4_25 : decode cJ6_bitCount_0f7a4 25 = .ok (.iload_n 0, 1) := by decide +kernel
theorem dJ6_bitCount_0f7a4_26 : decode cJ6_bitCount_0f7a4 26 = .ok (.iconst 4, 1) := by decide +kernel
theorem dJ6_bitCount_0f7a4_27 : decode cJ6_bitCount_0f7a4 27 = .ok (.iushr, 1) := by decide +kernel
theorem dJ6_bitCount_0f7a4_28 : decode cJ6_bitCount_0f7a4 28 = .ok (.iadd, 1) := by decide +kernel
theorem dJ6_bitCount_0f7a4_29 : decode cJ6_bitCount_0f7a4 29 = .ok (.ldc_w 267, 3) := by decide +kernel
theorem dJ6_bitCount_0f7a4_32 : decode cJ6_bitCount_0f7a4 32 = .ok (.iand, 1) := by decide +kernel
theorem dJ6_bitCount_0f7a4_33 : decode cJ6_bitCount_0f7a4 33 = .ok (.istore_n 0, 1) := by decide +kernel
theorem dJ6_bitCount_0f7a4_34 : decode cJ6_bitCount_0f7a4 34 = .ok (.iload_n 0, 1) := by decide +kernel
theorem dJ6_bitCount_0f7a4_35 : decode cJ6_bitCount_0f7a4 35 = .ok (.iload_n 0, 1) := by decide +kernel
theorem dJ6_bitCount_0f7a4_36 : decode cJ6_bitCount_0f7a4 36 = .ok (.bipush 8, 2) := by decide +kernel
theorem dJ6_bitCount_0f7a4_38 : decode cJ6_bitCount_0f7a4 38 = .ok (.iushr, 1) := by decide +kernel
theorem dJ6_bitCount_0f7a4_39 : decode cJ6_bitCount_0f7a4 39 = .ok (.iadd, 1) := by decide +kernel
theorem dJ6_bitCount_0f7a4_40 : decode cJ6_bitCount_0f7a4 40 = .ok (.istore_n 0, 1) := by decide +kernel
theorem dJ6_bitCount_0f7a4_41 : decode cJ6_bitCount_0f7a4 41 = .ok (.iload_n 0, 1) := by decide +kernel
theorem dJ6_bitCount_0f7a4_42 : decode cJ6_bitCount_0f7a4 42 = .ok (.iload_n 0, 1) := by decide +kernel
theorem dJ6_bitCount_0f7a4_43 : decode cJ6_bitCount_0f7a4 43 = .ok (.bipush 16, 2) := by decide +kernel
theorem dJ6_bitCount_0f7a4_45 : decode cJ6_bitCount_0f7a4 45 = .ok (.iushr, 1) := by decide +kernel
theorem dJ6_bitCount_0f7a4_46 : decode cJ6_bitCount_0f7a4 46 = .ok (.iadd, 1) := by decide +kernel
theorem dJ6_bitCount_0f7a4_47 : decode cJ6_bitCount_0f7a4 47 = .ok (.istore_n 0, 1) := by decide +kernel
theorem dJ6_bitCount_0f7a4_48 : decode cJ6_bitCount_0f7a4 48 = .ok (.iload_n 0, 1) := by decide +kernel
theorem dJ6_bitCount_0f7a4_49 : decode cJ6_bitCount_0f7a4 49 = .ok (.bipush 63, 2) := by decide +kernel
theorem dJ6_bitCount_0f7a4_51 : decode cJ6_bitCount_0f7a4 51 = .ok (.iand, 1) := by decide +kernel
theorem dJ6_bitCount_0f7a4_52 : decode cJ6_bitCount_0f7a4 52 = .ok (.ireturn, 1) := by decide +kernel
theorem dJ13_bitCount_95d88_0 : decode cJ13_bitCount_95d88 0 = .ok (.lload_n 0, 1) := by decide +kernel
theorem dJ13_bitCount_95d88_1 : decode cJ13_bitCount_95d88 1 = .ok (.lload_n 0, 1) := by decide +kernel
theorem dJ13_bitCount_95d88_2 : decode cJ13_bitCount_95d88 2 = .ok (.iconst 1, 1) := by decide +kernel
theorem dJ13_bitCount_95d88_3 : decode cJ13_bitCount_95d88 3 = .ok (.lushr, 1) := by decide +kernel
theorem dJ13_bitCount_95d88_4 : decode cJ13_bitCount_95d88 4 = .ok (.ldc2_w 314, 3) := by decide +kernel
theorem dJ13_bitCount_95d88_7 : decode cJ13_bitCount_95d88 7 = .ok (.land, 1) := by decide +kernel
theorem dJ13_bitCount_95d88_8 : decode cJ13_bitCount_95d88 8 = .ok (.lsub, 1) := by decide +kernel
theorem dJ13_bitCount_95d88_9 : decode cJ13_bitCount_95d88 9 = .ok (.lstore_n 0, 1) := by decide +kernel
theorem dJ13_bitCount_95d88_10 : decode cJ13_bitCount_95d88 10 = .ok (.lload_n 0, 1) := by decide +kernel
theorem dJ13_bitCount_95d88_11 : decode cJ13_bitCount_95d88 11 = .ok (.ldc2_w 316, 3) := by decide +kernel
theorem dJ13_bitCount_95d88_14 : decode cJ13_bitCount_95d88 14 = .ok (.land, 1) := by decide +kernel
theorem dJ13_bitCount_95d88_15 : decode cJ13_bitCount_95d88 15 = .ok (.lload_n 0, 1) := by decide +kernel
theorem dJ13_bitCount_95d88_16 : decode cJ13_bitCount_95d88 16 = .ok (.iconst 2, 1) := by decide +kernel
theorem dJ13_bitCount_95d88_17 : decode cJ13_bitCount_95d88 17 = .ok (.lushr, 1) := by decide +kernel
theorem dJ13_bitCount_95d88_18 : decode cJ13_bitCount_95d88 18 = .ok (.ldc2_w 316, 3) := by decide +kernel
theorem dJ13_bitCount_95d88_21 : decode cJ13_bitCount_95d88 21 = .ok (.land, 1) := by decide +kernel
theorem dJ13_bitCount_95d88_22 : decode cJ13_bitCount_95d88 22 = .ok (.ladd, 1) := by decide +kernel
theorem dJ13_bitCount_95d88_23 : decode cJ13_bitCount_95d88 23 = .ok (.lstore_n 0, 1) := by decide +kernel
theorem dJ13_bitCount_95d88_24 : decode cJ13_bitCount_95d88 24 = .ok (.lload_n 0, 1) := by decide +kernel
theorem dJ13_bitCount_95d88_25 : decode cJ13_bitCount_95d88 25 = .ok (.lload_n 0, 1) := by decide +kernel
theorem dJ13_bitCount_95d88_26 : decode cJ13_bitCount_95d88 26 = .ok (.iconst 4, 1) := by decide +kernel
theorem dJ13_bitCount_95d88_27 : decode cJ13_bitCount_95d88 27 = .ok (.lushr, 1) := by decide +kernel
theorem dJ13_bitCount_95d88_28 : decode cJ13_bitCount_95d88 28 = .ok (.ladd, 1) := by decide +kernel
theorem dJ13_bitCount_95d88_29 : decode cJ13_bitCount_95d88 29 = .ok (.ldc2_w 318, 3) := by decide +kernel
theorem dJ13_bitCount_95d88_32 : decode cJ13_bitCount_95d88 32 = .ok (.land, 1) := by decide +kernel
theorem dJ13_bitCount_95d88_33 : decode cJ13_bitCount_95d88 33 = .ok (.lstore_n 0, 1) := by decide +kernel
theorem dJ13_bitCount_95d88_34 : decode cJ13_bitCount_95d88 34 = .ok (.lload_n 0, 1) := by decide +kernel
theorem dJ13_bitCount_95d88_35 : decode cJ13_bitCount_95d88 35 = .ok (.lload_n 0, 1) := by decide +kernel
theorem dJ13_bitCount_95d88_36 : decode cJ13_bitCount_95d88 36 = .ok (.bipush 8, 2) := by decide +kernel
theorem dJ13_bitCount_95d88_38 : decode cJ13_bitCount_95d88 38 = .ok (.lushr, 1) := by decide +kernel
theorem dJ13_bitCount_95d88_39 : decode cJ13_bitCount_95d88 39 = .ok (.ladd, 1) := by decide +kernel
theorem dJ13_bitCount_95d88_40 : decode cJ13_bitCount_95d88 40 = .ok (.lstore_n 0, 1) := by decide +kernel
theorem dJ13_bitCount_95d88_41 : decode cJ13_bitCount_95d88 41 = .ok (.lload_n 0, 1) := by decide +kernel
theorem dJ13_bitCount_95d88_42 : decode cJ13_bitCount_95d88 42 = .ok (.lload_n 0, 1) := by decide +kernel
theorem dJ13_bitCount_95d88_43 : decode cJ13_bitCount_95d88 43 = .ok (.bipush 16, 2) := by decide +kernel
theorem dJ13_bitCount_95d88_45 : decode cJ13_bitCount_95d88 45 = .ok (.lushr, 1) := by decide +kernel
theorem dJ13_bitCount_95d88_46 : decode cJ13_bitCount_95d88 46 = .ok (.ladd, 1) := by decide +kernel
theorem dJ13_bitCount_95d88_47 : decode cJ13_bitCount_95d88 47 = .ok (.lstore_n 0, 1) := by decide +kernel
theorem dJ13_bitCount_95d88_48 : decode cJ13_bitCount_95d88 48 = .ok (.lload_n 0, 1) := by decide +kernel
theorem dJ13_bitCount_95d88_49 : decode cJ13_bitCount_95d88 49 = .ok (.lload_n 0, 1) := by decide +kernel
theorem dJ13_bitCount_95d88_50 : decode cJ13_bitCount_95d88 50 = .ok (.bipush 32, 2) := by decide +kernel
theorem dJ13_bitCount_95d88_52 : decode cJ13_bitCount_95d88 52 = .ok (.lushr, 1) := by decide +kernel
theorem dJ13_bitCount_95d88_53 : decode cJ13_bitCount_95d88 53 = .ok (.ladd, 1) := by decide +kernel
theorem dJ13_bitCount_95d88_54 : decode cJ13_bitCount_95d88 54 = .ok (.lstore_n 0, 1) := by decide +kernel
theorem dJ13_bitCount_95d88_55 : decode cJ13_bitCount_95d88 55 = .ok (.lload_n 0, 1) := by decide +kernel
theorem dJ13_bitCount_95d88_56 : decode cJ13_bitCount_95d88 56 = .ok (.l2i, 1) := by decide +kernel
theorem dJ13_bitCount_95d88_57 : decode cJ13_bitCount_95d88 57 = .ok (.bipush 127, 2) := by decide +kernel
theorem dJ13_bitCount_95d88_59 : decode cJ13_bitCount_95d88 59 = .ok (.iand, 1) := by decide +kernel
theorem dJ13_bitCount_95d88_60 : decode cJ13_bitCount_95d88 60 = .ok (.ireturn, 1) := by decide +kernel
theorem dJ9_max_7cf53_0 : decode cJ9_max_7cf53 0 = .ok (.iload_n 0, 1) := by decide +kernel
end
section
theorem dJ9_max_7cf53_1 : decode cJ9_max_7cf53 1 = .ok (.iload_n 1, 1) := by decide +kernel
theorem dJ9_max_7cf53_2 : decode cJ9_max_7cf53 2 = .ok (.if_icmp .lt 7, 3) := by decide +kernel
theorem dJ9_max_7cf53_5 : decode cJ9_max_7cf53 5 = .ok (.iload_n 0, 1) := by decide +kernel
theorem dJ9_max_7cf53_6 : decode cJ9_max_7cf53 6 = .ok (.goto 4, 3) := by decide +kernel
theorem dJ9_max_7cf53_9 : decode cJ9_max_7cf53 9 = .ok (.iload_n 1, 1) := by decide +kernel
theorem dJ9_max_7cf53_10 : decode cJ9_max_7cf53 10 = .ok (.ireturn, 1) := by decide +kernel
theorem dJ9_min_7cf53_0 : decode cJ9_min_7cf53 0 = .ok (.iload_n 0, 1) := by decide +kernel
theorem dJ9_min_7cf53_1 : decode cJ9_min_7cf53 1 = .ok (.iload_n 1, 1) := by decide +kernel
theorem dJ9_min_7cf53_2 : decode cJ9_min_7cf53 2 = .ok (.if_icmp .gt 7, 3) := by decide +kernel
theorem dJ9_min_7cf53_5 : decode cJ9_min_7cf53 5 = .ok (.iload_n 0, 1) := by decide +kernel
theorem dJ9_min_7cf53_6 : decode cJ9_min_7cf53 6 = .ok (.goto 4, 3) := by decide +kernel
theorem dJ9_min_7cf53_9 : decode cJ9_min_7cf53 9 = .ok (.iload_n 1, 1) := by decide +kernel
theorem dJ9_min_7cf53_10 : decode cJ9_min_7cf53 10 = .ok (.ireturn, 1) := by decide +kernel
theorem dL_lot_0 : decode cL_lot 0 = .ok (.iload_n 1, 1) := by decide +kernel
theorem dL_lot_1 : decode cL_lot 1 = .ok (.aload_n 0, 1) := by decide +kernel
theorem dL_lot_2 : decode cL_lot 2 = .ok (.arraylength, 1) := by decide +kernel
theorem dL_lot_3 : decode cL_lot 3 = .ok (.if_icmp .ge 9, 3) := by decide +kernel
theorem dL_lot_6 : decode cL_lot 6 = .ok (.aload_n 0, 1) := by decide +kernel
theorem dL_lot_7 : decode cL_lot 7 = .ok (.iload_n 1, 1) := by decide +kernel
theorem dL_lot_8 : decode cL_lot 8 = .ok (.iaload, 1) := by decide +kernel
theorem dL_lot_9 : decode cL_lot 9 = .ok (.goto 15, 3) := by decide +kernel
theorem dL_lot_12 : decode cL_lot 12 = .ok (.ldc 7, 2) := by decide +kernel
theorem dL_lot_14 : decode cL_lot 14 = .ok (.iload_n 1, 1) := by decide +kernel
theorem dL_lot_15 : decode cL_lot 15 = .ok (.sipush 2857, 3) := by decide +kernel
theorem dL_lot_18 : decode cL_lot 18 = .ok (.iadd, 1) := by decide +kernel
theorem dL_lot_19 : decode cL_lot 19 = .ok (.imul, 1) := by decide +kernel
theorem dL_lot_20 : decode cL_lot 20 = .ok (.sipush 2659, 3) := by decide +kernel
theorem dL_lot_23 : decode cL_lot 23 = .ok (.iadd, 1) := by decide +kernel
theorem dL_lot_24 : decode cL_lot 24 = .ok (.ireturn, 1) := by decide +kernel
theorem dL_low_0 : decode cL_low 0 = .ok (.iload_n 0, 1) := by decide +kernel
theorem dL_low_1 : decode cL_low 1 = .ok (.ldc 8, 2) := by decide +kernel
theorem dL_low_3 : decode cL_low 3 = .ok (.iand, 1) := by decide +kernel
theorem dL_low_4 : decode cL_low 4 = .ok (.iload_n 1, 1) := by decide +kernel
theorem dL_low_5 : decode cL_low 5 = .ok (.irem, 1) := by decide +kernel
theorem dL_low_6 : decode cL_low 6 = .ok (.ireturn, 1) := by decide +kernel
set_option maxRecDepth 20000 in
theorem ggL_digest_X3_count : GoodIn wsL_digest wsX3_count := goodIn_r _ [10, 11, 12, 13, 14, 15, 16, 17, 18, 19, 20, 21, 9, 22, 23, 24, 25, 26, 92, 93, 94, 95, 96, 97, 98, 99, 100, 101, 102, 103, 104, 105, 106, 107, 108, 109, 110, 111] (by decide +kernel) (by decide +kernel)
set_option maxRecDepth 20000 in
theorem gL_digest_X3_count : GoodIn wsL_digest (wsV RL 13 RX3 yX3_count wsX3_count) := goodIn_app (goodIn_of _ (by decide +kernel)) ggL_digest_X3_count
set_option maxRecDepth 20000 in
theorem ggL_digest_X3_clauseOf : GoodIn wsL_digest wsX3_clauseOf := goodIn_r _ [30, 11, 14, 31, 16, 32, 33, 19, 34, 21, 9, 22, 35, 36, 37, 26, 38, 39, 40, 41, 42, 43, 44, 45, 46, 47, 48, 49, 50, 51, 52, 53, 54, 55, 56, 20, 57, 58, 59, 60, 61, 62, 63, 92, 93, 94, 95, 96, 97, 98, 99, 100, 101, 102, 103, 104, 105, 106, 107] (by decide +kernel) (by decide +kernel)
set_option maxRecDepth 20000 in
theorem gL_digest_X3_clauseOf : GoodIn wsL_digest (wsV RL 19 RX3 yX3_clauseOf wsX3_clauseOf) := goodIn_app (goodIn_of _ (by decide +kernel)) ggL_digest_X3_clauseOf
set_option maxRecDepth 20000 in
theorem ggL_digest_X3_models : GoodIn wsL_digest wsX3_models := goodIn_r _ [67, 11, 68, 16, 69, 70, 19, 71, 72, 73, 74, 75, 21, 9, 22, 76, 77, 78, 79, 80, 81, 82, 62, 63, 83, 84, 85, 86, 87, 88, 89, 90, 91, 92, 93, 94, 95, 96, 97, 98, 99, 100, 101, 102, 103, 104, 105, 106, 107] (by decide +kernel) (by decide +kernel)
set_option maxRecDepth 20000 in
theorem gL_digest_X3_models : GoodIn wsL_digest (wsV RL 29 RX3 yX3_models wsX3_models) := goodIn_app (goodIn_of _ (by decide +kernel)) ggL_digest_X3_models
theorem dL_digest_0 : decode cL_digest 0 = .ok (.ldc2_w 9, 3) := by decide +kernel
theorem dL_digest_3 : decode cL_digest 3 = .ok (.lstore_n 1, 1) := by decide +kernel
theorem dL_digest_4 : decode cL_digest 4 = .ok (.iconst 0, 1) := by decide +kernel
theorem dL_digest_5 : decode cL_digest 5 = .ok (.istore_n 3, 1) := by decide +kernel
theorem dL_digest_6 : decode cL_digest 6 = .ok (.iload_n 3, 1) := by decide +kernel
theorem dL_digest_7 : decode cL_digest 7 = .ok (.bipush 16, 2) := by decide +kernel
theorem dL_digest_9 : decode cL_digest 9 = .ok (.if_icmp .ge 38, 3) := by decide +kernel
theorem dL_digest_12 : decode cL_digest 12 = .ok (.ldc2_w 11, 3) := by decide +kernel
theorem dL_digest_15 : decode cL_digest 15 = .ok (.lload_n 1, 1) := by decide +kernel
theorem dL_digest_16 : decode cL_digest 16 = .ok (.lmul, 1) := by decide +kernel
theorem dL_digest_17 : decode cL_digest 17 = .ok (.iload_n 3, 1) := by decide +kernel
theorem dL_digest_18 : decode cL_digest 18 = .ok (.bipush 8, 2) := by decide +kernel
theorem dL_digest_20 : decode cL_digest 20 = .ok (.if_icmp .eq 9, 3) := by decide +kernel
theorem dL_digest_23 : decode cL_digest 23 = .ok (.iload_n 3, 1) := by decide +kernel
theorem dL_digest_24 : decode cL_digest 24 = .ok (.bipush 9, 2) := by decide +kernel
theorem dL_digest_26 : decode cL_digest 26 = .ok (.if_icmp .ne 7, 3) := by decide +kernel
theorem dL_digest_29 : decode cL_digest 29 = .ok (.iconst 0, 1) := by decide +kernel
theorem dL_digest_30 : decode cL_digest 30 = .ok (.goto 8, 3) := by decide +kernel
theorem dL_digest_33 : decode cL_digest 33 = .ok (.aload_n 0, 1) := by decide +kernel
theorem dL_digest_34 : decode cL_digest 34 = .ok (.iload_n 3, 1) := by decide +kernel
theorem dL_digest_35 : decode cL_digest 35 = .ok (.invokevirtual 13, 3) := by decide +kernel
theorem dL_digest_38 : decode cL_digest 38 = .ok (.i2l, 1) := by decide +kernel
theorem dL_digest_39 : decode cL_digest 39 = .ok (.ladd, 1) := by decide +kernel
theorem dL_digest_40 : decode cL_digest 40 = .ok (.lstore_n 1, 1) := by decide +kernel
theorem dL_digest_41 : decode cL_digest 41 = .ok (.iinc 3 1, 3) := by decide +kernel
theorem dL_digest_44 : decode cL_digest 44 = .ok (.goto (-38), 3) := by decide +kernel
theorem dL_digest_47 : decode cL_digest 47 = .ok (.iconst 0, 1) := by decide +kernel
theorem dL_digest_48 : decode cL_digest 48 = .ok (.istore_n 3, 1) := by decide +kernel
theorem dL_digest_49 : decode cL_digest 49 = .ok (.iload_n 3, 1) := by decide +kernel
theorem dL_digest_50 : decode cL_digest 50 = .ok (.aload_n 0, 1) := by decide +kernel
theorem dL_digest_51 : decode cL_digest 51 = .ok (.iconst 0, 1) := by decide +kernel
theorem dL_digest_52 : decode cL_digest 52 = .ok (.invokevirtual 13, 3) := by decide +kernel
theorem dL_digest_55 : decode cL_digest 55 = .ok (.if_icmp .ge 59, 3) := by decide +kernel
theorem dL_digest_58 : decode cL_digest 58 = .ok (.ldc2_w 11, 3) := by decide +kernel
theorem dL_digest_61 : decode cL_digest 61 = .ok (.lload_n 1, 1) := by decide +kernel
theorem dL_digest_62 : decode cL_digest 62 = .ok (.lmul, 1) := by decide +kernel
theorem dL_digest_63 : decode cL_digest 63 = .ok (.aload_n 0, 1) := by decide +kernel
theorem dL_digest_64 : decode cL_digest 64 = .ok (.iload_n 3, 1) := by decide +kernel
theorem dL_digest_65 : decode cL_digest 65 = .ok (.iconst 0, 1) := by decide +kernel
theorem dL_digest_66 : decode cL_digest 66 = .ok (.invokevirtual 19, 3) := by decide +kernel
theorem dL_digest_69 : decode cL_digest 69 = .ok (.i2l, 1) := by decide +kernel
theorem dL_digest_70 : decode cL_digest 70 = .ok (.ladd, 1) := by decide +kernel
theorem dL_digest_71 : decode cL_digest 71 = .ok (.ldc2_w 23, 3) := by decide +kernel
theorem dL_digest_74 : decode cL_digest 74 = .ok (.aload_n 0, 1) := by decide +kernel
theorem dL_digest_75 : decode cL_digest 75 = .ok (.iload_n 3, 1) := by decide +kernel
theorem dL_digest_76 : decode cL_digest 76 = .ok (.iconst 1, 1) := by decide +kernel
theorem dL_digest_77 : decode cL_digest 77 = .ok (.invokevirtual 19, 3) := by decide +kernel
theorem dL_digest_80 : decode cL_digest 80 = .ok (.i2l, 1) := by decide +kernel
theorem dL_digest_81 : decode cL_digest 81 = .ok (.lmul, 1) := by decide +kernel
theorem dL_digest_82 : decode cL_digest 82 = .ok (.ladd, 1) := by decide +kernel
theorem dL_digest_83 : decode cL_digest 83 = .ok (.ldc2_w 25, 3) := by decide +kernel
theorem dL_digest_86 : decode cL_digest 86 = .ok (.aload_n 0, 1) := by decide +kernel
theorem dL_digest_87 : decode cL_digest 87 = .ok (.iload_n 3, 1) := by decide +kernel
theorem dL_digest_88 : decode cL_digest 88 = .ok (.iconst 3, 1) := by decide +kernel
theorem dL_digest_89 : decode cL_digest 89 = .ok (.invokevirtual 19, 3) := by decide +kernel
theorem dL_digest_92 : decode cL_digest 92 = .ok (.i2l, 1) := by decide +kernel
theorem dL_digest_93 : decode cL_digest 93 = .ok (.lmul, 1) := by decide +kernel
theorem dL_digest_94 : decode cL_digest 94 = .ok (.ladd, 1) := by decide +kernel
theorem dL_digest_95 : decode cL_digest 95 = .ok (.ldc2_w 27, 3) := by decide +kernel
theorem dL_digest_98 : decode cL_digest 98 = .ok (.aload_n 0, 1) := by decide +kernel
theorem dL_digest_99 : decode cL_digest 99 = .ok (.iload_n 3, 1) := by decide +kernel
theorem dL_digest_100 : decode cL_digest 100 = .ok (.iconst 4, 1) := by decide +kernel
theorem dL_digest_101 : decode cL_digest 101 = .ok (.invokevirtual 19, 3) := by decide +kernel
theorem dL_digest_104 : decode cL_digest 104 = .ok (.i2l, 1) := by decide +kernel
theorem dL_digest_105 : decode cL_digest 105 = .ok (.lmul, 1) := by decide +kernel
theorem dL_digest_106 : decode cL_digest 106 = .ok (.ladd, 1) := by decide +kernel
theorem dL_digest_107 : decode cL_digest 107 = .ok (.lstore_n 1, 1) := by decide +kernel
theorem dL_digest_108 : decode cL_digest 108 = .ok (.iinc 3 1, 3) := by decide +kernel
theorem dL_digest_111 : decode cL_digest 111 = .ok (.goto (-62), 3) := by decide +kernel
theorem dL_digest_114 : decode cL_digest 114 = .ok (.ldc2_w 11, 3) := by decide +kernel
theorem dL_digest_117 : decode cL_digest 117 = .ok (.lload_n 1, 1) := by decide +kernel
theorem dL_digest_118 : decode cL_digest 118 = .ok (.lmul, 1) := by decide +kernel
theorem dL_digest_119 : decode cL_digest 119 = .ok (.aload_n 0, 1) := by decide +kernel
theorem dL_digest_120 : decode cL_digest 120 = .ok (.invokevirtual 29, 3) := by decide +kernel
theorem dL_digest_123 : decode cL_digest 123 = .ok (.i2l, 1) := by decide +kernel
theorem dL_digest_124 : decode cL_digest 124 = .ok (.ladd, 1) := by decide +kernel
theorem dL_digest_125 : decode cL_digest 125 = .ok (.lreturn, 1) := by decide +kernel
set_option maxRecDepth 20000 in
theorem ggL_holds_X3_count : GoodIn wsL_holds wsX3_count := goodIn_r _ [7, 8, 9, 10, 11, 12, 13, 14, 15, 16, 17, 18, 6, 19, 20, 21, 22, 23, 124, 125, 126, 127, 128, 129, 130, 131, 132, 133, 134, 135, 136, 137, 138, 139, 140, 141, 142, 143] (by decide +kernel) (by decide +kernel)
set_option maxRecDepth 20000 in
theorem gL_holds_X3_count : GoodIn wsL_holds (wsV RL 13 RX3 yX3_count wsX3_count) := goodIn_app (goodIn_of _ (by decide +kernel)) ggL_holds_X3_count
set_option maxRecDepth 20000 in
theorem ggL_holds_X3_clauseOf : GoodIn wsL_holds wsX3_clauseOf := goodIn_r _ [27, 8, 11, 28, 13, 29, 30, 16, 31, 18, 6, 19, 32, 33, 34, 23, 35, 36, 37, 38, 39, 40, 41, 42, 43, 44, 45, 46, 47, 48, 49, 50, 51, 52, 53, 17, 54, 55, 56, 57, 58, 59, 60, 124, 125, 126, 127, 128, 129, 130, 131, 132, 133, 134, 135, 136, 137, 138, 139] (by decide +kernel) (by decide +kernel)
set_option maxRecDepth 20000 in
theorem gL_holds_X3_clauseOf : GoodIn wsL_holds (wsV RL 19 RX3 yX3_clauseOf wsX3_clauseOf) := goodIn_app (goodIn_of _ (by decide +kernel)) ggL_holds_X3_clauseOf
set_option maxRecDepth 20000 in
theorem ggL_holds_X3_follows : GoodIn wsL_holds wsX3_follows := goodIn_r _ [64, 11, 8, 65, 66, 13, 67, 68, 16, 69, 70, 71, 72, 73, 18, 6, 19, 74, 75, 76, 77, 78, 79, 80, 59, 60, 81, 82, 83, 84, 85, 86, 87, 124, 125, 126, 127, 128, 129, 130, 131, 132, 133, 134, 135, 136, 137, 138, 139] (by decide +kernel) (by decide +kernel)
set_option maxRecDepth 20000 in
theorem gL_holds_X3_follows : GoodIn wsL_holds (wsV RL 33 RX3 yX3_follows wsX3_follows) := goodIn_app (goodIn_of _ (by decide +kernel)) ggL_holds_X3_follows
set_option maxRecDepth 20000 in
theorem ggL_holds_X3_refutation : GoodIn wsL_holds wsX3_refutation := goodIn_r _ [91, 8, 92, 13, 93, 94, 16, 49, 18, 6, 19, 35, 36, 37, 38, 124, 125, 126, 127, 128, 129, 130, 131, 132, 133, 134, 135, 136, 137, 138, 139] (by decide +kernel) (by decide +kernel)
set_option maxRecDepth 20000 in
theorem gL_holds_X3_refutation : GoodIn wsL_holds (wsV RL 39 RX3 yX3_refutation wsX3_refutation) := goodIn_app (goodIn_of _ (by decide +kernel)) ggL_holds_X3_refutation
set_option maxRecDepth 20000 in
theorem ggL_holds_X3_tree : GoodIn wsL_holds wsX3_tree := goodIn_r _ [98, 8, 99, 28, 13, 29, 30, 16, 100, 101, 102, 73, 103, 74, 6, 75, 59, 60, 18, 19, 124, 125, 126, 127, 128, 129, 130, 131, 132, 133, 134, 135, 136, 137, 138, 139] (by decide +kernel) (by decide +kernel)
set_option maxRecDepth 20000 in
theorem gL_holds_X3_tree : GoodIn wsL_holds (wsV RL 42 RX3 yX3_tree wsX3_tree) := goodIn_app (goodIn_of _ (by decide +kernel)) ggL_holds_X3_tree
set_option maxRecDepth 20000 in
theorem ggL_holds_X3_models : GoodIn wsL_holds wsX3_models := goodIn_r _ [107, 8, 66, 13, 67, 68, 16, 69, 70, 71, 72, 73, 18, 6, 19, 74, 75, 76, 77, 78, 79, 80, 59, 60, 81, 82, 108, 109, 110, 111, 112, 113, 114, 124, 125, 126, 127, 128, 129, 130, 131, 132, 133, 134, 135, 136, 137, 138, 139] (by decide +kernel) (by decide +kernel)
set_option maxRecDepth 20000 in
theorem gL_holds_X3_models : GoodIn wsL_holds (wsV RL 29 RX3 yX3_models wsX3_models) := goodIn_app (goodIn_of _ (by decide +kernel)) ggL_holds_X3_models
set_option maxRecDepth 20000 in
theorem ggL_holds_X3_core : GoodIn wsL_holds wsX3_core := goodIn_r _ [118, 8, 119, 66, 13, 67, 68, 16, 69, 70, 71, 72, 73, 18, 6, 19, 74, 75, 76, 77, 78, 79, 80, 59, 60, 81, 82, 120, 121, 122, 123, 124, 125, 126, 127, 128, 129, 130, 131, 132, 133, 134, 135, 136, 137, 138, 139] (by decide +kernel) (by decide +kernel)
set_option maxRecDepth 20000 in
theorem gL_holds_X3_core : GoodIn wsL_holds (wsV RL 46 RX3 yX3_core wsX3_core) := goodIn_app (goodIn_of _ (by decide +kernel)) ggL_holds_X3_core
theorem dL_holds_0 : decode cL_holds 0 = .ok (.aload_n 0, 1) := by decide +kernel
theorem dL_holds_1 : decode cL_holds 1 = .ok (.iconst 0, 1) := by decide +kernel
theorem dL_holds_2 : decode cL_holds 2 = .ok (.invokevirtual 13, 3) := by decide +kernel
theorem dL_holds_5 : decode cL_holds 5 = .ok (.istore_n 1, 1) := by decide +kernel
theorem dL_holds_6 : decode cL_holds 6 = .ok (.iconst 0, 1) := by decide +kernel
theorem dL_holds_7 : decode cL_holds 7 = .ok (.istore_n 2, 1) := by decide +kernel
theorem dL_holds_8 : decode cL_holds 8 = .ok (.iconst 0, 1) := by decide +kernel
theorem dL_holds_9 : decode cL_holds 9 = .ok (.istore_n 3, 1) := by decide +kernel
theorem dL_holds_10 : decode cL_holds 10 = .ok (.iload_n 3, 1) := by decide +kernel
theorem dL_holds_11 : decode cL_holds 11 = .ok (.iload_n 1, 1) := by decide +kernel
theorem dL_holds_12 : decode cL_holds 12 = .ok (.if_icmp .ge 320, 3) := by decide +kernel
theorem dL_holds_15 : decode cL_holds 15 = .ok (.aload_n 0, 1) := by decide +kernel
theorem dL_holds_16 : decode cL_holds 16 = .ok (.iload_n 3, 1) := by decide +kernel
theorem dL_holds_17 : decode cL_holds 17 = .ok (.iconst 0, 1) := by decide +kernel
theorem dL_holds_18 : decode cL_holds 18 = .ok (.invokevirtual 19, 3) := by decide +kernel
theorem dL_holds_21 : decode cL_holds 21 = .ok (.istore 4, 2) := by decide +kernel
theorem dL_holds_23 : decode cL_holds 23 = .ok (.aload_n 0, 1) := by decide +kernel
theorem dL_holds_24 : decode cL_holds 24 = .ok (.iload_n 3, 1) := by decide +kernel
theorem dL_holds_25 : decode cL_holds 25 = .ok (.iconst 3, 1) := by decide +kernel
theorem dL_holds_26 : decode cL_holds 26 = .ok (.invokevirtual 19, 3) := by decide +kernel
theorem dL_holds_29 : decode cL_holds 29 = .ok (.istore 5, 2) := by decide +kernel
theorem dL_holds_31 : decode cL_holds 31 = .ok (.aload_n 0, 1) := by decide +kernel
theorem dL_holds_32 : decode cL_holds 32 = .ok (.iload_n 3, 1) := by decide +kernel
theorem dL_holds_33 : decode cL_holds 33 = .ok (.iconst 4, 1) := by decide +kernel
theorem dL_holds_34 : decode cL_holds 34 = .ok (.invokevirtual 19, 3) := by decide +kernel
theorem dL_holds_37 : decode cL_holds 37 = .ok (.istore 6, 2) := by decide +kernel
theorem dL_holds_39 : decode cL_holds 39 = .ok (.aload_n 0, 1) := by decide +kernel
theorem dL_holds_40 : decode cL_holds 40 = .ok (.iload_n 3, 1) := by decide +kernel
theorem dL_holds_41 : decode cL_holds 41 = .ok (.bipush 8, 2) := by decide +kernel
theorem dL_holds_43 : decode cL_holds 43 = .ok (.invokevirtual 19, 3) := by decide +kernel
theorem dL_holds_46 : decode cL_holds 46 = .ok (.istore 7, 2) := by decide +kernel
theorem dL_holds_48 : decode cL_holds 48 = .ok (.iload_n 2, 1) := by decide +kernel
theorem dL_holds_49 : decode cL_holds 49 = .ok (.aload_n 0, 1) := by decide +kernel
theorem dL_holds_50 : decode cL_holds 50 = .ok (.iload_n 3, 1) := by decide +kernel
theorem dL_holds_51 : decode cL_holds 51 = .ok (.iconst 1, 1) := by decide +kernel
theorem dL_holds_52 : decode cL_holds 52 = .ok (.invokevirtual 19, 3) := by decide +kernel
theorem dL_holds_55 : decode cL_holds 55 = .ok (.iconst 2, 1) := by decide +kernel
theorem dL_holds_56 : decode cL_holds 56 = .ok (.if_icmp .ge 7, 3) := by decide +kernel
theorem dL_holds_59 : decode cL_holds 59 = .ok (.iconst 1, 1) := by decide +kernel
theorem dL_holds_60 : decode cL_holds 60 = .ok (.goto 4, 3) := by decide +kernel
theorem dL_holds_63 : decode cL_holds 63 = .ok (.iconst 0, 1) := by decide +kernel
theorem dL_holds_64 : decode cL_holds 64 = .ok (.iadd, 1) := by decide +kernel
theorem dL_holds_65 : decode cL_holds 65 = .ok (.istore_n 2, 1) := by decide +kernel
theorem dL_holds_66 : decode cL_holds 66 = .ok (.iload 4, 2) := by decide +kernel
theorem dL_holds_68 : decode cL_holds 68 = .ok (.iload 4, 2) := by decide +kernel
theorem dL_holds_70 : decode cL_holds 70 = .ok (.iconst 1, 1) := by decide +kernel
theorem dL_holds_71 : decode cL_holds 71 = .ok (.ishr, 1) := by decide +kernel
theorem dL_holds_72 : decode cL_holds 72 = .ok (.iand, 1) := by decide +kernel
theorem dL_holds_73 : decode cL_holds 73 = .ok (.sipush 1365, 3) := by decide +kernel
theorem dL_holds_76 : decode cL_holds 76 = .ok (.iand, 1) := by decide +kernel
theorem dL_holds_77 : decode cL_holds 77 = .ok (.ifCond .ne 106, 3) := by decide +kernel
theorem dL_holds_80 : decode cL_holds 80 = .ok (.aload_n 0, 1) := by decide +kernel
theorem dL_holds_81 : decode cL_holds 81 = .ok (.iload 4, 2) := by decide +kernel
theorem dL_holds_83 : decode cL_holds 83 = .ok (.invokevirtual 33, 3) := by decide +kernel
theorem dL_holds_86 : decode cL_holds 86 = .ok (.iconst 1, 1) := by decide +kernel
theorem dL_holds_87 : decode cL_holds 87 = .ok (.if_icmp .ne 96, 3) := by decide +kernel
theorem dL_holds_90 : decode cL_holds 90 = .ok (.iload 5, 2) := by decide +kernel
theorem dL_holds_92 : decode cL_holds 92 = .ok (.ldc 38, 2) := by decide +kernel
theorem dL_holds_94 : decode cL_holds 94 = .ok (.if_icmp .ne 7, 3) := by decide +kernel
theorem dL_holds_97 : decode cL_holds 97 = .ok (.iconst 1, 1) := by decide +kernel
theorem dL_holds_98 : decode cL_holds 98 = .ok (.goto 4, 3) := by decide +kernel
theorem dL_holds_101 : decode cL_holds 101 = .ok (.iconst 0, 1) := by decide +kernel
theorem dL_holds_102 : decode cL_holds 102 = .ok (.iload 7, 2) := by decide +kernel
theorem dL_holds_104 : decode cL_holds 104 = .ok (.ifCond .ne 7, 3) := by decide +kernel
theorem dL_holds_107 : decode cL_holds 107 = .ok (.iconst 1, 1) := by decide +kernel
theorem dL_holds_108 : decode cL_holds 108 = .ok (.goto 4, 3) := by decide +kernel
theorem dL_holds_111 : decode cL_holds 111 = .ok (.iconst 0, 1) := by decide +kernel
theorem dL_holds_112 : decode cL_holds 112 = .ok (.if_icmp .ne 71, 3) := by decide +kernel
theorem dL_holds_115 : decode cL_holds 115 = .ok (.iload 5, 2) := by decide +kernel
theorem dL_holds_117 : decode cL_holds 117 = .ok (.ldc 38, 2) := by decide +kernel
theorem dL_holds_119 : decode cL_holds 119 = .ok (.if_icmp .ne 7, 3) := by decide +kernel
theorem dL_holds_122 : decode cL_holds 122 = .ok (.iconst 1, 1) := by decide +kernel
theorem dL_holds_123 : decode cL_holds 123 = .ok (.goto 4, 3) := by decide +kernel
theorem dL_holds_126 : decode cL_holds 126 = .ok (.iconst 0, 1) := by decide +kernel
theorem dL_holds_127 : decode cL_holds 127 = .ok (.iload 6, 2) := by decide +kernel
theorem dL_holds_129 : decode cL_holds 129 = .ok (.ldc 38, 2) := by decide +kernel
theorem dL_holds_131 : decode cL_holds 131 = .ok (.if_icmp .ne 7, 3) := by decide +kernel
theorem dL_holds_134 : decode cL_holds 134 = .ok (.iconst 1, 1) := by decide +kernel
theorem dL_holds_135 : decode cL_holds 135 = .ok (.goto 4, 3) := by decide +kernel
theorem dL_holds_138 : decode cL_holds 138 = .ok (.iconst 0, 1) := by decide +kernel
theorem dL_holds_139 : decode cL_holds 139 = .ok (.if_icmp .ne 44, 3) := by decide +kernel
theorem dL_holds_142 : decode cL_holds 142 = .ok (.iload 4, 2) := by decide +kernel
theorem dL_holds_144 : decode cL_holds 144 = .ok (.ifCond .ne 7, 3) := by decide +kernel
theorem dL_holds_147 : decode cL_holds 147 = .ok (.iconst 1, 1) := by decide +kernel
theorem dL_holds_148 : decode cL_holds 148 = .ok (.goto 4, 3) := by decide +kernel
theorem dL_holds_151 : decode cL_holds 151 = .ok (.iconst 0, 1) := by decide +kernel
theorem dL_holds_152 : decode cL_holds 152 = .ok (.aload_n 0, 1) := by decide +kernel
theorem dL_holds_153 : decode cL_holds 153 = .ok (.iload_n 3, 1) := by decide +kernel
theorem dL_holds_154 : decode cL_holds 154 = .ok (.iconst 2, 1) := by decide +kernel
theorem dL_holds_155 : decode cL_holds 155 = .ok (.invokevirtual 19, 3) := by decide +kernel
theorem dL_holds_158 : decode cL_holds 158 = .ok (.ldc 38, 2) := by decide +kernel
theorem dL_holds_160 : decode cL_holds 160 = .ok (.if_icmp .ne 7, 3) := by decide +kernel
theorem dL_holds_163 : decode cL_holds 163 = .ok (.iconst 1, 1) := by decide +kernel
theorem dL_holds_164 : decode cL_holds 164 = .ok (.goto 4, 3) := by decide +kernel
theorem dL_holds_167 : decode cL_holds 167 = .ok (.iconst 0, 1) := by decide +kernel
theorem dL_holds_168 : decode cL_holds 168 = .ok (.if_icmp .ne 15, 3) := by decide +kernel
theorem dL_holds_171 : decode cL_holds 171 = .ok (.iload 4, 2) := by decide +kernel
theorem dL_holds_173 : decode cL_holds 173 = .ok (.ifCond .ne 12, 3) := by decide +kernel
theorem dL_holds_176 : decode cL_holds 176 = .ok (.aload_n 0, 1) := by decide +kernel
theorem dL_holds_177 : decode cL_holds 177 = .ok (.invokevirtual 39, 3) := by decide +kernel
theorem dL_holds_180 : decode cL_holds 180 = .ok (.ifCond .ge 5, 3) := by decide +kernel
theorem dL_holds_183 : decode cL_holds 183 = .ok (.iconst 0, 1) := by decide +kernel
theorem dL_holds_184 : decode cL_holds 184 = .ok (.ireturn, 1) := by decide +kernel
theorem dL_holds_185 : decode cL_holds 185 = .ok (.iload 5, 2) := by decide +kernel
theorem dL_holds_187 : decode cL_holds 187 = .ok (.ldc 38, 2) := by decide +kernel
theorem dL_holds_189 : decode cL_holds 189 = .ok (.if_icmp .eq 137, 3) := by decide +kernel
theorem dL_holds_192 : decode cL_holds 192 = .ok (.aload_n 0, 1) := by decide +kernel
theorem dL_holds_193 : decode cL_holds 193 = .ok (.iload_n 3, 1) := by decide +kernel
theorem dL_holds_194 : decode cL_holds 194 = .ok (.iconst 5, 1) := by decide +kernel
theorem dL_holds_195 : decode cL_holds 195 = .ok (.invokevirtual 19, 3) := by decide +kernel
theorem dL_holds_198 : decode cL_holds 198 = .ok (.istore 8, 2) := by decide +kernel
theorem dL_holds_200 : decode cL_holds 200 = .ok (.aload_n 0, 1) := by decide +kernel
theorem dL_holds_201 : decode cL_holds 201 = .ok (.iload 5, 2) := by decide +kernel
theorem dL_holds_203 : decode cL_holds 203 = .ok (.iconst 0, 1) := by decide +kernel
theorem dL_holds_204 : decode cL_holds 204 = .ok (.invokevirtual 19, 3) := by decide +kernel
theorem dL_holds_207 : decode cL_holds 207 = .ok (.aload_n 0, 1) := by decide +kernel
theorem dL_holds_208 : decode cL_holds 208 = .ok (.iload 6, 2) := by decide +kernel
theorem dL_holds_210 : decode cL_holds 210 = .ok (.iconst 0, 1) := by decide +kernel
theorem dL_holds_211 : decode cL_holds 211 = .ok (.invokevirtual 19, 3) := by decide +kernel
theorem dL_holds_214 : decode cL_holds 214 = .ok (.ior, 1) := by decide +kernel
theorem dL_holds_215 : decode cL_holds 215 = .ok (.istore 9, 2) := by decide +kernel
theorem dL_holds_217 : decode cL_holds 217 = .ok (.aload_n 0, 1) := by decide +kernel
theorem dL_holds_218 : decode cL_holds 218 = .ok (.iload 5, 2) := by decide +kernel
theorem dL_holds_220 : decode cL_holds 220 = .ok (.invokevirtual 42, 3) := by decide +kernel
theorem dL_holds_223 : decode cL_holds 223 = .ok (.aload_n 0, 1) := by decide +kernel
theorem dL_holds_224 : decode cL_holds 224 = .ok (.iload 6, 2) := by decide +kernel
theorem dL_holds_226 : decode cL_holds 226 = .ok (.invokevirtual 42, 3) := by decide +kernel
theorem dL_holds_229 : decode cL_holds 229 = .ok (.lor, 1) := by decide +kernel
theorem dL_holds_230 : decode cL_holds 230 = .ok (.lconst 1, 1) := by decide +kernel
theorem dL_holds_231 : decode cL_holds 231 = .ok (.iload_n 3, 1) := by decide +kernel
theorem dL_holds_232 : decode cL_holds 232 = .ok (.lshl, 1) := by decide +kernel
theorem dL_holds_233 : decode cL_holds 233 = .ok (.lor, 1) := by decide +kernel
theorem dL_holds_234 : decode cL_holds 234 = .ok (.lstore 10, 2) := by decide +kernel
theorem dL_holds_236 : decode cL_holds 236 = .ok (.iload 5, 2) := by decide +kernel
theorem dL_holds_238 : decode cL_holds 238 = .ok (.iload_n 3, 1) := by decide +kernel
theorem dL_holds_239 : decode cL_holds 239 = .ok (.if_icmp .ge 85, 3) := by decide +kernel
theorem dL_holds_242 : decode cL_holds 242 = .ok (.iload 6, 2) := by decide +kernel
theorem dL_holds_244 : decode cL_holds 244 = .ok (.iload_n 3, 1) := by decide +kernel
theorem dL_holds_245 : decode cL_holds 245 = .ok (.if_icmp .ge 79, 3) := by decide +kernel
theorem dL_holds_248 : decode cL_holds 248 = .ok (.iload 9, 2) := by decide +kernel
theorem dL_holds_250 : decode cL_holds 250 = .ok (.iconst 3, 1) := by decide +kernel
theorem dL_holds_251 : decode cL_holds 251 = .ok (.iconst 2, 1) := by decide +kernel
theorem dL_holds_252 : decode cL_holds 252 = .ok (.iload 8, 2) := by decide +kernel
theorem dL_holds_254 : decode cL_holds 254 = .ok (.imul, 1) := by decide +kernel
theorem dL_holds_255 : decode cL_holds 255 = .ok (.ishl, 1) := by decide +kernel
theorem dL_holds_256 : decode cL_holds 256 = .ok (.iconst (-1), 1) := by decide +kernel
theorem dL_holds_257 : decode cL_holds 257 = .ok (.ixor, 1) := by decide +kernel
theorem dL_holds_258 : decode cL_holds 258 = .ok (.iand, 1) := by decide +kernel
theorem dL_holds_259 : decode cL_holds 259 = .ok (.iload 4, 2) := by decide +kernel
theorem dL_holds_261 : decode cL_holds 261 = .ok (.if_icmp .ne 63, 3) := by decide +kernel
theorem dL_holds_264 : decode cL_holds 264 = .ok (.aload_n 0, 1) := by decide +kernel
theorem dL_holds_265 : decode cL_holds 265 = .ok (.iload 5, 2) := by decide +kernel
theorem dL_holds_267 : decode cL_holds 267 = .ok (.iconst 0, 1) := by decide +kernel
theorem dL_holds_268 : decode cL_holds 268 = .ok (.invokevirtual 19, 3) := by decide +kernel
theorem dL_holds_271 : decode cL_holds 271 = .ok (.iconst 2, 1) := by decide +kernel
theorem dL_holds_272 : decode cL_holds 272 = .ok (.iload 8, 2) := by decide +kernel
theorem dL_holds_274 : decode cL_holds 274 = .ok (.imul, 1) := by decide +kernel
theorem dL_holds_275 : decode cL_holds 275 = .ok (.ishr, 1) := by decide +kernel
theorem dL_holds_276 : decode cL_holds 276 = .ok (.iconst 3, 1) := by decide +kernel
theorem dL_holds_277 : decode cL_holds 277 = .ok (.iand, 1) := by decide +kernel
theorem dL_holds_278 : decode cL_holds 278 = .ok (.iconst 1, 1) := by decide +kernel
theorem dL_holds_279 : decode cL_holds 279 = .ok (.if_icmp .ne 45, 3) := by decide +kernel
theorem dL_holds_282 : decode cL_holds 282 = .ok (.aload_n 0, 1) := by decide +kernel
theorem dL_holds_283 : decode cL_holds 283 = .ok (.iload 6, 2) := by decide +kernel
theorem dL_holds_285 : decode cL_holds 285 = .ok (.iconst 0, 1) := by decide +kernel
theorem dL_holds_286 : decode cL_holds 286 = .ok (.invokevirtual 19, 3) := by decide +kernel
theorem dL_holds_289 : decode cL_holds 289 = .ok (.iconst 2, 1) := by decide +kernel
theorem dL_holds_290 : decode cL_holds 290 = .ok (.iload 8, 2) := by decide +kernel
theorem dL_holds_292 : decode cL_holds 292 = .ok (.imul, 1) := by decide +kernel
theorem dL_holds_293 : decode cL_holds 293 = .ok (.ishr, 1) := by decide +kernel
theorem dL_holds_294 : decode cL_holds 294 = .ok (.iconst 3, 1) := by decide +kernel
theorem dL_holds_295 : decode cL_holds 295 = .ok (.iand, 1) := by decide +kernel
theorem dL_holds_296 : decode cL_holds 296 = .ok (.iconst 2, 1) := by decide +kernel
theorem dL_holds_297 : decode cL_holds 297 = .ok (.if_icmp .ne 27, 3) := by decide +kernel
theorem dL_holds_300 : decode cL_holds 300 = .ok (.aload_n 0, 1) := by decide +kernel
theorem dL_holds_301 : decode cL_holds 301 = .ok (.iload_n 3, 1) := by decide +kernel
theorem dL_holds_302 : decode cL_holds 302 = .ok (.invokevirtual 42, 3) := by decide +kernel
theorem dL_holds_305 : decode cL_holds 305 = .ok (.lload 10, 2) := by decide +kernel
theorem dL_holds_307 : decode cL_holds 307 = .ok (.lcmp, 1) := by decide +kernel
theorem dL_holds_308 : decode cL_holds 308 = .ok (.ifCond .ne 16, 3) := by decide +kernel
theorem dL_holds_311 : decode cL_holds 311 = .ok (.aload_n 0, 1) := by decide +kernel
theorem dL_holds_312 : decode cL_holds 312 = .ok (.iload 5, 2) := by decide +kernel
theorem dL_holds_314 : decode cL_holds 314 = .ok (.bipush 8, 2) := by decide +kernel
theorem dL_holds_316 : decode cL_holds 316 = .ok (.invokevirtual 19, 3) := by decide +kernel
theorem dL_holds_319 : decode cL_holds 319 = .ok (.iload 7, 2) := by decide +kernel
theorem dL_holds_321 : decode cL_holds 321 = .ok (.if_icmp .lt 5, 3) := by decide +kernel
theorem dL_holds_324 : decode cL_holds 324 = .ok (.iconst 0, 1) := by decide +kernel
theorem dL_holds_325 : decode cL_holds 325 = .ok (.ireturn, 1) := by decide +kernel
theorem dL_holds_326 : decode cL_holds 326 = .ok (.iinc 3 1, 3) := by decide +kernel
theorem dL_holds_329 : decode cL_holds 329 = .ok (.goto (-319), 3) := by decide +kernel
theorem dL_holds_332 : decode cL_holds 332 = .ok (.aload_n 0, 1) := by decide +kernel
theorem dL_holds_333 : decode cL_holds 333 = .ok (.iconst 1, 1) := by decide +kernel
theorem dL_holds_334 : decode cL_holds 334 = .ok (.invokevirtual 13, 3) := by decide +kernel
theorem dL_holds_337 : decode cL_holds 337 = .ok (.ifCond .gt 17, 3) := by decide +kernel
theorem dL_holds_340 : decode cL_holds 340 = .ok (.aload_n 0, 1) := by decide +kernel
theorem dL_holds_341 : decode cL_holds 341 = .ok (.invokevirtual 39, 3) := by decide +kernel
theorem dL_holds_344 : decode cL_holds 344 = .ok (.ifCond .ge 10, 3) := by decide +kernel
theorem dL_holds_347 : decode cL_holds 347 = .ok (.aload_n 0, 1) := by decide +kernel
theorem dL_holds_348 : decode cL_holds 348 = .ok (.invokevirtual 29, 3) := by decide +kernel
theorem dL_holds_351 : decode cL_holds 351 = .ok (.ifCond .le 7, 3) := by decide +kernel
theorem dL_holds_354 : decode cL_holds 354 = .ok (.iconst 1, 1) := by decide +kernel
theorem dL_holds_355 : decode cL_holds 355 = .ok (.goto 4, 3) := by decide +kernel
theorem dL_holds_358 : decode cL_holds 358 = .ok (.iconst 0, 1) := by decide +kernel
theorem dL_holds_359 : decode cL_holds 359 = .ok (.istore_n 3, 1) := by decide +kernel
theorem dL_holds_360 : decode cL_holds 360 = .ok (.iload_n 3, 1) := by decide +kernel
theorem dL_holds_361 : decode cL_holds 361 = .ok (.ifCond .eq 78, 3) := by decide +kernel
theorem dL_holds_364 : decode cL_holds 364 = .ok (.iload_n 2, 1) := by decide +kernel
theorem dL_holds_365 : decode cL_holds 365 = .ok (.aload_n 0, 1) := by decide +kernel
theorem dL_holds_366 : decode cL_holds 366 = .ok (.iconst 1, 1) := by decide +kernel
theorem dL_holds_367 : decode cL_holds 367 = .ok (.invokevirtual 13, 3) := by decide +kernel
theorem dL_holds_370 : decode cL_holds 370 = .ok (.aload_n 0, 1) := by decide +kernel
theorem dL_holds_371 : decode cL_holds 371 = .ok (.iconst 2, 1) := by decide +kernel
theorem dL_holds_372 : decode cL_holds 372 = .ok (.invokevirtual 13, 3) := by decide +kernel
theorem dL_holds_375 : decode cL_holds 375 = .ok (.iadd, 1) := by decide +kernel
theorem dL_holds_376 : decode cL_holds 376 = .ok (.if_icmp .ne 63, 3) := by decide +kernel
theorem dL_holds_379 : decode cL_holds 379 = .ok (.iload_n 1, 1) := by decide +kernel
theorem dL_holds_380 : decode cL_holds 380 = .ok (.iload_n 2, 1) := by decide +kernel
theorem dL_holds_381 : decode cL_holds 381 = .ok (.aload_n 0, 1) := by decide +kernel
theorem dL_holds_382 : decode cL_holds 382 = .ok (.iconst 3, 1) := by decide +kernel
theorem dL_holds_383 : decode cL_holds 383 = .ok (.invokevirtual 13, 3) := by decide +kernel
theorem dL_holds_386 : decode cL_holds 386 = .ok (.iadd, 1) := by decide +kernel
theorem dL_holds_387 : decode cL_holds 387 = .ok (.if_icmp .ne 52, 3) := by decide +kernel
theorem dL_holds_390 : decode cL_holds 390 = .ok (.aload_n 0, 1) := by decide +kernel
theorem dL_holds_391 : decode cL_holds 391 = .ok (.invokevirtual 46, 3) := by decide +kernel
theorem dL_holds_394 : decode cL_holds 394 = .ok (.ldc2_w 50, 3) := by decide +kernel
theorem dL_holds_397 : decode cL_holds 397 = .ok (.lcmp, 1) := by decide +kernel
theorem dL_holds_398 : decode cL_holds 398 = .ok (.ifCond .ne 7, 3) := by decide +kernel
theorem dL_holds_401 : decode cL_holds 401 = .ok (.iconst 1, 1) := by decide +kernel
theorem dL_holds_402 : decode cL_holds 402 = .ok (.goto 4, 3) := by decide +kernel
theorem dL_holds_405 : decode cL_holds 405 = .ok (.iconst 0, 1) := by decide +kernel
theorem dL_holds_406 : decode cL_holds 406 = .ok (.aload_n 0, 1) := by decide +kernel
theorem dL_holds_407 : decode cL_holds 407 = .ok (.invokevirtual 29, 3) := by decide +kernel
theorem dL_holds_410 : decode cL_holds 410 = .ok (.ifCond .le 7, 3) := by decide +kernel
theorem dL_holds_413 : decode cL_holds 413 = .ok (.iconst 1, 1) := by decide +kernel
theorem dL_holds_414 : decode cL_holds 414 = .ok (.goto 4, 3) := by decide +kernel
theorem dL_holds_417 : decode cL_holds 417 = .ok (.iconst 0, 1) := by decide +kernel
theorem dL_holds_418 : decode cL_holds 418 = .ok (.if_icmp .ne 21, 3) := by decide +kernel
theorem dL_holds_421 : decode cL_holds 421 = .ok (.aload_n 0, 1) := by decide +kernel
theorem dL_holds_422 : decode cL_holds 422 = .ok (.invokevirtual 39, 3) := by decide +kernel
theorem dL_holds_425 : decode cL_holds 425 = .ok (.ifCond .lt 10, 3) := by decide +kernel
theorem dL_holds_428 : decode cL_holds 428 = .ok (.aload_n 0, 1) := by decide +kernel
theorem dL_holds_429 : decode cL_holds 429 = .ok (.invokevirtual 29, 3) := by decide +kernel
theorem dL_holds_432 : decode cL_holds 432 = .ok (.ifCond .ne 7, 3) := by decide +kernel
theorem dL_holds_435 : decode cL_holds 435 = .ok (.iconst 1, 1) := by decide +kernel
theorem dL_holds_436 : decode cL_holds 436 = .ok (.goto 4, 3) := by decide +kernel
theorem dL_holds_439 : decode cL_holds 439 = .ok (.iconst 0, 1) := by decide +kernel
theorem dL_holds_440 : decode cL_holds 440 = .ok (.ireturn, 1) := by decide +kernel
set_option maxRecDepth 20000 in
theorem ggL_types_L_low : GoodIn wsL_types wsL_low := goodIn_r _ [4, 5] (by decide +kernel) (by decide +kernel)
set_option maxRecDepth 20000 in
theorem gL_types_L_low : GoodIn wsL_types (va_wsS RL 52 yL_low wsL_low) := goodIn_app (goodIn_of _ (by decide +kernel)) ggL_types_L_low
set_option maxRecDepth 20000 in
theorem ggL_types_X3_clearText : GoodIn wsL_types wsX3_clearText := goodIn_r _ [10, 11, 26, 27, 28, 29, 30] (by decide +kernel) (by decide +kernel)
set_option maxRecDepth 20000 in
theorem gL_types_X3_clearText : GoodIn wsL_types (wsV RL 55 RX3 yX3_clearText wsX3_clearText) := goodIn_app (goodIn_of _ (by decide +kernel)) ggL_types_X3_clearText
set_option maxRecDepth 20000 in
theorem ggL_types_X3_type : GoodIn wsL_types wsX3_type := goodIn_r _ [15, 16, 11, 17, 18, 19, 20, 21, 22, 23, 24, 9, 25, 26, 27, 28, 29, 30] (by decide +kernel) (by decide +kernel)
set_option maxRecDepth 20000 in
theorem gL_types_X3_type : GoodIn wsL_types (wsV RL 58 RX3 yX3_type wsX3_type) := goodIn_app (goodIn_of _ (by decide +kernel)) ggL_types_X3_type
theorem dL_types_0 : decode cL_types 0 = .ok (.iload_n 1, 1) := by decide +kernel
theorem dL_types_1 : decode cL_types 1 = .ok (.iconst 5, 1) := by decide +kernel
theorem dL_types_2 : decode cL_types 2 = .ok (.invokestatic 52, 3) := by decide +kernel
theorem dL_types_5 : decode cL_types 5 = .ok (.istore_n 2, 1) := by decide +kernel
theorem dL_types_6 : decode cL_types 6 = .ok (.aload_n 0, 1) := by decide +kernel
theorem dL_types_7 : decode cL_types 7 = .ok (.invokevirtual 55, 3) := by decide +kernel
theorem dL_types_10 : decode cL_types 10 = .ok (.ifCond .lt 7, 3) := by decide +kernel
theorem dL_types_13 : decode cL_types 13 = .ok (.iconst 1, 1) := by decide +kernel
theorem dL_types_14 : decode cL_types 14 = .ok (.goto 4, 3) := by decide +kernel
theorem dL_types_17 : decode cL_types 17 = .ok (.iconst 0, 1) := by decide +kernel
theorem dL_types_18 : decode cL_types 18 = .ok (.istore_n 3, 1) := by decide +kernel
theorem dL_types_19 : decode cL_types 19 = .ok (.iconst 0, 1) := by decide +kernel
theorem dL_types_20 : decode cL_types 20 = .ok (.istore 4, 2) := by decide +kernel
theorem dL_types_22 : decode cL_types 22 = .ok (.iload 4, 2) := by decide +kernel
theorem dL_types_24 : decode cL_types 24 = .ok (.iload_n 2, 1) := by decide +kernel
theorem dL_types_25 : decode cL_types 25 = .ok (.if_icmp .ge 149, 3) := by decide +kernel
theorem dL_types_28 : decode cL_types 28 = .ok (.iload_n 1, 1) := by decide +kernel
theorem dL_types_29 : decode cL_types 29 = .ok (.iconst 3, 1) := by decide +kernel
theorem dL_types_30 : decode cL_types 30 = .ok (.iconst 5, 1) := by decide +kernel
theorem dL_types_31 : decode cL_types 31 = .ok (.iload 4, 2) := by decide +kernel
theorem dL_types_33 : decode cL_types 33 = .ok (.imul, 1) := by decide +kernel
theorem dL_types_34 : decode cL_types 34 = .ok (.iadd, 1) := by decide +kernel
theorem dL_types_35 : decode cL_types 35 = .ok (.ishr, 1) := by decide +kernel
theorem dL_types_36 : decode cL_types 36 = .ok (.istore 5, 2) := by decide +kernel
theorem dL_types_38 : decode cL_types 38 = .ok (.iconst 0, 1) := by decide +kernel
theorem dL_types_39 : decode cL_types 39 = .ok (.istore 6, 2) := by decide +kernel
theorem dL_types_41 : decode cL_types 41 = .ok (.iload 6, 2) := by decide +kernel
theorem dL_types_43 : decode cL_types 43 = .ok (.iconst 2, 1) := by decide +kernel
theorem dL_types_44 : decode cL_types 44 = .ok (.iload 5, 2) := by decide +kernel
theorem dL_types_46 : decode cL_types 46 = .ok (.iconst 2, 1) := by decide +kernel
theorem dL_types_47 : decode cL_types 47 = .ok (.invokestatic 52, 3) := by decide +kernel
theorem dL_types_50 : decode cL_types 50 = .ok (.iadd, 1) := by decide +kernel
theorem dL_types_51 : decode cL_types 51 = .ok (.if_icmp .ge 78, 3) := by decide +kernel
theorem dL_types_54 : decode cL_types 54 = .ok (.iload_n 3, 1) := by decide +kernel
theorem dL_types_55 : decode cL_types 55 = .ok (.ifCond .eq 66, 3) := by decide +kernel
theorem dL_types_58 : decode cL_types 58 = .ok (.iload 5, 2) := by decide +kernel
theorem dL_types_60 : decode cL_types 60 = .ok (.iload 6, 2) := by decide +kernel
theorem dL_types_62 : decode cL_types 62 = .ok (.ishr, 1) := by decide +kernel
theorem dL_types_63 : decode cL_types 63 = .ok (.iconst 2, 1) := by decide +kernel
theorem dL_types_64 : decode cL_types 64 = .ok (.invokestatic 52, 3) := by decide +kernel
theorem dL_types_67 : decode cL_types 67 = .ok (.ifCond .eq 12, 3) := by decide +kernel
theorem dL_types_70 : decode cL_types 70 = .ok (.aload_n 0, 1) := by decide +kernel
theorem dL_types_71 : decode cL_types 71 = .ok (.bipush 45, 2) := by decide +kernel
theorem dL_types_73 : decode cL_types 73 = .ok (.invokevirtual 58, 3) := by decide +kernel
theorem dL_types_76 : decode cL_types 76 = .ok (.ifCond .le 45, 3) := by decide +kernel
theorem dL_types_79 : decode cL_types 79 = .ok (.aload_n 0, 1) := by decide +kernel
theorem dL_types_80 : decode cL_types 80 = .ok (.bipush 97, 2) := by decide +kernel
theorem dL_types_82 : decode cL_types 82 = .ok (.iload 5, 2) := by decide +kernel
theorem dL_types_84 : decode cL_types 84 = .ok (.iconst 2, 1) := by decide +kernel
theorem dL_types_85 : decode cL_types 85 = .ok (.iload 6, 2) := by decide +kernel
theorem dL_types_87 : decode cL_types 87 = .ok (.imul, 1) := by decide +kernel
theorem dL_types_88 : decode cL_types 88 = .ok (.ishr, 1) := by decide +kernel
theorem dL_types_89 : decode cL_types 89 = .ok (.iload_n 1, 1) := by decide +kernel
theorem dL_types_90 : decode cL_types 90 = .ok (.bipush 25, 2) := by decide +kernel
theorem dL_types_92 : decode cL_types 92 = .ok (.ishr, 1) := by decide +kernel
theorem dL_types_93 : decode cL_types 93 = .ok (.bipush 9, 2) := by decide +kernel
theorem dL_types_95 : decode cL_types 95 = .ok (.invokestatic 52, 3) := by decide +kernel
theorem dL_types_98 : decode cL_types 98 = .ok (.ifCond .ne 8, 3) := by decide +kernel
theorem dL_types_101 : decode cL_types 101 = .ok (.bipush 7, 2) := by decide +kernel
theorem dL_types_103 : decode cL_types 103 = .ok (.goto 4, 3) := by decide +kernel
theorem dL_types_106 : decode cL_types 106 = .ok (.iconst 4, 1) := by decide +kernel
theorem dL_types_107 : decode cL_types 107 = .ok (.invokestatic 52, 3) := by decide +kernel
theorem dL_types_110 : decode cL_types 110 = .ok (.iadd, 1) := by decide +kernel
theorem dL_types_111 : decode cL_types 111 = .ok (.invokevirtual 58, 3) := by decide +kernel
theorem dL_types_114 : decode cL_types 114 = .ok (.ifCond .le 7, 3) := by decide +kernel
theorem dL_types_117 : decode cL_types 117 = .ok (.iconst 1, 1) := by decide +kernel
theorem dL_types_118 : decode cL_types 118 = .ok (.goto 4, 3) := by decide +kernel
theorem dL_types_121 : decode cL_types 121 = .ok (.iconst 0, 1) := by decide +kernel
theorem dL_types_122 : decode cL_types 122 = .ok (.istore_n 3, 1) := by decide +kernel
theorem dL_types_123 : decode cL_types 123 = .ok (.iinc 6 1, 3) := by decide +kernel
theorem dL_types_126 : decode cL_types 126 = .ok (.goto (-85), 3) := by decide +kernel
theorem dL_types_129 : decode cL_types 129 = .ok (.iload_n 3, 1) := by decide +kernel
theorem dL_types_130 : decode cL_types 130 = .ok (.ifCond .eq 36, 3) := by decide +kernel
theorem dL_types_133 : decode cL_types 133 = .ok (.iload_n 1, 1) := by decide +kernel
theorem dL_types_134 : decode cL_types 134 = .ok (.bipush 23, 2) := by decide +kernel
theorem dL_types_136 : decode cL_types 136 = .ok (.ishr, 1) := by decide +kernel
theorem dL_types_137 : decode cL_types 137 = .ok (.bipush 7, 2) := by decide +kernel
theorem dL_types_139 : decode cL_types 139 = .ok (.invokestatic 52, 3) := by decide +kernel
theorem dL_types_142 : decode cL_types 142 = .ok (.ifCond .ne 11, 3) := by decide +kernel
theorem dL_types_145 : decode cL_types 145 = .ok (.iload 4, 2) := by decide +kernel
theorem dL_types_147 : decode cL_types 147 = .ok (.iload_n 2, 1) := by decide +kernel
theorem dL_types_148 : decode cL_types 148 = .ok (.iconst 1, 1) := by decide +kernel
theorem dL_types_149 : decode cL_types 149 = .ok (.isub, 1) := by decide +kernel
theorem dL_types_150 : decode cL_types 150 = .ok (.if_icmp .eq 12, 3) := by decide +kernel
theorem dL_types_153 : decode cL_types 153 = .ok (.aload_n 0, 1) := by decide +kernel
theorem dL_types_154 : decode cL_types 154 = .ok (.bipush 59, 2) := by decide +kernel
theorem dL_types_156 : decode cL_types 156 = .ok (.invokevirtual 58, 3) := by decide +kernel
theorem dL_types_159 : decode cL_types 159 = .ok (.ifCond .le 7, 3) := by decide +kernel
theorem dL_types_162 : decode cL_types 162 = .ok (.iconst 1, 1) := by decide +kernel
theorem dL_types_163 : decode cL_types 163 = .ok (.goto 4, 3) := by decide +kernel
theorem dL_types_166 : decode cL_types 166 = .ok (.iconst 0, 1) := by decide +kernel
theorem dL_types_167 : decode cL_types 167 = .ok (.istore_n 3, 1) := by decide +kernel
theorem dL_types_168 : decode cL_types 168 = .ok (.iinc 4 1, 3) := by decide +kernel
theorem dL_types_171 : decode cL_types 171 = .ok (.goto (-149), 3) := by decide +kernel
theorem dL_types_174 : decode cL_types 174 = .ok (.iload_n 3, 1) := by decide +kernel
theorem dL_types_175 : decode cL_types 175 = .ok (.ireturn, 1) := by decide +kernel
set_option maxRecDepth 20000 in
theorem ggL_plays_X3_fault : GoodIn wsL_plays wsX3_fault := goodIn_r _ [8, 9, 10, 11, 12, 13, 14, 15, 16, 17, 18, 7, 19, 20, 21, 22, 137, 138, 139, 140, 141] (by decide +kernel) (by decide +kernel)
set_option maxRecDepth 20000 in
theorem gL_plays_X3_fault : GoodIn wsL_plays (wsV RL 61 RX3 yX3_fault wsX3_fault) := goodIn_app (goodIn_of _ (by decide +kernel)) ggL_plays_X3_fault
set_option maxRecDepth 20000 in
theorem ggL_plays_X3_count : GoodIn wsL_plays wsX3_count := goodIn_r _ [26, 27, 28, 10, 9, 29, 30, 31, 32, 33, 34, 18, 7, 19, 35, 36, 37, 38, 137, 138, 139, 142, 143, 144, 145, 146, 147, 148, 149, 150, 151, 152, 153, 154, 155, 156, 140, 141] (by decide +kernel) (by decide +kernel)
set_option maxRecDepth 20000 in
theorem gL_plays_X3_count : GoodIn wsL_plays (wsV RL 13 RX3 yX3_count wsX3_count) := goodIn_app (goodIn_of _ (by decide +kernel)) ggL_plays_X3_count
set_option maxRecDepth 20000 in
theorem ggL_plays_X3_play : GoodIn wsL_plays wsX3_play := goodIn_r _ [42, 10, 43, 28, 27, 12, 13, 14, 15, 16, 17, 18, 7, 19, 44, 45, 46, 47, 48, 49, 50, 51, 52, 53, 54, 30, 55, 56, 38, 57, 34, 58, 59, 60, 61, 62, 33, 63, 64, 65, 66, 67, 68, 69, 70, 71, 72, 73, 74, 75, 76, 77, 78, 79, 80, 81, 82, 83, 84, 85, 86, 87, 88, 89, 90, 91, 92, 93, 94, 95, 96, 97, 98, 99, 100, 101, 102, 103, 104, 105, 106, 107, 108, 109, 110, 111, 112, 113, 114, 115, 116, 117, 118, 119, 120, 121, 122, 123, 124, 125, 126, 9, 127, 128, 129, 130, 131, 132, 133, 134, 135, 136, 137, 138, 139, 140, 141, 155, 156, 142, 143, 144, 145, 146, 147, 148, 149, 150, 151, 152, 153, 154] (by decide +kernel) (by decide +kernel)
set_option maxRecDepth 20000 in
theorem gL_plays_X3_play : GoodIn wsL_plays (wsV RL 64 RX3 yX3_play wsX3_play) := goodIn_app (goodIn_of _ (by decide +kernel)) ggL_plays_X3_play
theorem dL_plays_0 : decode cL_plays 0 = .ok (.aload_n 0, 1) := by decide +kernel
theorem dL_plays_1 : decode cL_plays 1 = .ok (.iconst 0, 1) := by decide +kernel
theorem dL_plays_2 : decode cL_plays 2 = .ok (.invokevirtual 61, 3) := by decide +kernel
theorem dL_plays_5 : decode cL_plays 5 = .ok (.istore_n 1, 1) := by decide +kernel
theorem dL_plays_6 : decode cL_plays 6 = .ok (.aload_n 0, 1) := by decide +kernel
theorem dL_plays_7 : decode cL_plays 7 = .ok (.iconst 1, 1) := by decide +kernel
theorem dL_plays_8 : decode cL_plays 8 = .ok (.invokevirtual 61, 3) := by decide +kernel
theorem dL_plays_11 : decode cL_plays 11 = .ok (.istore_n 2, 1) := by decide +kernel
theorem dL_plays_12 : decode cL_plays 12 = .ok (.aload_n 0, 1) := by decide +kernel
theorem dL_plays_13 : decode cL_plays 13 = .ok (.bipush 9, 2) := by decide +kernel
theorem dL_plays_15 : decode cL_plays 15 = .ok (.invokevirtual 13, 3) := by decide +kernel
theorem dL_plays_18 : decode cL_plays 18 = .ok (.istore_n 3, 1) := by decide +kernel
theorem dL_plays_19 : decode cL_plays 19 = .ok (.aload_n 0, 1) := by decide +kernel
theorem dL_plays_20 : decode cL_plays 20 = .ok (.iconst 0, 1) := by decide +kernel
theorem dL_plays_21 : decode cL_plays 21 = .ok (.invokevirtual 13, 3) := by decide +kernel
theorem dL_plays_24 : decode cL_plays 24 = .ok (.istore 4, 2) := by decide +kernel
theorem dL_plays_26 : decode cL_plays 26 = .ok (.aload_n 0, 1) := by decide +kernel
theorem dL_plays_27 : decode cL_plays 27 = .ok (.invokevirtual 64, 3) := by decide +kernel
theorem dL_plays_30 : decode cL_plays 30 = .ok (.istore 5, 2) := by decide +kernel
theorem dL_plays_32 : decode cL_plays 32 = .ok (.iload_n 1, 1) := by decide +kernel
theorem dL_plays_33 : decode cL_plays 33 = .ok (.ldc 38, 2) := by decide +kernel
theorem dL_plays_35 : decode cL_plays 35 = .ok (.if_icmp .ne 38, 3) := by decide +kernel
theorem dL_plays_38 : decode cL_plays 38 = .ok (.iload_n 2, 1) := by decide +kernel
theorem dL_plays_39 : decode cL_plays 39 = .ok (.ldc 38, 2) := by decide +kernel
theorem dL_plays_41 : decode cL_plays 41 = .ok (.if_icmp .ne 32, 3) := by decide +kernel
theorem dL_plays_44 : decode cL_plays 44 = .ok (.iload 5, 2) := by decide +kernel
theorem dL_plays_46 : decode cL_plays 46 = .ok (.ldc 67, 2) := by decide +kernel
theorem dL_plays_48 : decode cL_plays 48 = .ok (.if_icmp .eq 21, 3) := by decide +kernel
theorem dL_plays_51 : decode cL_plays 51 = .ok (.iload 5, 2) := by decide +kernel
theorem dL_plays_53 : decode cL_plays 53 = .ok (.ifCond .lt 20, 3) := by decide +kernel
theorem dL_plays_56 : decode cL_plays 56 = .ok (.aload_n 0, 1) := by decide +kernel
theorem dL_plays_57 : decode cL_plays 57 = .ok (.iconst 0, 1) := by decide +kernel
theorem dL_plays_58 : decode cL_plays 58 = .ok (.invokevirtual 13, 3) := by decide +kernel
theorem dL_plays_61 : decode cL_plays 61 = .ok (.iload 4, 2) := by decide +kernel
theorem dL_plays_63 : decode cL_plays 63 = .ok (.iload 5, 2) := by decide +kernel
theorem dL_plays_65 : decode cL_plays 65 = .ok (.iadd, 1) := by decide +kernel
theorem dL_plays_66 : decode cL_plays 66 = .ok (.if_icmp .ne 7, 3) := by decide +kernel
theorem dL_plays_69 : decode cL_plays 69 = .ok (.iconst 1, 1) := by decide +kernel
theorem dL_plays_70 : decode cL_plays 70 = .ok (.goto 4, 3) := by decide +kernel
theorem dL_plays_73 : decode cL_plays 73 = .ok (.iconst 0, 1) := by decide +kernel
theorem dL_plays_74 : decode cL_plays 74 = .ok (.istore 6, 2) := by decide +kernel
theorem dL_plays_76 : decode cL_plays 76 = .ok (.iload_n 1, 1) := by decide +kernel
theorem dL_plays_77 : decode cL_plays 77 = .ok (.ifCond .lt 30, 3) := by decide +kernel
theorem dL_plays_80 : decode cL_plays 80 = .ok (.iload_n 1, 1) := by decide +kernel
theorem dL_plays_81 : decode cL_plays 81 = .ok (.iload_n 3, 1) := by decide +kernel
theorem dL_plays_82 : decode cL_plays 82 = .ok (.if_icmp .ge 25, 3) := by decide +kernel
theorem dL_plays_85 : decode cL_plays 85 = .ok (.iload_n 2, 1) := by decide +kernel
theorem dL_plays_86 : decode cL_plays 86 = .ok (.ifCond .lt 21, 3) := by decide +kernel
theorem dL_plays_89 : decode cL_plays 89 = .ok (.iload_n 1, 1) := by decide +kernel
theorem dL_plays_90 : decode cL_plays 90 = .ok (.iload_n 2, 1) := by decide +kernel
theorem dL_plays_91 : decode cL_plays 91 = .ok (.iadd, 1) := by decide +kernel
theorem dL_plays_92 : decode cL_plays 92 = .ok (.iload_n 3, 1) := by decide +kernel
theorem dL_plays_93 : decode cL_plays 93 = .ok (.if_icmp .gt 14, 3) := by decide +kernel
theorem dL_plays_96 : decode cL_plays 96 = .ok (.iload 5, 2) := by decide +kernel
theorem dL_plays_98 : decode cL_plays 98 = .ok (.ldc 68, 2) := by decide +kernel
theorem dL_plays_100 : decode cL_plays 100 = .ok (.if_icmp .ne 7, 3) := by decide +kernel
theorem dL_plays_103 : decode cL_plays 103 = .ok (.iconst 1, 1) := by decide +kernel
theorem dL_plays_104 : decode cL_plays 104 = .ok (.goto 4, 3) := by decide +kernel
theorem dL_plays_107 : decode cL_plays 107 = .ok (.iconst 0, 1) := by decide +kernel
theorem dL_plays_108 : decode cL_plays 108 = .ok (.istore 7, 2) := by decide +kernel
theorem dL_plays_110 : decode cL_plays 110 = .ok (.iload 6, 2) := by decide +kernel
theorem dL_plays_112 : decode cL_plays 112 = .ok (.ifCond .ne 8, 3) := by decide +kernel
theorem dL_plays_115 : decode cL_plays 115 = .ok (.iload 7, 2) := by decide +kernel
theorem dL_plays_117 : decode cL_plays 117 = .ok (.ifCond .eq 17, 3) := by decide +kernel
theorem dL_plays_120 : decode cL_plays 120 = .ok (.aload_n 0, 1) := by decide +kernel
theorem dL_plays_121 : decode cL_plays 121 = .ok (.bipush 9, 2) := by decide +kernel
theorem dL_plays_123 : decode cL_plays 123 = .ok (.invokevirtual 13, 3) := by decide +kernel
theorem dL_plays_126 : decode cL_plays 126 = .ok (.iload_n 3, 1) := by decide +kernel
theorem dL_plays_127 : decode cL_plays 127 = .ok (.if_icmp .ne 7, 3) := by decide +kernel
theorem dL_plays_130 : decode cL_plays 130 = .ok (.iconst 1, 1) := by decide +kernel
theorem dL_plays_131 : decode cL_plays 131 = .ok (.goto 4, 3) := by decide +kernel
theorem dL_plays_134 : decode cL_plays 134 = .ok (.iconst 0, 1) := by decide +kernel
theorem dL_plays_135 : decode cL_plays 135 = .ok (.ireturn, 1) := by decide +kernel
set_option maxRecDepth 20000 in
theorem ggL_acts_L_low : GoodIn wsL_acts wsL_low := goodIn_r _ [8, 9] (by decide +kernel) (by decide +kernel)
set_option maxRecDepth 20000 in
theorem gL_acts_L_low : GoodIn wsL_acts (va_wsS RL 52 yL_low wsL_low) := goodIn_app (goodIn_of _ (by decide +kernel)) ggL_acts_L_low
set_option maxRecDepth 20000 in
theorem ggL_acts_X3_count : GoodIn wsL_acts wsX3_count := goodIn_r _ [14, 15, 16, 17, 18, 19, 20, 21, 22, 23, 24, 25, 13, 26, 27, 28, 29, 30, 257, 258, 259, 260, 261, 262, 263, 264, 265, 266, 267, 268, 269, 270, 271, 272, 273, 274, 275, 276] (by decide +kernel) (by decide +kernel)
set_option maxRecDepth 20000 in
theorem gL_acts_X3_count : GoodIn wsL_acts (wsV RL 13 RX3 yX3_count wsX3_count) := goodIn_app (goodIn_of _ (by decide +kernel)) ggL_acts_X3_count
set_option maxRecDepth 20000 in
theorem ggL_acts_X3_tell : GoodIn wsL_acts wsX3_tell := goodIn_r _ [34, 18, 16, 15, 35, 36, 37, 38, 39, 40, 41, 42, 43, 44, 45, 20, 46, 47, 30, 48, 24, 49, 50, 51, 52, 53, 23, 54, 55, 56, 57, 58, 13, 59, 60, 61, 62, 63, 64, 65, 66, 67, 68, 69, 70, 71, 72, 73, 74, 75, 76, 77, 78, 79, 80, 81, 82, 83, 25, 26, 84, 85, 86, 87, 88, 89, 90, 91, 92, 93, 94, 95, 96, 97, 98, 99, 100, 101, 102, 103, 104, 105, 106, 107, 108, 109, 110, 111, 112, 113, 114, 115, 116, 117, 118, 119, 120, 121, 257, 258, 259, 273, 274, 260, 261, 262, 263, 264, 265, 266, 267, 268, 269, 270, 271, 272] (by decide +kernel) (by decide +kernel)
set_option maxRecDepth 20000 in
theorem gL_acts_X3_tell : GoodIn wsL_acts (wsV RL 69 RX3 yX3_tell wsX3_tell) := goodIn_app (goodIn_of _ (by decide +kernel)) ggL_acts_X3_tell
set_option maxRecDepth 20000 in
theorem ggL_acts_X3_share : GoodIn wsL_acts wsX3_share := goodIn_r _ [125, 18, 126, 99, 13, 100, 101, 102, 103, 104, 105, 127, 128, 129, 130, 131, 132, 133, 134, 135, 136, 137] (by decide +kernel) (by decide +kernel)
set_option maxRecDepth 20000 in
theorem gL_acts_X3_share : GoodIn wsL_acts (wsV RL 73 RX3 yX3_share wsX3_share) := goodIn_app (goodIn_of _ (by decide +kernel)) ggL_acts_X3_share
set_option maxRecDepth 20000 in
theorem ggL_acts_X3_rank : GoodIn wsL_acts wsX3_rank := goodIn_r _ [141, 18, 16, 15, 35, 36, 37, 38, 39, 40, 41, 42, 43, 44, 45, 20, 46, 47, 30, 48, 24, 49, 50, 51, 52, 53, 23, 54, 55, 56, 57, 58, 13, 59, 60, 61, 62, 63, 64, 65, 66, 67, 68, 69, 142, 143, 144, 145, 27, 28, 29, 25, 26, 90, 91, 108, 109, 110, 111, 112, 113, 114, 115, 116, 117, 118, 119, 120, 121, 257, 258, 259, 273, 274, 260, 261, 262, 263, 264, 265, 266, 267, 268, 269, 270, 271, 272] (by decide +kernel) (by decide +kernel)
set_option maxRecDepth 20000 in
theorem gL_acts_X3_rank : GoodIn wsL_acts (wsV RL 77 RX3 yX3_rank wsX3_rank) := goodIn_app (goodIn_of _ (by decide +kernel)) ggL_acts_X3_rank
set_option maxRecDepth 20000 in
theorem ggL_acts_X3_set : GoodIn wsL_acts wsX3_set := goodIn_r _ [149, 18, 16, 15, 35, 36, 37, 38, 39, 40, 41, 42, 43, 44, 45, 20, 46, 47, 30, 48, 24, 49, 50, 51, 52, 53, 23, 54, 55, 56, 57, 58, 13, 59, 60, 61, 62, 63, 64, 65, 66, 67, 68, 69, 108, 109, 110, 111, 112, 113, 114, 115, 116, 117, 118, 119, 120, 121, 257, 258, 259, 260, 261, 262, 263, 264, 265, 266, 267, 268, 269, 270, 271, 272, 273, 274] (by decide +kernel) (by decide +kernel)
set_option maxRecDepth 20000 in
theorem gL_acts_X3_set : GoodIn wsL_acts (wsV RL 80 RX3 yX3_set wsX3_set) := goodIn_app (goodIn_of _ (by decide +kernel)) ggL_acts_X3_set
set_option maxRecDepth 20000 in
theorem ggL_acts_X3_empty : GoodIn wsL_acts wsX3_empty := goodIn_r _ [153, 16, 15, 35, 36, 37, 38, 39, 40, 41, 42, 43, 44, 45, 20, 46, 47, 30, 48, 24, 49, 50, 51, 52, 53, 23, 54, 55, 56, 57, 58, 13, 59, 60, 61, 62, 63, 64, 65, 66, 67, 68, 69, 108, 109, 110, 111, 18, 112, 113, 114, 115, 116, 117, 118, 119, 120, 121, 257, 258, 259, 260, 261, 262, 263, 264, 265, 266, 267, 268, 269, 270, 271, 272, 273, 274] (by decide +kernel) (by decide +kernel)
set_option maxRecDepth 20000 in
theorem gL_acts_X3_empty : GoodIn wsL_acts (wsV RL 83 RX3 yX3_empty wsX3_empty) := goodIn_app (goodIn_of _ (by decide +kernel)) ggL_acts_X3_empty
set_option maxRecDepth 20000 in
theorem ggL_acts_X3_step : GoodIn wsL_acts wsX3_step := goodIn_r _ [157, 16, 15, 35, 36, 37, 38, 39, 40, 41, 42, 43, 44, 45, 20, 46, 47, 30, 48, 24, 49, 50, 51, 52, 53, 23, 54, 55, 56, 57, 58, 13, 59, 60, 61, 62, 63, 64, 65, 66, 67, 68, 69, 158, 159, 160, 161, 73, 162, 163, 164, 165, 25, 26, 166, 167, 168, 169, 170, 171, 172, 173, 174, 175, 176, 90, 91, 177, 178, 179, 180, 181, 182, 183, 184, 80, 81, 82, 83, 185, 70, 71, 72, 74, 75, 76, 77, 78, 79, 84, 85, 86, 87, 88, 89, 92, 93, 94, 95, 96, 97, 98, 99, 100, 101, 102, 103, 104, 105, 106, 107, 108, 109, 110, 111, 18, 112, 113, 114, 115, 116, 117, 118, 119, 120, 121, 257, 258, 259, 273, 274, 260, 261, 262, 263, 264, 265, 266, 267, 268, 269, 270, 271, 272] (by decide +kernel) (by decide +kernel)
set_option maxRecDepth 20000 in
theorem gL_acts_X3_step : GoodIn wsL_acts (wsV RL 86 RX3 yX3_step wsX3_step) := goodIn_app (goodIn_of _ (by decide +kernel)) ggL_acts_X3_step
set_option maxRecDepth 20000 in
theorem ggL_acts_X3_refutation : GoodIn wsL_acts wsX3_refutation := goodIn_r _ [189, 15, 163, 20, 164, 165, 23, 48, 25, 13, 26, 190, 191, 192, 193, 257, 258, 259, 260, 261, 262, 263, 264, 265, 266, 267, 268, 269, 270, 271, 272] (by decide +kernel) (by decide +kernel)
set_option maxRecDepth 20000 in
theorem gL_acts_X3_refutation : GoodIn wsL_acts (wsV RL 39 RX3 yX3_refutation wsX3_refutation) := goodIn_app (goodIn_of _ (by decide +kernel)) ggL_acts_X3_refutation
set_option maxRecDepth 20000 in
theorem ggL_acts_X3_clauseOf : GoodIn wsL_acts wsX3_clauseOf := goodIn_r _ [197, 15, 18, 198, 20, 199, 200, 23, 201, 25, 13, 26, 182, 183, 184, 30, 190, 191, 192, 193, 202, 171, 172, 173, 174, 175, 176, 203, 204, 205, 48, 80, 81, 82, 83, 24, 206, 207, 208, 209, 181, 210, 211, 257, 258, 259, 260, 261, 262, 263, 264, 265, 266, 267, 268, 269, 270, 271, 272] (by decide +kernel) (by decide +kernel)
set_option maxRecDepth 20000 in
theorem gL_acts_X3_clauseOf : GoodIn wsL_acts (wsV RL 19 RX3 yX3_clauseOf wsX3_clauseOf) := goodIn_app (goodIn_of _ (by decide +kernel)) ggL_acts_X3_clauseOf
set_option maxRecDepth 20000 in
theorem ggL_acts_X3_run : GoodIn wsL_acts wsX3_run := goodIn_r _ [215, 18, 16, 15, 216, 217, 35, 36, 37, 38, 39, 40, 41, 42, 43, 44, 45, 20, 46, 47, 30, 48, 24, 49, 50, 51, 52, 53, 23, 54, 55, 56, 57, 58, 13, 59, 60, 61, 62, 63, 64, 65, 66, 67, 68, 69, 158, 159, 160, 161, 73, 162, 163, 164, 165, 25, 26, 166, 167, 168, 169, 170, 171, 172, 173, 174, 175, 176, 90, 91, 177, 178, 179, 180, 181, 182, 183, 184, 80, 81, 82, 83, 185, 70, 71, 72, 74, 75, 76, 77, 78, 79, 84, 85, 86, 87, 88, 89, 92, 93, 94, 95, 96, 97, 98, 99, 100, 101, 102, 103, 104, 105, 106, 107, 108, 109, 110, 111, 112, 113, 114, 115, 116, 117, 118, 119, 120, 121, 257, 258, 259, 273, 274, 260, 261, 262, 263, 264, 265, 266, 267, 268, 269, 270, 271, 272] (by decide +kernel) (by decide +kernel)
set_option maxRecDepth 20000 in
theorem gL_acts_X3_run : GoodIn wsL_acts (wsV RL 89 RX3 yX3_run wsX3_run) := goodIn_app (goodIn_of _ (by decide +kernel)) ggL_acts_X3_run
set_option maxRecDepth 20000 in
theorem ggL_acts_L_types : GoodIn wsL_acts wsL_types := goodIn_r _ [220, 5, 6, 7, 8, 9, 221, 222, 223, 13, 224, 17, 225, 226, 227, 228, 18, 216, 229, 230, 231, 232, 233, 234, 90, 91, 257, 258, 259, 275, 276] (by decide +kernel) (by decide +kernel)
set_option maxRecDepth 20000 in
theorem gL_acts_L_types : GoodIn wsL_acts (va_wsS RL 92 yL_types wsL_types) := goodIn_app (goodIn_of _ (by decide +kernel)) ggL_acts_L_types
set_option maxRecDepth 20000 in
theorem ggL_acts_L_plays : GoodIn wsL_acts wsL_plays := goodIn_r _ [237, 238, 3, 4, 239, 240, 241, 13, 242, 18, 17, 193, 243, 230, 244, 245, 233, 234, 25, 26, 246, 247, 248, 10, 11, 12, 14, 15, 16, 19, 20, 21, 22, 23, 24, 27, 28, 29, 30, 249, 250, 251, 252, 217, 35, 36, 37, 38, 39, 40, 41, 42, 43, 44, 45, 46, 47, 48, 49, 50, 51, 52, 53, 54, 55, 56, 57, 58, 59, 60, 61, 62, 63, 64, 65, 66, 67, 68, 69, 253, 254, 255, 256, 216, 201, 70, 71, 72, 73, 74, 75, 76, 77, 78, 79, 80, 81, 82, 83, 84, 85, 86, 87, 88, 89, 90, 91, 92, 93, 94, 95, 96, 97, 98, 99, 100, 101, 102, 103, 104, 105, 106, 107, 108, 109, 110, 111, 112, 113, 114, 115, 116, 117, 118, 119, 120, 121, 257, 258, 259, 275, 276, 260, 261, 262, 263, 264, 265, 266, 267, 268, 269, 270, 271, 272, 273, 274] (by decide +kernel) (by decide +kernel)
set_option maxRecDepth 20000 in
theorem gL_acts_L_plays : GoodIn wsL_acts (va_wsS RL 96 yL_plays wsL_plays) := goodIn_app (goodIn_of _ (by decide +kernel)) ggL_acts_L_plays
theorem dL_acts_0 : decode cL_acts 0 = .ok (.iload_n 1, 1) := by decide +kernel
theorem dL_acts_1 : decode cL_acts 1 = .ok (.bipush 16, 2) := by decide +kernel
theorem dL_acts_3 : decode cL_acts 3 = .ok (.invokestatic 52, 3) := by decide +kernel
theorem dL_acts_6 : decode cL_acts 6 = .ok (.istore_n 3, 1) := by decide +kernel
theorem dL_acts_7 : decode cL_acts 7 = .ok (.aload_n 0, 1) := by decide +kernel
theorem dL_acts_8 : decode cL_acts 8 = .ok (.iconst 0, 1) := by decide +kernel
theorem dL_acts_9 : decode cL_acts 9 = .ok (.invokevirtual 13, 3) := by decide +kernel
theorem dL_acts_12 : decode cL_acts 12 = .ok (.istore 4, 2) := by decide +kernel
theorem dL_acts_14 : decode cL_acts 14 = .ok (.iload_n 3, 1) := by decide +kernel
theorem dL_acts_15 : decode cL_acts 15 = .ok (.bipush 6, 2) := by decide +kernel
theorem dL_acts_17 : decode cL_acts 17 = .ok (.if_icmp .ge 150, 3) := by decide +kernel
theorem dL_acts_20 : decode cL_acts 20 = .ok (.iconst 1, 1) := by decide +kernel
theorem dL_acts_21 : decode cL_acts 21 = .ok (.iload_n 2, 1) := by decide +kernel
theorem dL_acts_22 : decode cL_acts 22 = .ok (.bipush 8, 2) := by decide +kernel
theorem dL_acts_24 : decode cL_acts 24 = .ok (.invokestatic 52, 3) := by decide +kernel
theorem dL_acts_27 : decode cL_acts 27 = .ok (.ishl, 1) := by decide +kernel
theorem dL_acts_28 : decode cL_acts 28 = .ok (.iconst 1, 1) := by decide +kernel
theorem dL_acts_29 : decode cL_acts 29 = .ok (.iload_n 2, 1) := by decide +kernel
theorem dL_acts_30 : decode cL_acts 30 = .ok (.iconst 3, 1) := by decide +kernel
theorem dL_acts_31 : decode cL_acts 31 = .ok (.ishr, 1) := by decide +kernel
theorem dL_acts_32 : decode cL_acts 32 = .ok (.bipush 10, 2) := by decide +kernel
theorem dL_acts_34 : decode cL_acts 34 = .ok (.invokestatic 52, 3) := by decide +kernel
theorem dL_acts_37 : decode cL_acts 37 = .ok (.ishl, 1) := by decide +kernel
theorem dL_acts_38 : decode cL_acts 38 = .ok (.ior, 1) := by decide +kernel
theorem dL_acts_39 : decode cL_acts 39 = .ok (.iconst 1, 1) := by decide +kernel
theorem dL_acts_40 : decode cL_acts 40 = .ok (.iload_n 2, 1) := by decide +kernel
theorem dL_acts_41 : decode cL_acts 41 = .ok (.bipush 7, 2) := by decide +kernel
theorem dL_acts_43 : decode cL_acts 43 = .ok (.ishr, 1) := by decide +kernel
theorem dL_acts_44 : decode cL_acts 44 = .ok (.bipush 13, 2) := by decide +kernel
theorem dL_acts_46 : decode cL_acts 46 = .ok (.invokestatic 52, 3) := by decide +kernel
theorem dL_acts_49 : decode cL_acts 49 = .ok (.ishl, 1) := by decide +kernel
theorem dL_acts_50 : decode cL_acts 50 = .ok (.ior, 1) := by decide +kernel
theorem dL_acts_51 : decode cL_acts 51 = .ok (.istore 5, 2) := by decide +kernel
theorem dL_acts_53 : decode cL_acts 53 = .ok (.aload_n 0, 1) := by decide +kernel
theorem dL_acts_54 : decode cL_acts 54 = .ok (.iload 5, 2) := by decide +kernel
theorem dL_acts_56 : decode cL_acts 56 = .ok (.invokevirtual 69, 3) := by decide +kernel
theorem dL_acts_59 : decode cL_acts 59 = .ok (.istore 6, 2) := by decide +kernel
theorem dL_acts_61 : decode cL_acts 61 = .ok (.iload 5, 2) := by decide +kernel
theorem dL_acts_63 : decode cL_acts 63 = .ok (.sipush 4095, 3) := by decide +kernel
theorem dL_acts_66 : decode cL_acts 66 = .ok (.if_icmp .le 18, 3) := by decide +kernel
theorem dL_acts_69 : decode cL_acts 69 = .ok (.iload 6, 2) := by decide +kernel
theorem dL_acts_71 : decode cL_acts 71 = .ok (.ldc 72, 2) := by decide +kernel
theorem dL_acts_73 : decode cL_acts 73 = .ok (.if_icmp .ne 7, 3) := by decide +kernel
theorem dL_acts_76 : decode cL_acts 76 = .ok (.iconst 1, 1) := by decide +kernel
theorem dL_acts_77 : decode cL_acts 77 = .ok (.goto 89, 3) := by decide +kernel
theorem dL_acts_80 : decode cL_acts 80 = .ok (.iconst 0, 1) := by decide +kernel
theorem dL_acts_81 : decode cL_acts 81 = .ok (.goto 85, 3) := by decide +kernel
theorem dL_acts_84 : decode cL_acts 84 = .ok (.iload 6, 2) := by decide +kernel
theorem dL_acts_86 : decode cL_acts 86 = .ok (.iload 4, 2) := by decide +kernel
theorem dL_acts_88 : decode cL_acts 88 = .ok (.if_icmp .ne 15, 3) := by decide +kernel
theorem dL_acts_91 : decode cL_acts 91 = .ok (.aload_n 0, 1) := by decide +kernel
theorem dL_acts_92 : decode cL_acts 92 = .ok (.iconst 0, 1) := by decide +kernel
theorem dL_acts_93 : decode cL_acts 93 = .ok (.invokevirtual 13, 3) := by decide +kernel
theorem dL_acts_96 : decode cL_acts 96 = .ok (.iload 4, 2) := by decide +kernel
theorem dL_acts_98 : decode cL_acts 98 = .ok (.iconst 1, 1) := by decide +kernel
theorem dL_acts_99 : decode cL_acts 99 = .ok (.iadd, 1) := by decide +kernel
end
section
theorem dL_acts_100 : decode cL_acts 100 = .ok (.if_icmp .eq 61, 3) := by decide +kernel
theorem dL_acts_103 : decode cL_acts 103 = .ok (.iload 6, 2) := by decide +kernel
theorem dL_acts_105 : decode cL_acts 105 = .ok (.iconst (-1), 1) := by decide +kernel
theorem dL_acts_106 : decode cL_acts 106 = .ok (.if_icmp .ne 24, 3) := by decide +kernel
theorem dL_acts_109 : decode cL_acts 109 = .ok (.aload_n 0, 1) := by decide +kernel
theorem dL_acts_110 : decode cL_acts 110 = .ok (.iload 5, 2) := by decide +kernel
theorem dL_acts_112 : decode cL_acts 112 = .ok (.invokevirtual 73, 3) := by decide +kernel
theorem dL_acts_115 : decode cL_acts 115 = .ok (.ldc 76, 2) := by decide +kernel
theorem dL_acts_117 : decode cL_acts 117 = .ok (.if_icmp .ne 13, 3) := by decide +kernel
theorem dL_acts_120 : decode cL_acts 120 = .ok (.aload_n 0, 1) := by decide +kernel
theorem dL_acts_121 : decode cL_acts 121 = .ok (.iconst 0, 1) := by decide +kernel
theorem dL_acts_122 : decode cL_acts 122 = .ok (.invokevirtual 13, 3) := by decide +kernel
theorem dL_acts_125 : decode cL_acts 125 = .ok (.iload 4, 2) := by decide +kernel
theorem dL_acts_127 : decode cL_acts 127 = .ok (.if_icmp .eq 34, 3) := by decide +kernel
theorem dL_acts_130 : decode cL_acts 130 = .ok (.iload 6, 2) := by decide +kernel
theorem dL_acts_132 : decode cL_acts 132 = .ok (.bipush (-2), 2) := by decide +kernel
theorem dL_acts_134 : decode cL_acts 134 = .ok (.if_icmp .ne 13, 3) := by decide +kernel
theorem dL_acts_137 : decode cL_acts 137 = .ok (.aload_n 0, 1) := by decide +kernel
theorem dL_acts_138 : decode cL_acts 138 = .ok (.iconst 0, 1) := by decide +kernel
theorem dL_acts_139 : decode cL_acts 139 = .ok (.invokevirtual 13, 3) := by decide +kernel
theorem dL_acts_142 : decode cL_acts 142 = .ok (.iload 4, 2) := by decide +kernel
theorem dL_acts_144 : decode cL_acts 144 = .ok (.if_icmp .eq 17, 3) := by decide +kernel
theorem dL_acts_147 : decode cL_acts 147 = .ok (.iload 6, 2) := by decide +kernel
theorem dL_acts_149 : decode cL_acts 149 = .ok (.ldc 67, 2) := by decide +kernel
theorem dL_acts_151 : decode cL_acts 151 = .ok (.if_icmp .ne 14, 3) := by decide +kernel
theorem dL_acts_154 : decode cL_acts 154 = .ok (.iload 4, 2) := by decide +kernel
theorem dL_acts_156 : decode cL_acts 156 = .ok (.bipush 40, 2) := by decide +kernel
theorem dL_acts_158 : decode cL_acts 158 = .ok (.if_icmp .ne 7, 3) := by decide +kernel
theorem dL_acts_161 : decode cL_acts 161 = .ok (.iconst 1, 1) := by decide +kernel
theorem dL_acts_162 : decode cL_acts 162 = .ok (.goto 4, 3) := by decide +kernel
theorem dL_acts_165 : decode cL_acts 165 = .ok (.iconst 0, 1) := by decide +kernel
theorem dL_acts_166 : decode cL_acts 166 = .ok (.ireturn, 1) := by decide +kernel
theorem dL_acts_167 : decode cL_acts 167 = .ok (.iload_n 3, 1) := by decide +kernel
theorem dL_acts_168 : decode cL_acts 168 = .ok (.bipush 6, 2) := by decide +kernel
theorem dL_acts_170 : decode cL_acts 170 = .ok (.if_icmp .ne 81, 3) := by decide +kernel
theorem dL_acts_173 : decode cL_acts 173 = .ok (.iload_n 2, 1) := by decide +kernel
theorem dL_acts_174 : decode cL_acts 174 = .ok (.bipush 7, 2) := by decide +kernel
theorem dL_acts_176 : decode cL_acts 176 = .ok (.invokestatic 52, 3) := by decide +kernel
theorem dL_acts_179 : decode cL_acts 179 = .ok (.istore 5, 2) := by decide +kernel
theorem dL_acts_181 : decode cL_acts 181 = .ok (.iload_n 2, 1) := by decide +kernel
theorem dL_acts_182 : decode cL_acts 182 = .ok (.iconst 3, 1) := by decide +kernel
theorem dL_acts_183 : decode cL_acts 183 = .ok (.ishr, 1) := by decide +kernel
theorem dL_acts_184 : decode cL_acts 184 = .ok (.bipush 7, 2) := by decide +kernel
theorem dL_acts_186 : decode cL_acts 186 = .ok (.invokestatic 52, 3) := by decide +kernel
theorem dL_acts_189 : decode cL_acts 189 = .ok (.istore 6, 2) := by decide +kernel
theorem dL_acts_191 : decode cL_acts 191 = .ok (.aload_n 0, 1) := by decide +kernel
theorem dL_acts_192 : decode cL_acts 192 = .ok (.bipush 10, 2) := by decide +kernel
theorem dL_acts_194 : decode cL_acts 194 = .ok (.iload 5, 2) := by decide +kernel
theorem dL_acts_196 : decode cL_acts 196 = .ok (.bipush 6, 2) := by decide +kernel
theorem dL_acts_198 : decode cL_acts 198 = .ok (.if_icmp .ne 7, 3) := by decide +kernel
theorem dL_acts_201 : decode cL_acts 201 = .ok (.iconst 0, 1) := by decide +kernel
theorem dL_acts_202 : decode cL_acts 202 = .ok (.goto 5, 3) := by decide +kernel
theorem dL_acts_205 : decode cL_acts 205 = .ok (.iload 5, 2) := by decide +kernel
theorem dL_acts_207 : decode cL_acts 207 = .ok (.iadd, 1) := by decide +kernel
theorem dL_acts_208 : decode cL_acts 208 = .ok (.invokevirtual 13, 3) := by decide +kernel
theorem dL_acts_211 : decode cL_acts 211 = .ok (.istore 7, 2) := by decide +kernel
theorem dL_acts_213 : decode cL_acts 213 = .ok (.aload_n 0, 1) := by decide +kernel
theorem dL_acts_214 : decode cL_acts 214 = .ok (.iload 5, 2) := by decide +kernel
theorem dL_acts_216 : decode cL_acts 216 = .ok (.iload 6, 2) := by decide +kernel
theorem dL_acts_218 : decode cL_acts 218 = .ok (.invokevirtual 77, 3) := by decide +kernel
theorem dL_acts_221 : decode cL_acts 221 = .ok (.iload 5, 2) := by decide +kernel
theorem dL_acts_223 : decode cL_acts 223 = .ok (.bipush 6, 2) := by decide +kernel
theorem dL_acts_225 : decode cL_acts 225 = .ok (.if_icmp .eq 10, 3) := by decide +kernel
theorem dL_acts_228 : decode cL_acts 228 = .ok (.iload 6, 2) := by decide +kernel
theorem dL_acts_230 : decode cL_acts 230 = .ok (.bipush 6, 2) := by decide +kernel
theorem dL_acts_232 : decode cL_acts 232 = .ok (.if_icmp .ne 8, 3) := by decide +kernel
theorem dL_acts_235 : decode cL_acts 235 = .ok (.ldc 72, 2) := by decide +kernel
theorem dL_acts_237 : decode cL_acts 237 = .ok (.goto 5, 3) := by decide +kernel
theorem dL_acts_240 : decode cL_acts 240 = .ok (.iload 7, 2) := by decide +kernel
theorem dL_acts_242 : decode cL_acts 242 = .ok (.if_icmp .ne 7, 3) := by decide +kernel
theorem dL_acts_245 : decode cL_acts 245 = .ok (.iconst 1, 1) := by decide +kernel
theorem dL_acts_246 : decode cL_acts 246 = .ok (.goto 4, 3) := by decide +kernel
theorem dL_acts_249 : decode cL_acts 249 = .ok (.iconst 0, 1) := by decide +kernel
theorem dL_acts_250 : decode cL_acts 250 = .ok (.ireturn, 1) := by decide +kernel
theorem dL_acts_251 : decode cL_acts 251 = .ok (.iload_n 3, 1) := by decide +kernel
theorem dL_acts_252 : decode cL_acts 252 = .ok (.bipush 7, 2) := by decide +kernel
theorem dL_acts_254 : decode cL_acts 254 = .ok (.if_icmp .ne 52, 3) := by decide +kernel
theorem dL_acts_257 : decode cL_acts 257 = .ok (.iload_n 2, 1) := by decide +kernel
theorem dL_acts_258 : decode cL_acts 258 = .ok (.bipush 11, 2) := by decide +kernel
theorem dL_acts_260 : decode cL_acts 260 = .ok (.invokestatic 52, 3) := by decide +kernel
theorem dL_acts_263 : decode cL_acts 263 = .ok (.istore 5, 2) := by decide +kernel
theorem dL_acts_265 : decode cL_acts 265 = .ok (.aload_n 0, 1) := by decide +kernel
theorem dL_acts_266 : decode cL_acts 266 = .ok (.iconst 5, 1) := by decide +kernel
theorem dL_acts_267 : decode cL_acts 267 = .ok (.invokevirtual 13, 3) := by decide +kernel
theorem dL_acts_270 : decode cL_acts 270 = .ok (.istore 6, 2) := by decide +kernel
theorem dL_acts_272 : decode cL_acts 272 = .ok (.aload_n 0, 1) := by decide +kernel
theorem dL_acts_273 : decode cL_acts 273 = .ok (.iload 5, 2) := by decide +kernel
theorem dL_acts_275 : decode cL_acts 275 = .ok (.invokevirtual 80, 3) := by decide +kernel
theorem dL_acts_278 : decode cL_acts 278 = .ok (.iload 5, 2) := by decide +kernel
theorem dL_acts_280 : decode cL_acts 280 = .ok (.ifCond .eq 10, 3) := by decide +kernel
theorem dL_acts_283 : decode cL_acts 283 = .ok (.iload 5, 2) := by decide +kernel
theorem dL_acts_285 : decode cL_acts 285 = .ok (.bipush 10, 2) := by decide +kernel
theorem dL_acts_287 : decode cL_acts 287 = .ok (.if_icmp .ne 8, 3) := by decide +kernel
theorem dL_acts_290 : decode cL_acts 290 = .ok (.ldc 72, 2) := by decide +kernel
theorem dL_acts_292 : decode cL_acts 292 = .ok (.goto 5, 3) := by decide +kernel
theorem dL_acts_295 : decode cL_acts 295 = .ok (.iload 6, 2) := by decide +kernel
theorem dL_acts_297 : decode cL_acts 297 = .ok (.if_icmp .ne 7, 3) := by decide +kernel
theorem dL_acts_300 : decode cL_acts 300 = .ok (.iconst 1, 1) := by decide +kernel
theorem dL_acts_301 : decode cL_acts 301 = .ok (.goto 4, 3) := by decide +kernel
theorem dL_acts_304 : decode cL_acts 304 = .ok (.iconst 0, 1) := by decide +kernel
theorem dL_acts_305 : decode cL_acts 305 = .ok (.ireturn, 1) := by decide +kernel
theorem dL_acts_306 : decode cL_acts 306 = .ok (.iload_n 3, 1) := by decide +kernel
theorem dL_acts_307 : decode cL_acts 307 = .ok (.bipush 8, 2) := by decide +kernel
theorem dL_acts_309 : decode cL_acts 309 = .ok (.if_icmp .ne 42, 3) := by decide +kernel
theorem dL_acts_312 : decode cL_acts 312 = .ok (.iload_n 2, 1) := by decide +kernel
theorem dL_acts_313 : decode cL_acts 313 = .ok (.iconst 3, 1) := by decide +kernel
theorem dL_acts_314 : decode cL_acts 314 = .ok (.invokestatic 52, 3) := by decide +kernel
theorem dL_acts_317 : decode cL_acts 317 = .ok (.ifCond .ne 34, 3) := by decide +kernel
theorem dL_acts_320 : decode cL_acts 320 = .ok (.aload_n 0, 1) := by decide +kernel
theorem dL_acts_321 : decode cL_acts 321 = .ok (.invokevirtual 83, 3) := by decide +kernel
theorem dL_acts_324 : decode cL_acts 324 = .ok (.iload 4, 2) := by decide +kernel
theorem dL_acts_326 : decode cL_acts 326 = .ok (.if_icmp .ne 23, 3) := by decide +kernel
theorem dL_acts_329 : decode cL_acts 329 = .ok (.aload_n 0, 1) := by decide +kernel
theorem dL_acts_330 : decode cL_acts 330 = .ok (.iconst 0, 1) := by decide +kernel
theorem dL_acts_331 : decode cL_acts 331 = .ok (.invokevirtual 13, 3) := by decide +kernel
theorem dL_acts_334 : decode cL_acts 334 = .ok (.ifCond .ne 15, 3) := by decide +kernel
theorem dL_acts_337 : decode cL_acts 337 = .ok (.aload_n 0, 1) := by decide +kernel
theorem dL_acts_338 : decode cL_acts 338 = .ok (.iconst 4, 1) := by decide +kernel
theorem dL_acts_339 : decode cL_acts 339 = .ok (.invokevirtual 13, 3) := by decide +kernel
theorem dL_acts_342 : decode cL_acts 342 = .ok (.ifCond .ne 7, 3) := by decide +kernel
theorem dL_acts_345 : decode cL_acts 345 = .ok (.iconst 1, 1) := by decide +kernel
theorem dL_acts_346 : decode cL_acts 346 = .ok (.goto 4, 3) := by decide +kernel
theorem dL_acts_349 : decode cL_acts 349 = .ok (.iconst 0, 1) := by decide +kernel
theorem dL_acts_350 : decode cL_acts 350 = .ok (.ireturn, 1) := by decide +kernel
theorem dL_acts_351 : decode cL_acts 351 = .ok (.aload_n 0, 1) := by decide +kernel
theorem dL_acts_352 : decode cL_acts 352 = .ok (.iconst 4, 1) := by decide +kernel
theorem dL_acts_353 : decode cL_acts 353 = .ok (.invokevirtual 13, 3) := by decide +kernel
theorem dL_acts_356 : decode cL_acts 356 = .ok (.istore 5, 2) := by decide +kernel
theorem dL_acts_358 : decode cL_acts 358 = .ok (.iload_n 3, 1) := by decide +kernel
theorem dL_acts_359 : decode cL_acts 359 = .ok (.bipush 12, 2) := by decide +kernel
theorem dL_acts_361 : decode cL_acts 361 = .ok (.if_icmp .ge 79, 3) := by decide +kernel
theorem dL_acts_364 : decode cL_acts 364 = .ok (.aload_n 0, 1) := by decide +kernel
theorem dL_acts_365 : decode cL_acts 365 = .ok (.invokevirtual 86, 3) := by decide +kernel
theorem dL_acts_368 : decode cL_acts 368 = .ok (.istore 6, 2) := by decide +kernel
theorem dL_acts_370 : decode cL_acts 370 = .ok (.iload 6, 2) := by decide +kernel
theorem dL_acts_372 : decode cL_acts 372 = .ok (.ifCond .ge 40, 3) := by decide +kernel
theorem dL_acts_375 : decode cL_acts 375 = .ok (.iload 6, 2) := by decide +kernel
theorem dL_acts_377 : decode cL_acts 377 = .ok (.ldc 67, 2) := by decide +kernel
theorem dL_acts_379 : decode cL_acts 379 = .ok (.if_icmp .eq 25, 3) := by decide +kernel
theorem dL_acts_382 : decode cL_acts 382 = .ok (.iload 6, 2) := by decide +kernel
theorem dL_acts_384 : decode cL_acts 384 = .ok (.ldc 68, 2) := by decide +kernel
theorem dL_acts_386 : decode cL_acts 386 = .ok (.if_icmp .ne 22, 3) := by decide +kernel
theorem dL_acts_389 : decode cL_acts 389 = .ok (.aload_n 0, 1) := by decide +kernel
theorem dL_acts_390 : decode cL_acts 390 = .ok (.iconst 1, 1) := by decide +kernel
theorem dL_acts_391 : decode cL_acts 391 = .ok (.invokevirtual 13, 3) := by decide +kernel
theorem dL_acts_394 : decode cL_acts 394 = .ok (.ifCond .eq 10, 3) := by decide +kernel
theorem dL_acts_397 : decode cL_acts 397 = .ok (.aload_n 0, 1) := by decide +kernel
theorem dL_acts_398 : decode cL_acts 398 = .ok (.invokevirtual 39, 3) := by decide +kernel
theorem dL_acts_401 : decode cL_acts 401 = .ok (.ifCond .lt 7, 3) := by decide +kernel
theorem dL_acts_404 : decode cL_acts 404 = .ok (.iconst 1, 1) := by decide +kernel
theorem dL_acts_405 : decode cL_acts 405 = .ok (.goto 34, 3) := by decide +kernel
theorem dL_acts_408 : decode cL_acts 408 = .ok (.iconst 0, 1) := by decide +kernel
theorem dL_acts_409 : decode cL_acts 409 = .ok (.goto 30, 3) := by decide +kernel
theorem dL_acts_412 : decode cL_acts 412 = .ok (.aload_n 0, 1) := by decide +kernel
theorem dL_acts_413 : decode cL_acts 413 = .ok (.iload 6, 2) := by decide +kernel
theorem dL_acts_415 : decode cL_acts 415 = .ok (.iconst 1, 1) := by decide +kernel
theorem dL_acts_416 : decode cL_acts 416 = .ok (.invokevirtual 19, 3) := by decide +kernel
theorem dL_acts_419 : decode cL_acts 419 = .ok (.ifCond .le 19, 3) := by decide +kernel
theorem dL_acts_422 : decode cL_acts 422 = .ok (.aload_n 0, 1) := by decide +kernel
theorem dL_acts_423 : decode cL_acts 423 = .ok (.iconst 4, 1) := by decide +kernel
theorem dL_acts_424 : decode cL_acts 424 = .ok (.invokevirtual 13, 3) := by decide +kernel
theorem dL_acts_427 : decode cL_acts 427 = .ok (.iload 5, 2) := by decide +kernel
theorem dL_acts_429 : decode cL_acts 429 = .ok (.iconst 1, 1) := by decide +kernel
theorem dL_acts_430 : decode cL_acts 430 = .ok (.iadd, 1) := by decide +kernel
theorem dL_acts_431 : decode cL_acts 431 = .ok (.if_icmp .ne 7, 3) := by decide +kernel
theorem dL_acts_434 : decode cL_acts 434 = .ok (.iconst 1, 1) := by decide +kernel
theorem dL_acts_435 : decode cL_acts 435 = .ok (.goto 4, 3) := by decide +kernel
theorem dL_acts_438 : decode cL_acts 438 = .ok (.iconst 0, 1) := by decide +kernel
theorem dL_acts_439 : decode cL_acts 439 = .ok (.ireturn, 1) := by decide +kernel
theorem dL_acts_440 : decode cL_acts 440 = .ok (.iload_n 3, 1) := by decide +kernel
theorem dL_acts_441 : decode cL_acts 441 = .ok (.bipush 12, 2) := by decide +kernel
theorem dL_acts_443 : decode cL_acts 443 = .ok (.if_icmp .ne 113, 3) := by decide +kernel
theorem dL_acts_446 : decode cL_acts 446 = .ok (.iload_n 2, 1) := by decide +kernel
theorem dL_acts_447 : decode cL_acts 447 = .ok (.bipush 13, 2) := by decide +kernel
theorem dL_acts_449 : decode cL_acts 449 = .ok (.invokestatic 52, 3) := by decide +kernel
theorem dL_acts_452 : decode cL_acts 452 = .ok (.iconst 3, 1) := by decide +kernel
theorem dL_acts_453 : decode cL_acts 453 = .ok (.imul, 1) := by decide +kernel
theorem dL_acts_454 : decode cL_acts 454 = .ok (.iload_n 2, 1) := by decide +kernel
theorem dL_acts_455 : decode cL_acts 455 = .ok (.iconst 4, 1) := by decide +kernel
theorem dL_acts_456 : decode cL_acts 456 = .ok (.ishr, 1) := by decide +kernel
theorem dL_acts_457 : decode cL_acts 457 = .ok (.bipush 6, 2) := by decide +kernel
theorem dL_acts_459 : decode cL_acts 459 = .ok (.invokestatic 52, 3) := by decide +kernel
theorem dL_acts_462 : decode cL_acts 462 = .ok (.iadd, 1) := by decide +kernel
theorem dL_acts_463 : decode cL_acts 463 = .ok (.istore 6, 2) := by decide +kernel
theorem dL_acts_465 : decode cL_acts 465 = .ok (.aload_n 0, 1) := by decide +kernel
theorem dL_acts_466 : decode cL_acts 466 = .ok (.iload 6, 2) := by decide +kernel
theorem dL_acts_468 : decode cL_acts 468 = .ok (.invokevirtual 89, 3) := by decide +kernel
theorem dL_acts_471 : decode cL_acts 471 = .ok (.istore 7, 2) := by decide +kernel
theorem dL_acts_473 : decode cL_acts 473 = .ok (.iload 6, 2) := by decide +kernel
theorem dL_acts_475 : decode cL_acts 475 = .ok (.iconst 1, 1) := by decide +kernel
theorem dL_acts_476 : decode cL_acts 476 = .ok (.if_icmp .lt 10, 3) := by decide +kernel
theorem dL_acts_479 : decode cL_acts 479 = .ok (.iload 6, 2) := by decide +kernel
theorem dL_acts_481 : decode cL_acts 481 = .ok (.bipush 40, 2) := by decide +kernel
theorem dL_acts_483 : decode cL_acts 483 = .ok (.if_icmp .le 18, 3) := by decide +kernel
theorem dL_acts_486 : decode cL_acts 486 = .ok (.iload 7, 2) := by decide +kernel
theorem dL_acts_488 : decode cL_acts 488 = .ok (.ldc 72, 2) := by decide +kernel
theorem dL_acts_490 : decode cL_acts 490 = .ok (.if_icmp .ne 7, 3) := by decide +kernel
theorem dL_acts_493 : decode cL_acts 493 = .ok (.iconst 1, 1) := by decide +kernel
theorem dL_acts_494 : decode cL_acts 494 = .ok (.goto 61, 3) := by decide +kernel
theorem dL_acts_497 : decode cL_acts 497 = .ok (.iconst 0, 1) := by decide +kernel
theorem dL_acts_498 : decode cL_acts 498 = .ok (.goto 57, 3) := by decide +kernel
theorem dL_acts_501 : decode cL_acts 501 = .ok (.iload 7, 2) := by decide +kernel
theorem dL_acts_503 : decode cL_acts 503 = .ok (.ldc 67, 2) := by decide +kernel
theorem dL_acts_505 : decode cL_acts 505 = .ok (.if_icmp .eq 45, 3) := by decide +kernel
theorem dL_acts_508 : decode cL_acts 508 = .ok (.iload 7, 2) := by decide +kernel
theorem dL_acts_510 : decode cL_acts 510 = .ok (.iload 6, 2) := by decide +kernel
theorem dL_acts_512 : decode cL_acts 512 = .ok (.if_icmp .gt 42, 3) := by decide +kernel
theorem dL_acts_515 : decode cL_acts 515 = .ok (.aload_n 0, 1) := by decide +kernel
theorem dL_acts_516 : decode cL_acts 516 = .ok (.iconst 4, 1) := by decide +kernel
theorem dL_acts_517 : decode cL_acts 517 = .ok (.invokevirtual 13, 3) := by decide +kernel
theorem dL_acts_520 : decode cL_acts 520 = .ok (.iload 5, 2) := by decide +kernel
theorem dL_acts_522 : decode cL_acts 522 = .ok (.iload 7, 2) := by decide +kernel
theorem dL_acts_524 : decode cL_acts 524 = .ok (.iadd, 1) := by decide +kernel
theorem dL_acts_525 : decode cL_acts 525 = .ok (.if_icmp .ne 29, 3) := by decide +kernel
theorem dL_acts_528 : decode cL_acts 528 = .ok (.iload 7, 2) := by decide +kernel
theorem dL_acts_530 : decode cL_acts 530 = .ok (.iload 6, 2) := by decide +kernel
theorem dL_acts_532 : decode cL_acts 532 = .ok (.if_icmp .eq 18, 3) := by decide +kernel
theorem dL_acts_535 : decode cL_acts 535 = .ok (.aload_n 0, 1) := by decide +kernel
theorem dL_acts_536 : decode cL_acts 536 = .ok (.iconst 1, 1) := by decide +kernel
theorem dL_acts_537 : decode cL_acts 537 = .ok (.invokevirtual 13, 3) := by decide +kernel
theorem dL_acts_540 : decode cL_acts 540 = .ok (.ifCond .eq 10, 3) := by decide +kernel
theorem dL_acts_543 : decode cL_acts 543 = .ok (.aload_n 0, 1) := by decide +kernel
theorem dL_acts_544 : decode cL_acts 544 = .ok (.invokevirtual 39, 3) := by decide +kernel
theorem dL_acts_547 : decode cL_acts 547 = .ok (.ifCond .lt 7, 3) := by decide +kernel
theorem dL_acts_550 : decode cL_acts 550 = .ok (.iconst 1, 1) := by decide +kernel
theorem dL_acts_551 : decode cL_acts 551 = .ok (.goto 4, 3) := by decide +kernel
theorem dL_acts_554 : decode cL_acts 554 = .ok (.iconst 0, 1) := by decide +kernel
theorem dL_acts_555 : decode cL_acts 555 = .ok (.ireturn, 1) := by decide +kernel
theorem dL_acts_556 : decode cL_acts 556 = .ok (.aload_n 0, 1) := by decide +kernel
theorem dL_acts_557 : decode cL_acts 557 = .ok (.iload_n 2, 1) := by decide +kernel
theorem dL_acts_558 : decode cL_acts 558 = .ok (.invokestatic 92, 3) := by decide +kernel
theorem dL_acts_561 : decode cL_acts 561 = .ok (.ifCond .eq 14, 3) := by decide +kernel
theorem dL_acts_564 : decode cL_acts 564 = .ok (.aload_n 0, 1) := by decide +kernel
theorem dL_acts_565 : decode cL_acts 565 = .ok (.invokestatic 96, 3) := by decide +kernel
theorem dL_acts_568 : decode cL_acts 568 = .ok (.ifCond .eq 7, 3) := by decide +kernel
theorem dL_acts_571 : decode cL_acts 571 = .ok (.iconst 1, 1) := by decide +kernel
theorem dL_acts_572 : decode cL_acts 572 = .ok (.goto 4, 3) := by decide +kernel
theorem dL_acts_575 : decode cL_acts 575 = .ok (.iconst 0, 1) := by decide +kernel
theorem dL_acts_576 : decode cL_acts 576 = .ok (.ireturn, 1) := by decide +kernel
set_option maxRecDepth 20000 in
theorem ggL_law_X3_init : GoodIn wsL_law wsX3_init := goodIn_r _ [6, 7, 8, 9, 10, 11, 12, 13, 14, 15, 16, 17, 18, 19, 20, 21, 22, 23, 24, 25, 26, 27, 28, 29, 30, 31, 32, 33, 34, 35, 36, 37, 38, 39, 40, 2, 41, 42, 43, 44, 45, 46, 47, 48, 49, 50, 51, 52, 349, 350, 351, 352, 353, 354, 355, 356, 357, 358, 359, 360, 361, 346, 347, 348, 362, 363, 364, 365] (by decide +kernel) (by decide +kernel)
set_option maxRecDepth 20000 in
theorem gL_law_X3_init : GoodIn wsL_law (wsX3_init) := ggL_law_X3_init
set_option maxRecDepth 20000 in
theorem ggL_law_L_holds : GoodIn wsL_law wsL_holds := goodIn_r _ [56, 57, 58, 59, 60, 61, 2, 62, 13, 17, 21, 63, 64, 12, 65, 66, 35, 28, 67, 68, 69, 70, 71, 26, 72, 73, 74, 75, 76, 77, 78, 79, 80, 81, 82, 83, 84, 85, 86, 87, 88, 89, 90, 91, 92, 93, 94, 95, 96, 27, 97, 98, 99, 100, 101, 102, 103, 104, 105, 106, 107, 108, 109, 110, 111, 112, 113, 114, 115, 116, 117, 118, 119, 29, 120, 121, 122, 123, 124, 125, 34, 126, 127, 128, 129, 130, 131, 132, 133, 134, 135, 136, 137, 138, 139, 140, 141, 142, 143, 144, 145, 146, 147, 30, 148, 149, 150, 151, 152, 153, 154, 155, 156, 157, 158, 159, 160, 161, 162, 163, 164, 165, 166, 167, 346, 347, 348, 349, 350, 351, 352, 353, 354, 355, 356, 357, 358, 359, 360, 361, 362, 363, 364, 365] (by decide +kernel) (by decide +kernel)
set_option maxRecDepth 20000 in
theorem gL_law_L_holds : GoodIn wsL_law (va_wsS RL 101 yL_holds wsL_holds) := goodIn_app (goodIn_of _ (by decide +kernel)) ggL_law_L_holds
set_option maxRecDepth 20000 in
theorem ggL_law_X3_undo : GoodIn wsL_law wsX3_undo := goodIn_r _ [171, 17, 13, 172, 173, 16, 174, 175, 47, 176, 177, 178, 179, 46, 180, 12, 181, 182, 26, 27, 28, 29, 30, 31, 32, 34, 35, 36, 37, 38, 39, 183, 2, 184, 185, 186, 187, 188, 189, 190, 191, 192, 193, 194, 346, 347, 348, 362, 363, 349, 350, 351, 352, 353, 354, 355, 356, 357, 358, 359, 360, 361] (by decide +kernel) (by decide +kernel)
set_option maxRecDepth 20000 in
theorem gL_law_X3_undo : GoodIn wsL_law (wsV RL 104 RX3 yX3_undo wsX3_undo) := goodIn_app (goodIn_of _ (by decide +kernel)) ggL_law_X3_undo
set_option maxRecDepth 20000 in
theorem ggL_law_L_lot : GoodIn wsL_law wsL_lot := goodIn_r _ [197, 198] (by decide +kernel) (by decide +kernel)
set_option maxRecDepth 20000 in
theorem gL_law_L_lot : GoodIn wsL_law (va_wsS RL 107 yL_lot wsL_lot) := goodIn_app (goodIn_of _ (by decide +kernel)) ggL_law_L_lot
set_option maxRecDepth 20000 in
theorem ggL_law_L_digest : GoodIn wsL_law wsL_digest := goodIn_r _ [201, 202, 203, 204, 205, 206, 59, 60, 61, 2, 62, 13, 17, 21, 63, 64, 12, 65, 66, 35, 28, 67, 68, 69, 70, 71, 26, 72, 73, 74, 75, 76, 77, 78, 79, 80, 81, 82, 83, 84, 85, 86, 87, 88, 89, 90, 91, 92, 93, 94, 95, 96, 27, 97, 98, 99, 100, 101, 102, 103, 104, 105, 106, 107, 148, 149, 150, 151, 113, 114, 115, 116, 117, 118, 119, 29, 120, 121, 122, 123, 124, 125, 34, 126, 127, 152, 153, 154, 155, 156, 157, 158, 346, 347, 348, 349, 350, 351, 352, 353, 354, 355, 356, 357, 358, 359, 360, 361, 362, 363, 364, 365] (by decide +kernel) (by decide +kernel)
set_option maxRecDepth 20000 in
theorem gL_law_L_digest : GoodIn wsL_law (va_wsS RL 111 yL_digest wsL_digest) := goodIn_app (goodIn_of _ (by decide +kernel)) ggL_law_L_digest
set_option maxRecDepth 20000 in
theorem ggL_law_X3_count : GoodIn wsL_law wsX3_count := goodIn_r _ [62, 13, 17, 21, 63, 64, 12, 65, 66, 35, 28, 67, 2, 68, 69, 70, 71, 26, 346, 347, 348, 349, 350, 351, 352, 353, 354, 355, 356, 357, 358, 359, 360, 361, 362, 363, 364, 365] (by decide +kernel) (by decide +kernel)
set_option maxRecDepth 20000 in
theorem gL_law_X3_count : GoodIn wsL_law (wsV RL 13 RX3 yX3_count wsX3_count) := goodIn_app (goodIn_of _ (by decide +kernel)) ggL_law_X3_count
set_option maxRecDepth 20000 in
theorem ggL_law_L_acts : GoodIn wsL_law wsL_acts := goodIn_r _ [209, 210, 211, 212, 3, 213, 214, 55, 215, 216, 59, 60, 61, 2, 62, 13, 17, 21, 63, 64, 12, 65, 66, 35, 28, 67, 68, 69, 70, 71, 26, 217, 218, 219, 220, 221, 16, 222, 223, 47, 176, 177, 178, 179, 46, 180, 181, 182, 27, 29, 30, 31, 32, 34, 36, 37, 38, 39, 183, 184, 185, 186, 187, 188, 189, 190, 191, 192, 193, 194, 224, 225, 226, 227, 228, 229, 230, 231, 232, 233, 97, 98, 99, 100, 234, 235, 236, 237, 238, 239, 40, 41, 240, 241, 242, 243, 244, 245, 246, 129, 130, 131, 112, 132, 126, 127, 247, 248, 249, 250, 251, 252, 253, 254, 255, 256, 257, 258, 259, 260, 261, 262, 263, 264, 265, 266, 128, 152, 153, 154, 155, 156, 157, 158, 267, 268, 269, 270, 271, 272, 273, 274, 275, 276, 277, 278, 279, 280, 281, 282, 283, 284, 285, 286, 287, 288, 289, 290, 291, 292, 293, 294, 295, 137, 138, 139, 296, 297, 298, 299, 300, 88, 89, 90, 91, 92, 93, 301, 302, 303, 304, 105, 80, 81, 82, 305, 133, 134, 135, 136, 83, 84, 85, 86, 72, 73, 74, 75, 76, 77, 78, 79, 87, 94, 95, 96, 101, 102, 103, 104, 106, 107, 306, 307, 308, 309, 310, 172, 311, 312, 313, 314, 315, 316, 317, 318, 319, 320, 321, 322, 20, 323, 324, 52, 51, 325, 326, 327, 57, 328, 329, 330, 331, 332, 333, 334, 335, 336, 337, 338, 339, 340, 341, 342, 343, 344, 345, 346, 347, 348, 349, 350, 351, 352, 353, 354, 355, 356, 357, 358, 359, 360, 361, 362, 363, 364, 365] (by decide +kernel) (by decide +kernel)
set_option maxRecDepth 20000 in
theorem gL_law_L_acts : GoodIn wsL_law (va_wsS RL 115 yL_acts wsL_acts) := goodIn_app (goodIn_of _ (by decide +kernel)) ggL_law_L_acts
set_option maxRecDepth 20000 in
theorem ggL_law_L_low : GoodIn wsL_law wsL_low := goodIn_r _ [215, 216] (by decide +kernel) (by decide +kernel)
set_option maxRecDepth 20000 in
theorem gL_law_L_low : GoodIn wsL_law (va_wsS RL 52 yL_low wsL_low) := goodIn_app (goodIn_of _ (by decide +kernel)) ggL_law_L_low
theorem dL_law_0 : decode cL_law 0 = .ok (.new 14, 3) := by decide +kernel
theorem dL_law_3 : decode cL_law 3 = .ok (.dup, 1) := by decide +kernel
theorem dL_law_4 : decode cL_law 4 = .ok (.invokespecial 100, 3) := by decide +kernel
theorem dL_law_7 : decode cL_law 7 = .ok (.astore_n 1, 1) := by decide +kernel
theorem dL_law_8 : decode cL_law 8 = .ok (.aload_n 1, 1) := by decide +kernel
theorem dL_law_9 : decode cL_law 9 = .ok (.invokestatic 101, 3) := by decide +kernel
theorem dL_law_12 : decode cL_law 12 = .ok (.ifCond .eq 16, 3) := by decide +kernel
theorem dL_law_15 : decode cL_law 15 = .ok (.aload_n 1, 1) := by decide +kernel
theorem dL_law_16 : decode cL_law 16 = .ok (.invokevirtual 104, 3) := by decide +kernel
theorem dL_law_19 : decode cL_law 19 = .ok (.ldc 68, 2) := by decide +kernel
theorem dL_law_21 : decode cL_law 21 = .ok (.if_icmp .ne 7, 3) := by decide +kernel
theorem dL_law_24 : decode cL_law 24 = .ok (.iconst 1, 1) := by decide +kernel
theorem dL_law_25 : decode cL_law 25 = .ok (.goto 4, 3) := by decide +kernel
theorem dL_law_28 : decode cL_law 28 = .ok (.iconst 0, 1) := by decide +kernel
theorem dL_law_29 : decode cL_law 29 = .ok (.istore_n 2, 1) := by decide +kernel
theorem dL_law_30 : decode cL_law 30 = .ok (.iconst 0, 1) := by decide +kernel
theorem dL_law_31 : decode cL_law 31 = .ok (.istore_n 3, 1) := by decide +kernel
theorem dL_law_32 : decode cL_law 32 = .ok (.iload_n 3, 1) := by decide +kernel
theorem dL_law_33 : decode cL_law 33 = .ok (.bipush 24, 2) := by decide +kernel
theorem dL_law_35 : decode cL_law 35 = .ok (.if_icmp .ge 238, 3) := by decide +kernel
theorem dL_law_38 : decode cL_law 38 = .ok (.iload_n 2, 1) := by decide +kernel
theorem dL_law_39 : decode cL_law 39 = .ok (.ifCond .eq 234, 3) := by decide +kernel
theorem dL_law_42 : decode cL_law 42 = .ok (.aload_n 0, 1) := by decide +kernel
theorem dL_law_43 : decode cL_law 43 = .ok (.iconst 2, 1) := by decide +kernel
theorem dL_law_44 : decode cL_law 44 = .ok (.iload_n 3, 1) := by decide +kernel
theorem dL_law_45 : decode cL_law 45 = .ok (.imul, 1) := by decide +kernel
theorem dL_law_46 : decode cL_law 46 = .ok (.invokestatic 107, 3) := by decide +kernel
theorem dL_law_49 : decode cL_law 49 = .ok (.istore 4, 2) := by decide +kernel
theorem dL_law_51 : decode cL_law 51 = .ok (.aload_n 0, 1) := by decide +kernel
theorem dL_law_52 : decode cL_law 52 = .ok (.iconst 2, 1) := by decide +kernel
theorem dL_law_53 : decode cL_law 53 = .ok (.iload_n 3, 1) := by decide +kernel
theorem dL_law_54 : decode cL_law 54 = .ok (.imul, 1) := by decide +kernel
theorem dL_law_55 : decode cL_law 55 = .ok (.iconst 1, 1) := by decide +kernel
theorem dL_law_56 : decode cL_law 56 = .ok (.iadd, 1) := by decide +kernel
theorem dL_law_57 : decode cL_law 57 = .ok (.invokestatic 107, 3) := by decide +kernel
theorem dL_law_60 : decode cL_law 60 = .ok (.istore 5, 2) := by decide +kernel
theorem dL_law_62 : decode cL_law 62 = .ok (.aload_n 1, 1) := by decide +kernel
theorem dL_law_63 : decode cL_law 63 = .ok (.invokestatic 111, 3) := by decide +kernel
theorem dL_law_66 : decode cL_law 66 = .ok (.lstore 6, 2) := by decide +kernel
theorem dL_law_68 : decode cL_law 68 = .ok (.aload_n 1, 1) := by decide +kernel
theorem dL_law_69 : decode cL_law 69 = .ok (.bipush 8, 2) := by decide +kernel
theorem dL_law_71 : decode cL_law 71 = .ok (.invokevirtual 13, 3) := by decide +kernel
theorem dL_law_74 : decode cL_law 74 = .ok (.istore 8, 2) := by decide +kernel
theorem dL_law_76 : decode cL_law 76 = .ok (.aload_n 1, 1) := by decide +kernel
theorem dL_law_77 : decode cL_law 77 = .ok (.iload_n 3, 1) := by decide +kernel
theorem dL_law_78 : decode cL_law 78 = .ok (.bipush 6, 2) := by decide +kernel
theorem dL_law_80 : decode cL_law 80 = .ok (.if_icmp .ge 11, 3) := by decide +kernel
theorem dL_law_83 : decode cL_law 83 = .ok (.iload 4, 2) := by decide +kernel
theorem dL_law_85 : decode cL_law 85 = .ok (.bipush (-16), 2) := by decide +kernel
theorem dL_law_87 : decode cL_law 87 = .ok (.iand, 1) := by decide +kernel
theorem dL_law_88 : decode cL_law 88 = .ok (.goto 5, 3) := by decide +kernel
theorem dL_law_91 : decode cL_law 91 = .ok (.iload 4, 2) := by decide +kernel
theorem dL_law_93 : decode cL_law 93 = .ok (.iload 5, 2) := by decide +kernel
theorem dL_law_95 : decode cL_law 95 = .ok (.invokestatic 115, 3) := by decide +kernel
theorem dL_law_98 : decode cL_law 98 = .ok (.ifCond .eq 21, 3) := by decide +kernel
theorem dL_law_101 : decode cL_law 101 = .ok (.iload_n 3, 1) := by decide +kernel
theorem dL_law_102 : decode cL_law 102 = .ok (.iconst 4, 1) := by decide +kernel
theorem dL_law_103 : decode cL_law 103 = .ok (.irem, 1) := by decide +kernel
theorem dL_law_104 : decode cL_law 104 = .ok (.iconst 3, 1) := by decide +kernel
theorem dL_law_105 : decode cL_law 105 = .ok (.if_icmp .ne 10, 3) := by decide +kernel
theorem dL_law_108 : decode cL_law 108 = .ok (.aload_n 1, 1) := by decide +kernel
theorem dL_law_109 : decode cL_law 109 = .ok (.invokestatic 101, 3) := by decide +kernel
theorem dL_law_112 : decode cL_law 112 = .ok (.ifCond .eq 7, 3) := by decide +kernel
theorem dL_law_115 : decode cL_law 115 = .ok (.iconst 1, 1) := by decide +kernel
theorem dL_law_116 : decode cL_law 116 = .ok (.goto 4, 3) := by decide +kernel
theorem dL_law_119 : decode cL_law 119 = .ok (.iconst 0, 1) := by decide +kernel
theorem dL_law_120 : decode cL_law 120 = .ok (.istore_n 2, 1) := by decide +kernel
theorem dL_law_121 : decode cL_law 121 = .ok (.aload_n 1, 1) := by decide +kernel
theorem dL_law_122 : decode cL_law 122 = .ok (.bipush 8, 2) := by decide +kernel
theorem dL_law_124 : decode cL_law 124 = .ok (.invokevirtual 13, 3) := by decide +kernel
theorem dL_law_127 : decode cL_law 127 = .ok (.istore 9, 2) := by decide +kernel
theorem dL_law_129 : decode cL_law 129 = .ok (.iload_n 2, 1) := by decide +kernel
theorem dL_law_130 : decode cL_law 130 = .ok (.ifCond .eq 39, 3) := by decide +kernel
theorem dL_law_133 : decode cL_law 133 = .ok (.iload 9, 2) := by decide +kernel
theorem dL_law_135 : decode cL_law 135 = .ok (.iload 8, 2) := by decide +kernel
theorem dL_law_137 : decode cL_law 137 = .ok (.if_icmp .ne 19, 3) := by decide +kernel
theorem dL_law_140 : decode cL_law 140 = .ok (.iload 8, 2) := by decide +kernel
theorem dL_law_142 : decode cL_law 142 = .ok (.iconst 4, 1) := by decide +kernel
theorem dL_law_143 : decode cL_law 143 = .ok (.if_icmp .eq 22, 3) := by decide +kernel
theorem dL_law_146 : decode cL_law 146 = .ok (.aload_n 1, 1) := by decide +kernel
theorem dL_law_147 : decode cL_law 147 = .ok (.invokestatic 111, 3) := by decide +kernel
theorem dL_law_150 : decode cL_law 150 = .ok (.lload 6, 2) := by decide +kernel
theorem dL_law_152 : decode cL_law 152 = .ok (.lcmp, 1) := by decide +kernel
theorem dL_law_153 : decode cL_law 153 = .ok (.ifCond .eq 12, 3) := by decide +kernel
theorem dL_law_156 : decode cL_law 156 = .ok (.iload 9, 2) := by decide +kernel
theorem dL_law_158 : decode cL_law 158 = .ok (.iload 8, 2) := by decide +kernel
theorem dL_law_160 : decode cL_law 160 = .ok (.iconst 1, 1) := by decide +kernel
theorem dL_law_161 : decode cL_law 161 = .ok (.iadd, 1) := by decide +kernel
theorem dL_law_162 : decode cL_law 162 = .ok (.if_icmp .ne 7, 3) := by decide +kernel
theorem dL_law_165 : decode cL_law 165 = .ok (.iconst 1, 1) := by decide +kernel
theorem dL_law_166 : decode cL_law 166 = .ok (.goto 4, 3) := by decide +kernel
theorem dL_law_169 : decode cL_law 169 = .ok (.iconst 0, 1) := by decide +kernel
theorem dL_law_170 : decode cL_law 170 = .ok (.istore_n 2, 1) := by decide +kernel
theorem dL_law_171 : decode cL_law 171 = .ok (.iload_n 2, 1) := by decide +kernel
theorem dL_law_172 : decode cL_law 172 = .ok (.ifCond .eq 49, 3) := by decide +kernel
theorem dL_law_175 : decode cL_law 175 = .ok (.iload 9, 2) := by decide +kernel
theorem dL_law_177 : decode cL_law 177 = .ok (.iload 8, 2) := by decide +kernel
theorem dL_law_179 : decode cL_law 179 = .ok (.iconst 1, 1) := by decide +kernel
theorem dL_law_180 : decode cL_law 180 = .ok (.iadd, 1) := by decide +kernel
theorem dL_law_181 : decode cL_law 181 = .ok (.if_icmp .ne 40, 3) := by decide +kernel
theorem dL_law_184 : decode cL_law 184 = .ok (.iload 5, 2) := by decide +kernel
theorem dL_law_186 : decode cL_law 186 = .ok (.bipush 8, 2) := by decide +kernel
theorem dL_law_188 : decode cL_law 188 = .ok (.ishr, 1) := by decide +kernel
theorem dL_law_189 : decode cL_law 189 = .ok (.iconst 2, 1) := by decide +kernel
theorem dL_law_190 : decode cL_law 190 = .ok (.invokestatic 52, 3) := by decide +kernel
theorem dL_law_193 : decode cL_law 193 = .ok (.ifCond .ne 28, 3) := by decide +kernel
theorem dL_law_196 : decode cL_law 196 = .ok (.aload_n 1, 1) := by decide +kernel
theorem dL_law_197 : decode cL_law 197 = .ok (.invokevirtual 104, 3) := by decide +kernel
theorem dL_law_200 : decode cL_law 200 = .ok (.iload 8, 2) := by decide +kernel
theorem dL_law_202 : decode cL_law 202 = .ok (.if_icmp .ne 17, 3) := by decide +kernel
theorem dL_law_205 : decode cL_law 205 = .ok (.aload_n 1, 1) := by decide +kernel
theorem dL_law_206 : decode cL_law 206 = .ok (.invokestatic 111, 3) := by decide +kernel
theorem dL_law_209 : decode cL_law 209 = .ok (.lload 6, 2) := by decide +kernel
theorem dL_law_211 : decode cL_law 211 = .ok (.lcmp, 1) := by decide +kernel
theorem dL_law_212 : decode cL_law 212 = .ok (.ifCond .ne 7, 3) := by decide +kernel
theorem dL_law_215 : decode cL_law 215 = .ok (.iconst 1, 1) := by decide +kernel
theorem dL_law_216 : decode cL_law 216 = .ok (.goto 4, 3) := by decide +kernel
theorem dL_law_219 : decode cL_law 219 = .ok (.iconst 0, 1) := by decide +kernel
theorem dL_law_220 : decode cL_law 220 = .ok (.istore_n 2, 1) := by decide +kernel
theorem dL_law_221 : decode cL_law 221 = .ok (.iload_n 2, 1) := by decide +kernel
theorem dL_law_222 : decode cL_law 222 = .ok (.ifCond .eq 45, 3) := by decide +kernel
theorem dL_law_225 : decode cL_law 225 = .ok (.iload_n 3, 1) := by decide +kernel
theorem dL_law_226 : decode cL_law 226 = .ok (.iconst 5, 1) := by decide +kernel
theorem dL_law_227 : decode cL_law 227 = .ok (.irem, 1) := by decide +kernel
theorem dL_law_228 : decode cL_law 228 = .ok (.iconst 4, 1) := by decide +kernel
theorem dL_law_229 : decode cL_law 229 = .ok (.if_icmp .ne 38, 3) := by decide +kernel
theorem dL_law_232 : decode cL_law 232 = .ok (.aload_n 1, 1) := by decide +kernel
theorem dL_law_233 : decode cL_law 233 = .ok (.bipush 8, 2) := by decide +kernel
theorem dL_law_235 : decode cL_law 235 = .ok (.invokevirtual 13, 3) := by decide +kernel
theorem dL_law_238 : decode cL_law 238 = .ok (.istore 10, 2) := by decide +kernel
theorem dL_law_240 : decode cL_law 240 = .ok (.aload_n 1, 1) := by decide +kernel
theorem dL_law_241 : decode cL_law 241 = .ok (.invokevirtual 104, 3) := by decide +kernel
theorem dL_law_244 : decode cL_law 244 = .ok (.iload 10, 2) := by decide +kernel
theorem dL_law_246 : decode cL_law 246 = .ok (.ifCond .ne 8, 3) := by decide +kernel
theorem dL_law_249 : decode cL_law 249 = .ok (.ldc 68, 2) := by decide +kernel
theorem dL_law_251 : decode cL_law 251 = .ok (.goto 7, 3) := by decide +kernel
theorem dL_law_254 : decode cL_law 254 = .ok (.iload 10, 2) := by decide +kernel
theorem dL_law_256 : decode cL_law 256 = .ok (.iconst 1, 1) := by decide +kernel
theorem dL_law_257 : decode cL_law 257 = .ok (.isub, 1) := by decide +kernel
theorem dL_law_258 : decode cL_law 258 = .ok (.if_icmp .ne 7, 3) := by decide +kernel
theorem dL_law_261 : decode cL_law 261 = .ok (.iconst 1, 1) := by decide +kernel
theorem dL_law_262 : decode cL_law 262 = .ok (.goto 4, 3) := by decide +kernel
theorem dL_law_265 : decode cL_law 265 = .ok (.iconst 0, 1) := by decide +kernel
theorem dL_law_266 : decode cL_law 266 = .ok (.istore_n 2, 1) := by decide +kernel
theorem dL_law_267 : decode cL_law 267 = .ok (.iinc 3 1, 3) := by decide +kernel
theorem dL_law_270 : decode cL_law 270 = .ok (.goto (-238), 3) := by decide +kernel
theorem dL_law_273 : decode cL_law 273 = .ok (.iload_n 2, 1) := by decide +kernel
theorem dL_law_274 : decode cL_law 274 = .ok (.ifCond .eq 14, 3) := by decide +kernel
theorem dL_law_277 : decode cL_law 277 = .ok (.aload_n 1, 1) := by decide +kernel
theorem dL_law_278 : decode cL_law 278 = .ok (.invokestatic 101, 3) := by decide +kernel
theorem dL_law_281 : decode cL_law 281 = .ok (.ifCond .eq 7, 3) := by decide +kernel
theorem dL_law_284 : decode cL_law 284 = .ok (.iconst 1, 1) := by decide +kernel
theorem dL_law_285 : decode cL_law 285 = .ok (.goto 4, 3) := by decide +kernel
theorem dL_law_288 : decode cL_law 288 = .ok (.iconst 0, 1) := by decide +kernel
theorem dL_law_289 : decode cL_law 289 = .ok (.ireturn, 1) := by decide +kernel
abbrev vwCl : List vw_C := [(RX0, TX0, 2), (RX1, TX1, 13), (RX2, TX2, 2), (RX3, TX3, 3)]
end
section
/-! The heap as a map from addresses to cells (a pool), and one row an instruction over it. -/
/-- the classes' ids and slots; the array classes of int, long, Store; the address of the table of values -/
abbrev Gm : Type := va_G × (ClassId × ClassId × ClassId) × Nat
abbrev gI (g : Gm) : ClassId := g.2.1.1
abbrev gJ (g : Gm) : ClassId := g.2.1.2.1
abbrev gR (g : Gm) : ClassId := g.2.1.2.2
abbrev gT (g : Gm) : Nat := g.2.2
abbrev tyl (g : Gm) : List (ClassId × FieldType) := [(gI g, .int), (gJ g, .long), (gR g, .object RX1)]
def tabv (j : Nat) : Int64 := match j with
  | 0 => -6148914691236517206
  | 1 => -3689348814741910324
  | 2 => -1085102592571150096
  | 3 => -71777214294589696
  | 4 => -281470681808896
  | _ => -4294967296
def nestF : List (String × Nat × String × String × String × String) := [(RX3, 67, RX1, "literals", "[I", RX3), (RX3, 75, RX1, "status", "[I", RX3), (RX3, 84, RX1, "holdingParent", "[I", RX3), (RX3, 87, RX1, "otherParent", "[I", RX3), (RX3, 90, RX1, "atomMadeBy", "[I", RX3), (RX3, 101, RX1, "depth", "[I", RX3), (RX3, 57, RX1, "clauses", "I", RX3), (RX3, 60, RX1, "steps", "I", RX3), (RX3, 47, RX1, "setting", "I", RX3), (RX3, 153, RX1, "heldAlways", "I", RX3), (RX3, 156, RX1, "hadAnotherWithin", "I", RX3), (RX3, 159, RX0, "kept", "I", RX3), (RX3, 190, RX2, "characters", "[I", RX3), (RX3, 162, RX2, "length", "I", RX3)]
def nestM : List (String × Nat × MethodName × String) := [(RX3, 9, yX1_init, RX3), (RX1, 53, yX3_put, RX3), (RX3, 18, yX0_init, RX3), (RX0, 21, yX1_init, RX3), (RX3, 25, yX2_init, RX3), (RX3, 150, yX1_howMany, RX3), (RX1, 65, yX3_at, RX3), (RX3, 165, yX1_rankOf, RX3), (RX3, 168, yX0_restoreLatest, RX3), (RX0, 26, yX1_copyFrom, RX3), (RX1, 57, yX3_copyRow, RX3), (RX1, 61, yX3_copyLongRow, RX3), (RX3, 63, yX1_has, RX3), (RX3, 78, yX1_greatestOf, RX3), (RX3, 98, yX1_howManyLessThan, RX3), (RX1, 76, yX3_isIn, RX3), (RX3, 117, yX1_toldClauses, RX3), (RX1, 139, yX3_setOf, RX3), (RX3, 121, yX1_valuesFulfilling, RX3), (RX1, 147, yX3_longAt, RX3), (RX3, 114, yX1_emptyClause, RX3), (RX3, 104, yX1_treeOf, RX3), (RX3, 137, yX1_fewestUnfulfillable, RX3), (RX3, 31, yX0_putAside, RX3), (RX3, 35, yX1_bring, RX3), (RX1, 88, yX3_holdsAlways, RX3), (RX1, 103, yX3_isWithin, RX3), (RX1, 112, yX3_valuesOfClause, RX3), (RX1, 116, yX3_putLong, RX3), (RX3, 184, yX0_takeBack, RX3), (RX3, 187, yX0_keep, RX3), (RX3, 43, yX1_changeRank, RX3), (RX3, 51, yX1_takeStep, RX3), (RX3, 172, yX2_add, RX3), (RX2, 19, yX3_put, RX3), (RX3, 175, yX2_whereItBreaksOff, RX3), (RX2, 23, yX3_at, RX3), (RX3, 178, yX2_startOfClause, RX3)]
def nst (U : State) : Prop := (∀ q ∈ nestF, va_Nw (.fieldLinkNest q.1 q.2.1 q.2.2.1 q.2.2.2.1 q.2.2.2.2.1 q.2.2.2.2.2) U) ∧ (∀ q ∈ nestM, va_Nw (.methodLinkNest q.1 q.2.1 q.2.2.1 q.2.2.2) U)
theorem nst.warm {s U : State} (hW : s.WarmedH U.vm) (h : nst s) : nst U := ⟨fun q hq => va_Nw.warmF hW (h.1 q hq), fun q hq => va_Nw.warmM hW (h.2 q hq)⟩
theorem nst.same {u U : State} (e : u.vm = U.vm) (h : nst u) : nst U := ⟨fun q hq => va_Nw.same rfl e (h.1 q hq), fun q hq => va_Nw.same rfl e (h.2 q hq)⟩
abbrev kL (L : List Nat) (A : Nat → Prop) : Prop := L.Nodup ∧ ∀ q, q ∈ L → A q
/-- what holds of the tables and of the table of values, whatever our own cells hold -/
def Cx (g : Gm) (A : Nat → Prop) (U : State) (H : Heap) : Prop :=
  va_K g.1 vwCl (tyl g) U ∧ nst U ∧ va_Z "OrderedClauses" "VALUES_WITH_ATOM" "[J" (.ref (gT g)) A U H ∧ va_T .long (gT g) 6 (fun j => .long (tabv j)) A U H
theorem Cx.go {g : Gm} {A : Nat → Prop} {s U : State} {H : Heap} {locs : List Loc} (hC : Cx g A s s.heap) (hS : va_S A s.heap H locs) (hU : U.heap = H) (hW : s.WarmedH U.vm) : Cx g A U U.heap :=
  ⟨va_K.moved hW.alike hC.1, nst.warm hW hC.2.1, by rw [hU]; exact va_Z.moved hW.alike (va_Z.kept hC.2.2.1 hS.2.1), by rw [hU]; exact va_T.moved hW.alike (va_T.kept hC.2.2.2 hS.2.1)⟩
abbrev kB (g : Gm) (L : List Nat) (A : Nat → Prop) (G : Nat → va_E) (U : State) : Prop := va_P g.1 vwCl (va_pl L G) U.heap ∧ Cx g A U U.heap
abbrev kE (g : Gm) (L : List Nat) (G : Nat → va_E) (t : State) : Prop := va_P g.1 vwCl (va_pl L G) t.heap
theorem k_blind {g : Gm} {L : List Nat} {A : Nat → Prop} {G : Nat → va_E} {As : List Value} : FrameBlind (va_Pc As (kB g L A G)) := fun a U gg mk q =>
  ⟨q.1, q.2.1, va_K.moved (u := U) (U := U.calling gg mk a) (Vm.Alike.refl U.vm) q.2.2.1, nst.same (u := U) (U := U.calling gg mk a) rfl q.2.2.2.1, va_Z.moved (u := U) (U := U.calling gg mk a) (Vm.Alike.refl U.vm) q.2.2.2.2.1, va_T.moved (u := U) (U := U.calling gg mk a) (Vm.Alike.refl U.vm) q.2.2.2.2.2⟩
theorem k_pre {g : Gm} {L : List Nat} {A : Nat → Prop} {G : Nat → va_E} {As : List Value} {s : State} {H : Heap} {locs : List Loc} (hC : Cx g A s s.heap) (hS : va_S A s.heap H locs) (hP : va_P g.1 vwCl (va_pl L G) H) : PreS s H (va_Pc As (kB g L A G)) As :=
  ⟨k_blind, fun U hU hW => ⟨rfl, by rw [hU]; exact hP, hC.go hS hU hW⟩⟩
theorem k_plget {L : List Nat} {G : Nat → va_E} {a : Nat} {e : va_E} (ha : a ∈ L) (hG : G a = e) : ∃ k : Nat, (va_pl L G)[k]? = some (a, e) := by
  obtain ⟨k, hk⟩ := va_pl_get (X := []) (f := G) ha
  exact ⟨k, by rw [← hG]; exact hk⟩
theorem k_plD {L : List Nat} {A : Nat → Prop} (hL : kL L A) (G : Nat → va_E) : va_D A (va_pl L G) := by
  have at' : ∀ (i : Nat) (p : Nat × va_E), (va_pl L G)[i]? = some p → L[i]? = some p.1 := by
    intro i p h
    simp only [va_pl, List.getElem?_map] at h
    cases hb : L[i]? with
    | none => rw [hb] at h; cases h
    | some b => rw [hb] at h; cases h; rfl
  refine ⟨fun i j p q hp hq e => ?_, fun k q h => hL.2 _ (List.mem_of_getElem? (at' k q h))⟩
  have h1 := at' i p hp
  have h2 := at' j q hq
  exact (List.getElem?_inj (List.getElem?_eq_some_iff.mp h1).1 hL.1).mp (by rw [h1, h2, e])
theorem k_plset {L : List Nat} {A : Nat → Prop} (hL : kL L A) {G : Nat → va_E} {a k : Nat} {e0 e : va_E} (ha : a ∈ L) (hG : G a = e0) (hk : (va_pl L G)[k]? = some (a, e0)) : (va_pl L G).set k (a, e) = va_pl L (va_up G a e) :=
  va_pl_set (X := []) (k_plD hL G) ha (by rw [hG]; exact hk)
theorem k_preV {g : Gm} {L : List Nat} {A : Nat → Prop} {G : Nat → va_E} {b : Nat} {As : List Value} {s : State} {H : Heap} {locs : List Loc} {ci : Nat} {fs : List Value} {C : String} {T : u_T} {N : Nat} (hC : Cx g A s s.heap) (hS : va_S A s.heap H locs) (hP : va_P g.1 vwCl (va_pl L G) H) (hb : b ∈ L) (hG : G b = .inr (ci, fs)) (hc : vwCl[ci]? = some (C, T, N)) : PreV s H C b (va_Pc (.ref b :: As) (kB g L A G)) As := by
  obtain ⟨k, hk⟩ := k_plget hb hG
  exact ⟨k_blind, va_recv hC.1 hP (q0 := k) hc hk, fun U hU hW => ⟨rfl, by rw [hU]; exact hP, hC.go hS hU hW⟩⟩
/-! reads of arrays, as partial functions -/
def aLd {α : Type} (f : Nat → α) (n : Nat) (i : Int32) : Option α := if i < 0 ∨ n ≤ i.toNatClampNeg then none else some (f i.toNatClampNeg)
theorem aLd_spec {α : Type} {f : Nat → α} {n : Nat} {i : Int32} {v : α} (h : aLd f n i = some v) : vp_in i n ∧ v = f i.toNatClampNeg := by
  unfold aLd at h
  split at h
  · cases h
  · rename_i h1
    exact ⟨h1, (Option.some.inj h).symm⟩
def aSt (f : Nat → Int32) (n : Nat) (i : Int32) (x : Int32) : Option (Nat → Int32) := if i < 0 ∨ n ≤ i.toNatClampNeg then none else some (upd f i.toNatClampNeg x)
theorem aSt_spec {f : Nat → Int32} {n : Nat} {i x : Int32} {v : Nat → Int32} (h : aSt f n i x = some v) : vp_in i n ∧ v = upd f i.toNatClampNeg x := by
  unfold aSt at h
  split at h
  · cases h
  · rename_i h1
    exact ⟨h1, (Option.some.inj h).symm⟩
def aStL (f : Nat → Int64) (n : Nat) (i : Int32) (x : Int64) : Option (Nat → Int64) := if i < 0 ∨ n ≤ i.toNatClampNeg then none else some (vp_updL f i.toNatClampNeg x)
theorem aStL_spec {f : Nat → Int64} {n : Nat} {i : Int32} {x : Int64} {v : Nat → Int64} (h : aStL f n i x = some v) : vp_in i n ∧ v = vp_updL f i.toNatClampNeg x := by
  unfold aStL at h
  split at h
  · cases h
  · rename_i h1
    exact ⟨h1, (Option.some.inj h).symm⟩
def oB {α β : Type} (o : Option α) (f : α → Option β) : Option β := match o with
  | none => none
  | some a => f a
theorem oB_spec {α β : Type} {o : Option α} {f : α → Option β} {r : β} (h : oB o f = some r) : ∃ a, o = some a ∧ f a = some r := by
  cases o with
  | none => cases h
  | some a => exact ⟨a, rfl, h⟩
def oB2 {α β γ : Type} (o : Option (α × β)) (f : α → β → Option γ) : Option γ := match o with
  | none => none
  | some (a, b) => f a b
theorem oB2_spec {α β γ : Type} {o : Option (α × β)} {f : α → β → Option γ} {r : γ} (h : oB2 o f = some r) : ∃ a b, o = some (a, b) ∧ f a b = some r := by
  cases o with
  | none => cases h
  | some a => exact ⟨a.1, a.2, rfl, h⟩
/-- what is returned as a boolean is 0 or 1 -/
def oZ {β : Type} (v : Int32) (o : Option β) : Option β := if v &&& 1 = v then o else none
theorem oZ_spec {β : Type} {v : Int32} {o : Option β} {r : β} (h : oZ v o = some r) : narrow .boolean (.int v) = .int v ∧ o = some r := by
  unfold oZ at h
  split at h
  · rename_i h1
    refine ⟨?_, h⟩
    simp [narrow, h1]
  · cases h
section KX
variable {p : Program} {l : Launch} {e : Env} {R : Room} {s : State} {m : MethodId} {args : Array Value} {below : List Frame} {meth : Method} {c : Code} {H : Heap} {locs : List Loc} {cells slots : Nat} {Q : State → Prop} {cc : ByteArray} {pc : Nat} {ls : Array Slot} {rest st0 : List Value} {a : Array Value} {g : Gm} {L : List Nat} {A : Nat → Prop} {G : Nat → va_E}
theorem k_i {post : Int32 → (Nat → va_E) → Prop} (hS : va_S A s.heap H locs) (hr : va_Run p l e R s m args below meth c H locs cells slots 0 0 (F0 m pc ls st0) rest (va_Qi post (kE g L) A a) A) (kk : ∀ (r : Int32) (G1 : Nat → va_E) (H1 : Heap) (locs1 : List Loc), post r G1 → va_P g.1 vwCl (va_pl L G1) H1 → va_S A s.heap H1 locs1 → W p l e R s m args below meth c H1 locs1 cells slots Q (F0 m (pc + 3) ls (.int r :: rest))) : W p l e R s m args below meth c H locs cells slots Q (F0 m pc ls st0) :=
  va_calli hr hS (fun _ _ h => h) (fun _ h => h) (fun r u t H1 locs1 ht _ hp hb _ _ hS1 => kk r u H1 locs1 hp (ht ▸ hb) hS1)
theorem k_l {post : Int64 → (Nat → va_E) → Prop} (hS : va_S A s.heap H locs) (hr : va_Run p l e R s m args below meth c H locs cells slots 0 0 (F0 m pc ls st0) rest (va_Ql post (kE g L) A a) A) (kk : ∀ (r : Int64) (G1 : Nat → va_E) (H1 : Heap) (locs1 : List Loc), post r G1 → va_P g.1 vwCl (va_pl L G1) H1 → va_S A s.heap H1 locs1 → W p l e R s m args below meth c H1 locs1 cells slots Q (F0 m (pc + 3) ls (.long r :: rest))) : W p l e R s m args below meth c H locs cells slots Q (F0 m pc ls st0) :=
  va_calll hr hS (fun _ _ h => h) (fun _ h => h) (fun r u t H1 locs1 ht _ hp hb _ _ hS1 => kk r u H1 locs1 hp (ht ▸ hb) hS1)
theorem k_v {post : (Nat → va_E) → Prop} (hS : va_S A s.heap H locs) (hr : va_Run p l e R s m args below meth c H locs cells slots 0 0 (F0 m pc ls st0) rest (va_Qv post (kE g L) A a) A) (kk : ∀ (G1 : Nat → va_E) (H1 : Heap) (locs1 : List Loc), post G1 → va_P g.1 vwCl (va_pl L G1) H1 → va_S A s.heap H1 locs1 → W p l e R s m args below meth c H1 locs1 cells slots Q (F0 m (pc + 3) ls rest)) : W p l e R s m args below meth c H locs cells slots Q (F0 m pc ls st0) :=
  va_callv hr hS (fun _ _ h => h) (fun _ h => h) (fun u t H1 locs1 ht _ hp hb _ _ hS1 => kk u H1 locs1 hp (ht ▸ hb) hS1)
theorem k_q {post : Option Nat → (Nat → va_E) → Prop} (hS : va_S A s.heap H locs) (hr : va_Run p l e R s m args below meth c H locs cells slots 0 0 (F0 m pc ls st0) rest (va_Qq post (kE g L) A a) A) (kk : ∀ (r : Option Nat) (G1 : Nat → va_E) (H1 : Heap) (locs1 : List Loc), post r G1 → va_P g.1 vwCl (va_pl L G1) H1 → va_S A s.heap H1 locs1 → W p l e R s m args below meth c H1 locs1 cells slots Q (F0 m (pc + 3) ls (va_rf r :: rest))) : W p l e R s m args below meth c H locs cells slots Q (F0 m pc ls st0) :=
  va_callq hr hS (fun _ _ h => h) (fun _ h => h) (fun r u t H1 locs1 ht _ hp hb _ _ hS1 => kk r u H1 locs1 hp (ht ▸ hb) hS1)
theorem k_get (hexec : p.tables.exec = Jvm.exec) (hb : c.code = cc) {own C : String} {T : u_T} {N ci index : Nat} {Ts : List Cond} (hts : ∀ w ∈ Ts, w.before args s = true) (hin : ∀ w ∈ u_ws C T N, w ∈ Ts) (hown : s.vm.findClass own = some m.cls) (hC : Cx g A s s.heap) (hP : va_P g.1 vwCl (va_pl L G) H) {b : Nat} {fs : List Value} (hbL : b ∈ L) (hG : G b = .inr (ci, fs)) (hc : vwCl[ci]? = some (C, T, N)) (k : Nat) (hk : k < N) (hlink : (Cond.fieldLink own index (T k).1 (T k).2.1 (T k).2.2.1).before args s = true) {v : Value} (hv : fs[k]? = some v) (hdg : decode cc pc = .ok (.getfield index, 3))
    (kk : W p l e R s m args below meth c H locs cells slots Q (F0 m (pc + 3) ls (v :: rest))) : W p l e R s m args below meth c H locs cells slots Q (F0 m pc ls (.ref b :: rest)) := by
  obtain ⟨q, hq⟩ := k_plget hbL hG
  exact va_get hexec hb hts hin hown hC.1 hP q hq hc k hk hlink (fun _ h => h) hv hdg kk
theorem k_getN (hexec : p.tables.exec = Jvm.exec) (hb : c.code = cc) {own C host : String} {T : u_T} {N ci index : Nat} {Ts : List Cond} (hts : ∀ w ∈ Ts, w.before args s = true) (hin : ∀ w ∈ u_ws C T N, w ∈ Ts) (hown : s.vm.findClass own = some m.cls) (hC : Cx g A s s.heap) (hP : va_P g.1 vwCl (va_pl L G) H) {b : Nat} {fs : List Value} (hbL : b ∈ L) (hG : G b = .inr (ci, fs)) (hc : vwCl[ci]? = some (C, T, N)) (k : Nat) (hk : k < N) (hlink : va_Nw (.fieldLinkNest own index (T k).1 (T k).2.1 (T k).2.2.1 host) s) {v : Value} (hv : fs[k]? = some v) (hdg : decode cc pc = .ok (.getfield index, 3))
    (kk : W p l e R s m args below meth c H locs cells slots Q (F0 m (pc + 3) ls (v :: rest))) : W p l e R s m args below meth c H locs cells slots Q (F0 m pc ls (.ref b :: rest)) := by
  obtain ⟨q, hq⟩ := k_plget hbL hG
  exact va_getN hexec hb hts hin hown hC.1 hP q hq hc k hk (va_Nw.use rfl hlink) (fun _ h => h) hv hdg kk
theorem k_put (hexec : p.tables.exec = Jvm.exec) (hb : c.code = cc) {own C : String} {T : u_T} {N ci index : Nat} {Ts : List Cond} (hts : ∀ w ∈ Ts, w.before args s = true) (hin : ∀ w ∈ u_ws C T N, w ∈ Ts) (ty0 : Nat → FieldType) (hty : ∀ k, k < N → parseFieldDescriptor (T k).2.2.1 = some (ty0 k)) (hnm : ∀ a, a < N → ∀ b, b < N → a ≠ b → (T a).2.1 ≠ (T b).2.1) (hown : s.vm.findClass own = some m.cls) (hL : kL L A) (hC : Cx g A s s.heap) (hP : va_P g.1 vwCl (va_pl L G) H) (hS : va_S A s.heap H locs) {b : Nat} {fs : List Value} (hbL : b ∈ L) (hG : G b = .inr (ci, fs)) (hc : vwCl[ci]? = some (C, T, N)) (k : Nat) (hk : k < N) (hlink : (Cond.fieldLink own index (T k).1 (T k).2.1 (T k).2.2.1).before args s = true) (hfin : (T k).2.2.2 = false) {ty : FieldType} {v : Value} (hd : parseFieldDescriptor (T k).2.2.1 = some ty) (hn : narrow ty v = v) (hfit : fits ty v = true) (hl : k < fs.length) (hdg : decode cc pc = .ok (.putfield index, 3))
    (kk : ∀ (H1 : Heap) (locs1 : List Loc), va_P g.1 vwCl (va_pl L (va_up G b (.inr (ci, fs.set k v)))) H1 → va_S A s.heap H1 locs1 → W p l e R s m args below meth c H1 locs1 cells slots Q (F0 m (pc + 3) ls rest)) : W p l e R s m args below meth c H locs cells slots Q (F0 m pc ls (v :: .ref b :: rest)) := by
  obtain ⟨q, hq⟩ := k_plget hbL hG
  exact va_put hexec hb hts hin ty0 hty hnm hown hC.1 hP (k_plD hL G) hS q hq hc k hk hlink (fun _ h => h) hfin hd hn hfit hl hdg (fun H1 locs1 h1 _ h3 => kk H1 locs1 (by rw [← k_plset hL hbL hG hq]; exact h1) h3)
theorem k_putN (hexec : p.tables.exec = Jvm.exec) (hb : c.code = cc) {own C host : String} {T : u_T} {N ci index : Nat} {Ts : List Cond} (hts : ∀ w ∈ Ts, w.before args s = true) (hin : ∀ w ∈ u_ws C T N, w ∈ Ts) (ty0 : Nat → FieldType) (hty : ∀ k, k < N → parseFieldDescriptor (T k).2.2.1 = some (ty0 k)) (hnm : ∀ a, a < N → ∀ b, b < N → a ≠ b → (T a).2.1 ≠ (T b).2.1) (hown : s.vm.findClass own = some m.cls) (hL : kL L A) (hC : Cx g A s s.heap) (hP : va_P g.1 vwCl (va_pl L G) H) (hS : va_S A s.heap H locs) {b : Nat} {fs : List Value} (hbL : b ∈ L) (hG : G b = .inr (ci, fs)) (hc : vwCl[ci]? = some (C, T, N)) (k : Nat) (hk : k < N) (hlink : va_Nw (.fieldLinkNest own index (T k).1 (T k).2.1 (T k).2.2.1 host) s) (hfin : (T k).2.2.2 = false) {ty : FieldType} {v : Value} (hd : parseFieldDescriptor (T k).2.2.1 = some ty) (hn : narrow ty v = v) (hfit : fits ty v = true) (hl : k < fs.length) (hdg : decode cc pc = .ok (.putfield index, 3))
    (kk : ∀ (H1 : Heap) (locs1 : List Loc), va_P g.1 vwCl (va_pl L (va_up G b (.inr (ci, fs.set k v)))) H1 → va_S A s.heap H1 locs1 → W p l e R s m args below meth c H1 locs1 cells slots Q (F0 m (pc + 3) ls rest)) : W p l e R s m args below meth c H locs cells slots Q (F0 m pc ls (v :: .ref b :: rest)) := by
  obtain ⟨q, hq⟩ := k_plget hbL hG
  exact va_putN hexec hb hts hin ty0 hty hnm hown hC.1 hP (k_plD hL G) hS q hq hc k hk (va_Nw.use rfl hlink) (fun _ h => h) hfin hd hn hfit hl hdg (fun H1 locs1 h1 _ h3 => kk H1 locs1 (by rw [← k_plset hL hbL hG hq]; exact h1) h3)
theorem k_ild (hexec : p.tables.exec = Jvm.exec) (hb : c.code = cc) (hC : Cx g A s s.heap) (hP : va_P g.1 vwCl (va_pl L G) H) {b n : Nat} {f : Nat → Int32} (hbL : b ∈ L) (hG : G b = .inl (gI g, n, .inl f)) {i : Int32} (hin : vp_in i n) (hdg : decode cc pc = .ok (.iaload, 1))
    (kk : W p l e R s m args below meth c H locs cells slots Q (F0 m (pc + 1) ls (.int (f i.toNatClampNeg) :: rest))) : W p l e R s m args below meth c H locs cells slots Q (F0 m pc ls (.int i :: .ref b :: rest)) := by
  obtain ⟨q, hq⟩ := k_plget hbL hG
  exact va_iald hexec hb hC.1 hP q 0 hq rfl hin hdg kk
theorem k_lld (hexec : p.tables.exec = Jvm.exec) (hb : c.code = cc) (hC : Cx g A s s.heap) (hP : va_P g.1 vwCl (va_pl L G) H) {b n : Nat} {f : Nat → Int64} (hbL : b ∈ L) (hG : G b = .inl (gJ g, n, .inr (.inl f))) {i : Int32} (hin : vp_in i n) (hdg : decode cc pc = .ok (.laload, 1))
    (kk : W p l e R s m args below meth c H locs cells slots Q (F0 m (pc + 1) ls (.long (f i.toNatClampNeg) :: rest))) : W p l e R s m args below meth c H locs cells slots Q (F0 m pc ls (.int i :: .ref b :: rest)) := by
  obtain ⟨q, hq⟩ := k_plget hbL hG
  exact va_lald hexec hb hC.1 hP q 1 hq rfl hin hdg kk
theorem k_ist (hexec : p.tables.exec = Jvm.exec) (hb : c.code = cc) (hL : kL L A) (hC : Cx g A s s.heap) (hP : va_P g.1 vwCl (va_pl L G) H) (hS : va_S A s.heap H locs) {b n : Nat} {f : Nat → Int32} (hbL : b ∈ L) (hG : G b = .inl (gI g, n, .inl f)) {i x : Int32} (hin : vp_in i n) (hdg : decode cc pc = .ok (.iastore, 1))
    (kk : ∀ (H1 : Heap) (locs1 : List Loc), va_P g.1 vwCl (va_pl L (va_up G b (.inl (gI g, n, .inl (upd f i.toNatClampNeg x))))) H1 → va_S A s.heap H1 locs1 → W p l e R s m args below meth c H1 locs1 cells slots Q (F0 m (pc + 1) ls rest)) : W p l e R s m args below meth c H locs cells slots Q (F0 m pc ls (.int x :: .int i :: .ref b :: rest)) := by
  obtain ⟨q, hq⟩ := k_plget hbL hG
  exact va_iast hexec hb hC.1 hP (k_plD hL G) hS q 0 hq rfl hin hdg (fun H1 locs1 h1 _ h3 => kk H1 locs1 (by rw [← k_plset hL hbL hG hq]; exact h1) h3)
theorem k_lst (hexec : p.tables.exec = Jvm.exec) (hb : c.code = cc) (hL : kL L A) (hC : Cx g A s s.heap) (hP : va_P g.1 vwCl (va_pl L G) H) (hS : va_S A s.heap H locs) {b n : Nat} {f : Nat → Int64} (hbL : b ∈ L) (hG : G b = .inl (gJ g, n, .inr (.inl f))) {i : Int32} {x : Int64} (hin : vp_in i n) (hdg : decode cc pc = .ok (.lastore, 1))
    (kk : ∀ (H1 : Heap) (locs1 : List Loc), va_P g.1 vwCl (va_pl L (va_up G b (.inl (gJ g, n, .inr (.inl (vp_updL f i.toNatClampNeg x)))))) H1 → va_S A s.heap H1 locs1 → W p l e R s m args below meth c H1 locs1 cells slots Q (F0 m (pc + 1) ls rest)) : W p l e R s m args below meth c H locs cells slots Q (F0 m pc ls (.long x :: .int i :: .ref b :: rest)) := by
  obtain ⟨q, hq⟩ := k_plget hbL hG
  exact va_last hexec hb hC.1 hP (k_plD hL G) hS q 1 hq rfl hin hdg (fun H1 locs1 h1 _ h3 => kk H1 locs1 (by rw [← k_plset hL hbL hG hq]; exact h1) h3)
theorem k_leni (hexec : p.tables.exec = Jvm.exec) (hb : c.code = cc) (hC : Cx g A s s.heap) (hP : va_P g.1 vwCl (va_pl L G) H) {b n : Nat} {f : Nat → Int32} (hbL : b ∈ L) (hG : G b = .inl (gI g, n, .inl f)) (hdg : decode cc pc = .ok (.arraylength, 1))
    (kk : W p l e R s m args below meth c H locs cells slots Q (F0 m (pc + 1) ls (.int (Int32.ofNat n) :: rest))) : W p l e R s m args below meth c H locs cells slots Q (F0 m pc ls (.ref b :: rest)) := by
  obtain ⟨q, hq⟩ := k_plget hbL hG
  exact va_alen hexec hb hC.1 hP q 0 hq rfl rfl hdg kk
theorem k_lenl (hexec : p.tables.exec = Jvm.exec) (hb : c.code = cc) (hC : Cx g A s s.heap) (hP : va_P g.1 vwCl (va_pl L G) H) {b n : Nat} {f : Nat → Int64} (hbL : b ∈ L) (hG : G b = .inl (gJ g, n, .inr (.inl f))) (hdg : decode cc pc = .ok (.arraylength, 1))
    (kk : W p l e R s m args below meth c H locs cells slots Q (F0 m (pc + 1) ls (.int (Int32.ofNat n) :: rest))) : W p l e R s m args below meth c H locs cells slots Q (F0 m pc ls (.ref b :: rest)) := by
  obtain ⟨q, hq⟩ := k_plget hbL hG
  exact va_alen hexec hb hC.1 hP q 1 hq rfl rfl hdg kk
theorem k_lenr (hexec : p.tables.exec = Jvm.exec) (hb : c.code = cc) (hC : Cx g A s s.heap) (hP : va_P g.1 vwCl (va_pl L G) H) {b n : Nat} {f : Nat → Option Nat} (hbL : b ∈ L) (hG : G b = .inl (gR g, n, .inr (.inr (.inr (.inr f))))) (hdg : decode cc pc = .ok (.arraylength, 1))
    (kk : W p l e R s m args below meth c H locs cells slots Q (F0 m (pc + 1) ls (.int (Int32.ofNat n) :: rest))) : W p l e R s m args below meth c H locs cells slots Q (F0 m pc ls (.ref b :: rest)) := by
  obtain ⟨q, hq⟩ := k_plget hbL hG
  exact va_alen hexec hb hC.1 hP q 2 hq rfl rfl hdg kk
theorem k_rld (hexec : p.tables.exec = Jvm.exec) (hb : c.code = cc) (hC : Cx g A s s.heap) (hP : va_P g.1 vwCl (va_pl L G) H) {b n : Nat} {f : Nat → Option Nat} (hbL : b ∈ L) (hG : G b = .inl (gR g, n, .inr (.inr (.inr (.inr f))))) {i : Int32} (hin : vp_in i n) (hdg : decode cc pc = .ok (.aaload, 1))
    (kk : W p l e R s m args below meth c H locs cells slots Q (F0 m (pc + 1) ls (va_rf (f i.toNatClampNeg) :: rest))) : W p l e R s m args below meth c H locs cells slots Q (F0 m pc ls (.int i :: .ref b :: rest)) := by
  obtain ⟨q, hq⟩ := k_plget hbL hG
  exact va_aldq hexec hb hC.1 hP q 2 hq rfl hin hdg kk
theorem k_rst (hexec : p.tables.exec = Jvm.exec) (hb : c.code = cc) (hL : kL L A) (hC : Cx g A s s.heap) (hP : va_P g.1 vwCl (va_pl L G) H) (hS : va_S A s.heap H locs) {b n : Nat} {f : Nat → Option Nat} (hbL : b ∈ L) (hG : G b = .inl (gR g, n, .inr (.inr (.inr (.inr f))))) {v : Nat} {vs : List Value} (hv : v ∈ L) (hGv : G v = .inr (1, vs)) {i : Int32} (hin : vp_in i n) (hdg : decode cc pc = .ok (.aastore, 1))
    (kk : ∀ (H1 : Heap) (locs1 : List Loc), va_P g.1 vwCl (va_pl L (va_up G b (.inl (gR g, n, .inr (.inr (.inr (.inr (va_up f i.toNatClampNeg (some v))))))))) H1 → va_S A s.heap H1 locs1 → W p l e R s m args below meth c H1 locs1 cells slots Q (F0 m (pc + 1) ls rest)) : W p l e R s m args below meth c H locs cells slots Q (F0 m pc ls (.ref v :: .int i :: .ref b :: rest)) := by
  obtain ⟨q, hq⟩ := k_plget hbL hG
  obtain ⟨q2, hq2⟩ := k_plget hv hGv
  exact va_astq hexec hb hC.1 hP (k_plD hL G) hS q 2 q2 1 (r := (RX1, TX1, 13)) hq rfl hq2 rfl hin hdg (fun H1 locs1 h1 _ h3 => kk H1 locs1 (by rw [← k_plset hL hbL hG hq]; exact h1) h3)
theorem k_gets (hexec : p.tables.exec = Jvm.exec) (hb : c.code = cc) (hC : Cx g A s s.heap) (hS : va_S A s.heap H locs) {own : String} {index : Nat} (hown : s.vm.findClass own = some m.cls) (hlink : (Cond.fieldLink own index "OrderedClauses" "VALUES_WITH_ATOM" "[J").before args s = true) (hdg : decode cc pc = .ok (.getstatic index, 3))
    (kk : W p l e R s m args below meth c H locs cells slots Q (F0 m (pc + 3) ls (.ref (gT g) :: rest))) : W p l e R s m args below meth c H locs cells slots Q (F0 m pc ls rest) :=
  va_gets hexec hb hC.2.2.1 hS hown hlink (fun _ h => h) hdg kk
theorem k_tld (hexec : p.tables.exec = Jvm.exec) (hb : c.code = cc) (hC : Cx g A s s.heap) (hS : va_S A s.heap H locs) {i : Int32} (hin : vp_in i 6) (hdg : decode cc pc = .ok (.laload, 1))
    (kk : W p l e R s m args below meth c H locs cells slots Q (F0 m (pc + 1) ls (.long (tabv i.toNatClampNeg) :: rest))) : W p l e R s m args below meth c H locs cells slots Q (F0 m pc ls (.int i :: .ref (gT g) :: rest)) :=
  va_tl hexec hb hC.2.2.2 hS hin rfl hdg kk
theorem k_tlen (hexec : p.tables.exec = Jvm.exec) (hb : c.code = cc) (hC : Cx g A s s.heap) (hS : va_S A s.heap H locs) (hdg : decode cc pc = .ok (.arraylength, 1))
    (kk : W p l e R s m args below meth c H locs cells slots Q (F0 m (pc + 1) ls (.int 6 :: rest))) : W p l e R s m args below meth c H locs cells slots Q (F0 m pc ls (.ref (gT g) :: rest)) :=
  va_tlen hexec hb hC.2.2.2 hS rfl hdg kk
end KX
/-! an object with rows of ints (lengths as len says), maybe one row of longs, and ints -/
abbrev St : Type := (Nat → Nat → Int32) × (Nat → Int64) × (Nat → Int32)
def ownS (a : Nat) (r : Nat → Nat) (n : Nat) (q : Nat) : Prop := q = a ∨ ∃ j, j < n ∧ q = r j
/-- nothing but the object's own cells has changed -/
def frS (a : Nat) (r : Nat → Nat) (n : Nat) (G G1 : Nat → va_E) : Prop := ∀ q, ¬ ownS a r n q → G1 q = G q
theorem frS.rf {a : Nat} {r : Nat → Nat} {n : Nat} {G : Nat → va_E} : frS a r n G G := fun _ _ => rfl
theorem frS.tr {a : Nat} {r : Nat → Nat} {n : Nat} {G G1 G2 : Nat → va_E} (h1 : frS a r n G G1) (h2 : frS a r n G1 G2) : frS a r n G G2 := fun q hq => (h2 q hq).trans (h1 q hq)
def vO (g : Gm) (L : List Nat) (G : Nat → va_E) (a : Nat) (r : Nat → Nat) (ci nI n : Nat) (len : Nat → Nat) (fs : (Nat → Nat) → (Nat → Int32) → List Value) (u : St) : Prop :=
  a ∈ L ∧ G a = .inr (ci, fs r u.2.2) ∧ (∀ j, j < n → r j ∈ L ∧ r j ≠ a) ∧ (∀ i j, i < n → j < n → r i = r j → i = j) ∧ (∀ j, j < nI → G (r j) = .inl (gI g, len j, .inl (u.1 j))) ∧ (∀ j, nI ≤ j → j < n → G (r j) = .inl (gJ g, len j, .inr (.inl u.2.1)))
section VO
variable {g : Gm} {L : List Nat} {G : Nat → va_E} {a : Nat} {r : Nat → Nat} {ci nI n : Nat} {len : Nat → Nat} {fs : (Nat → Nat) → (Nat → Int32) → List Value} {f : Nat → Nat → Int32} {gg : Nat → Int64} {k : Nat → Int32}
theorem vO.m {u : St} (h : vO g L G a r ci nI n len fs u) : a ∈ L := h.1
theorem vO.o {u : St} (h : vO g L G a r ci nI n len fs u) : G a = .inr (ci, fs r u.2.2) := h.2.1
theorem vO.rm {u : St} (h : vO g L G a r ci nI n len fs u) (j : Nat) (hj : j < n) : r j ∈ L := (h.2.2.1 j hj).1
theorem vO.ri {u : St} (h : vO g L G a r ci nI n len fs u) (j : Nat) (hj : j < nI) : G (r j) = .inl (gI g, len j, .inl (u.1 j)) := h.2.2.2.2.1 j hj
theorem vO.rl {u : St} (h : vO g L G a r ci nI n len fs u) (j : Nat) (h1 : nI ≤ j) (hj : j < n) : G (r j) = .inl (gJ g, len j, .inr (.inl u.2.1)) := h.2.2.2.2.2 j h1 hj
theorem vO.setI (h : vO g L G a r ci nI n len fs (f, gg, k)) (hn : nI ≤ n) (j : Nat) (hj : j < nI) (x : Nat → Int32) : vO g L (va_up G (r j) (.inl (gI g, len j, .inl x))) a r ci nI n len fs (va_up f j x, gg, k) := by
  obtain ⟨h1, h2, h3, h4, h5, h6⟩ := h
  refine ⟨h1, ?_, h3, h4, fun i hi => ?_, fun i hi hi2 => ?_⟩
  · rw [va_up_ne _ _ (fun q => (h3 j (by omega)).2 q.symm)]; exact h2
  · by_cases e : i = j
    · subst e
      rw [va_up_self]
      show _ = Sum.inl (gI g, len i, Sum.inl (va_up f i x i))
      rw [va_up_self]
    · rw [va_up_ne _ _ (fun q => e (h4 i j (by omega) (by omega) q))]
      show _ = Sum.inl (gI g, len i, Sum.inl (va_up f j x i))
      rw [va_up_ne _ _ e]
      exact h5 i hi
  · rw [va_up_ne _ _ (fun q => by have := h4 i j hi2 (by omega) q; omega)]
    exact h6 i hi hi2
theorem vO.setL (h : vO g L G a r ci nI n len fs (f, gg, k)) (hn : n = nI + 1) (x : Nat → Int64) : vO g L (va_up G (r nI) (.inl (gJ g, len nI, .inr (.inl x)))) a r ci nI n len fs (f, x, k) := by
  obtain ⟨h1, h2, h3, h4, h5, h6⟩ := h
  refine ⟨h1, ?_, h3, h4, fun i hi => ?_, fun i hi hi2 => ?_⟩
  · rw [va_up_ne _ _ (fun q => (h3 nI (by omega)).2 q.symm)]; exact h2
  · rw [va_up_ne _ _ (fun q => by have := h4 i nI (by omega) (by omega) q; omega)]
    exact h5 i hi
  · have e : i = nI := by omega
    subst e
    rw [va_up_self]
theorem vO.setK (h : vO g L G a r ci nI n len fs (f, gg, k)) {w : List Value} {k1 : Nat → Int32} (e : fs r k1 = w) : vO g L (va_up G a (.inr (ci, w))) a r ci nI n len fs (f, gg, k1) := by
  obtain ⟨h1, h2, h3, h4, h5, h6⟩ := h
  refine ⟨h1, ?_, h3, h4, fun i hi => ?_, fun i hi hi2 => ?_⟩
  · rw [va_up_self, ← e]
  · by_cases e2 : i < n
    · rw [va_up_ne _ _ (h3 i e2).2]; exact h5 i hi
    · rw [va_up]
      split
      · rename_i q
        have := h5 i hi
        rw [q, h2] at this
        cases this
      · exact h5 i hi
  · rw [va_up_ne _ _ (h3 i hi2).2]; exact h6 i hi hi2
theorem vO.frI {G0 : Nat → va_E} (h0 : frS a r n G0 G) (j : Nat) (hj : j < n) (x : va_E) : frS a r n G0 (va_up G (r j) x) := fun q hq => by
  rw [va_up_ne _ _ (fun e => hq (Or.inr ⟨j, hj, e⟩))]
  exact h0 q hq
theorem vO.frK {G0 : Nat → va_E} (h0 : frS a r n G0 G) (x : va_E) : frS a r n G0 (va_up G a x) := fun q hq => by
  rw [va_up_ne _ _ (fun e => hq (Or.inl e))]
  exact h0 q hq
/-- the view stays where the object's own cells do -/
theorem vO.keep {u : St} (h : vO g L G a r ci nI n len fs u) (hn : nI ≤ n) {G1 : Nat → va_E} (hq : ∀ q, ownS a r n q → G1 q = G q) : vO g L G1 a r ci nI n len fs u := by
  obtain ⟨h1, h2, h3, h4, h5, h6⟩ := h
  refine ⟨h1, by rw [hq a (Or.inl rfl)]; exact h2, h3, h4, fun i hi => ?_, fun i hi hi2 => ?_⟩
  · rw [hq _ (Or.inr ⟨i, by omega, rfl⟩)]; exact h5 i hi
  · rw [hq _ (Or.inr ⟨i, hi2, rfl⟩)]; exact h6 i hi hi2
end VO
abbrev fsS (r : Nat → Nat) (k : Nat → Int32) : List Value := [.ref (r 0), .ref (r 1), .ref (r 2), .ref (r 3), .ref (r 4), .ref (r 5), .ref (r 6), .ref (r 7), .int (k 0), .int (k 1), .int (k 2), .int (k 3), .int (k 4)]
abbrev fsT (r : Nat → Nat) (k : Nat → Int32) : List Value := [.ref (r 0), .int (k 0)]
def lnS : Nat → Nat := fun j => if j = 0 then 6 else 40
def lnT : Nat → Nat := fun _ => 60
abbrev vS (g : Gm) (L : List Nat) (G : Nat → va_E) (a : Nat) (r : Nat → Nat) (u : St) : Prop := vO g L G a r 1 7 8 lnS fsS u
abbrev vT (g : Gm) (L : List Nat) (G : Nat → va_E) (a : Nat) (r : Nat → Nat) (u : St) : Prop := vO g L G a r 2 1 1 lnT fsT u
/-! rows that take the partial functions' results by name -/
def iRem (x y : Int32) : Option Int32 := if y = 0 then none else some (x - x / y * y)
def iDiv (x y : Int32) : Option Int32 := if y = 0 then none else some (x / y)
def fDv (x y : UInt32) : Option UInt32 := if FP.fdiv x y &&& 0x7fffffff ≤ 0x7f800000 then some (FP.fdiv x y) else none
def aCp {α : Type} (f : Nat → α) (n0 : Nat) (h : Nat → α) (n1 : Nat) (sp dp n : Int32) : Option (Nat → α) := if ¬ sp < 0 ∧ ¬ dp < 0 ∧ ¬ n < 0 ∧ sp.toNatClampNeg + n.toNatClampNeg ≤ n0 ∧ dp.toNatClampNeg + n.toNatClampNeg ≤ n1 then some (va_cpy f h sp.toNatClampNeg dp.toNatClampNeg n.toNatClampNeg) else none
theorem spair {α β : Type} {a c : α} {b d : β} (h : some (a, b) = some (c, d)) : a = c ∧ b = d := by cases h; exact ⟨rfl, rfl⟩
theorem ts_out {x : Int32} {n : Nat} (hn : n < 2 ^ 31) (h : ∀ j, j < n → ¬ x = nI j) : x.toInt < 0 ∨ ((n : Int) - 1) < x.toInt := by
  rcases Int.lt_or_le x.toInt 0 with q | q
  · exact Or.inl q
  · rcases Int.lt_or_le ((n : Int) - 1) x.toInt with q2 | q2
    · exact Or.inr q2
    · exfalso
      refine h x.toInt.toNat (by omega) ?_
      apply Int32.toInt_inj.mp
      rw [nI_toInt (by omega)]
      omega
section KY
variable {p : Program} {l : Launch} {e : Env} {R : Room} {s : State} {m : MethodId} {args : Array Value} {below : List Frame} {meth : Method} {c : Code} {H : Heap} {locs : List Loc} {cells slots : Nat} {Q : State → Prop} {cc : ByteArray} {pc : Nat} {ls : Array Slot} {rest st0 : List Value} {a : Array Value} {g : Gm} {L : List Nat} {A : Nat → Prop} {G : Nat → va_E}
theorem k_ildE (hexec : p.tables.exec = Jvm.exec) (hb : c.code = cc) (hC : Cx g A s s.heap) (hP : va_P g.1 vwCl (va_pl L G) H) {b n : Nat} {f : Nat → Int32} (hbL : b ∈ L) (hG : G b = .inl (gI g, n, .inl f)) {i v : Int32} (hv : aLd f n i = some v) (hdg : decode cc pc = .ok (.iaload, 1))
    (kk : W p l e R s m args below meth c H locs cells slots Q (F0 m (pc + 1) ls (.int v :: rest))) : W p l e R s m args below meth c H locs cells slots Q (F0 m pc ls (.int i :: .ref b :: rest)) := by
  obtain ⟨h1, rfl⟩ := aLd_spec hv
  exact k_ild hexec hb hC hP hbL hG h1 hdg kk
theorem k_lldE (hexec : p.tables.exec = Jvm.exec) (hb : c.code = cc) (hC : Cx g A s s.heap) (hP : va_P g.1 vwCl (va_pl L G) H) {b n : Nat} {f : Nat → Int64} (hbL : b ∈ L) (hG : G b = .inl (gJ g, n, .inr (.inl f))) {i : Int32} {v : Int64} (hv : aLd f n i = some v) (hdg : decode cc pc = .ok (.laload, 1))
    (kk : W p l e R s m args below meth c H locs cells slots Q (F0 m (pc + 1) ls (.long v :: rest))) : W p l e R s m args below meth c H locs cells slots Q (F0 m pc ls (.int i :: .ref b :: rest)) := by
  obtain ⟨h1, rfl⟩ := aLd_spec hv
  exact k_lld hexec hb hC hP hbL hG h1 hdg kk
theorem k_tldE (hexec : p.tables.exec = Jvm.exec) (hb : c.code = cc) (hC : Cx g A s s.heap) (hS : va_S A s.heap H locs) {i : Int32} {v : Int64} (hv : aLd tabv 6 i = some v) (hdg : decode cc pc = .ok (.laload, 1))
    (kk : W p l e R s m args below meth c H locs cells slots Q (F0 m (pc + 1) ls (.long v :: rest))) : W p l e R s m args below meth c H locs cells slots Q (F0 m pc ls (.int i :: .ref (gT g) :: rest)) := by
  obtain ⟨h1, rfl⟩ := aLd_spec hv
  exact k_tld hexec hb hC hS h1 hdg kk
theorem k_istE (hexec : p.tables.exec = Jvm.exec) (hb : c.code = cc) (hL : kL L A) (hC : Cx g A s s.heap) (hP : va_P g.1 vwCl (va_pl L G) H) (hS : va_S A s.heap H locs) {b n : Nat} {f y : Nat → Int32} (hbL : b ∈ L) (hG : G b = .inl (gI g, n, .inl f)) {i x : Int32} (hv : aSt f n i x = some y) (hdg : decode cc pc = .ok (.iastore, 1))
    (kk : ∀ (G1 : Nat → va_E) (H1 : Heap) (locs1 : List Loc), G1 = va_up G b (.inl (gI g, n, .inl y)) → va_P g.1 vwCl (va_pl L G1) H1 → va_S A s.heap H1 locs1 → W p l e R s m args below meth c H1 locs1 cells slots Q (F0 m (pc + 1) ls rest)) : W p l e R s m args below meth c H locs cells slots Q (F0 m pc ls (.int x :: .int i :: .ref b :: rest)) := by
  obtain ⟨h1, rfl⟩ := aSt_spec hv
  exact k_ist hexec hb hL hC hP hS hbL hG h1 hdg (fun H1 locs1 hP1 hS1 => kk _ H1 locs1 rfl hP1 hS1)
theorem k_lstE (hexec : p.tables.exec = Jvm.exec) (hb : c.code = cc) (hL : kL L A) (hC : Cx g A s s.heap) (hP : va_P g.1 vwCl (va_pl L G) H) (hS : va_S A s.heap H locs) {b n : Nat} {f y : Nat → Int64} (hbL : b ∈ L) (hG : G b = .inl (gJ g, n, .inr (.inl f))) {i : Int32} {x : Int64} (hv : aStL f n i x = some y) (hdg : decode cc pc = .ok (.lastore, 1))
    (kk : ∀ (G1 : Nat → va_E) (H1 : Heap) (locs1 : List Loc), G1 = va_up G b (.inl (gJ g, n, .inr (.inl y))) → va_P g.1 vwCl (va_pl L G1) H1 → va_S A s.heap H1 locs1 → W p l e R s m args below meth c H1 locs1 cells slots Q (F0 m (pc + 1) ls rest)) : W p l e R s m args below meth c H locs cells slots Q (F0 m pc ls (.long x :: .int i :: .ref b :: rest)) := by
  obtain ⟨h1, rfl⟩ := aStL_spec hv
  exact k_lst hexec hb hL hC hP hS hbL hG h1 hdg (fun H1 locs1 hP1 hS1 => kk _ H1 locs1 rfl hP1 hS1)
theorem k_putE (hexec : p.tables.exec = Jvm.exec) (hb : c.code = cc) {own C : String} {T : u_T} {N ci index : Nat} {Ts : List Cond} (hts : ∀ w ∈ Ts, w.before args s = true) (hin : ∀ w ∈ u_ws C T N, w ∈ Ts) (ty0 : Nat → FieldType) (hty : ∀ k, k < N → parseFieldDescriptor (T k).2.2.1 = some (ty0 k)) (hnm : ∀ a, a < N → ∀ b, b < N → a ≠ b → (T a).2.1 ≠ (T b).2.1) (hown : s.vm.findClass own = some m.cls) (hL : kL L A) (hC : Cx g A s s.heap) (hP : va_P g.1 vwCl (va_pl L G) H) (hS : va_S A s.heap H locs) {b : Nat} {fs : List Value} (hbL : b ∈ L) (hG : G b = .inr (ci, fs)) (hc : vwCl[ci]? = some (C, T, N)) (k : Nat) (hk : k < N) (hlink : (Cond.fieldLink own index (T k).1 (T k).2.1 (T k).2.2.1).before args s = true) (hfin : (T k).2.2.2 = false) {v : Int32} (hd : parseFieldDescriptor (T k).2.2.1 = some .int) (hl : k < fs.length) (hdg : decode cc pc = .ok (.putfield index, 3))
    (kk : ∀ (G1 : Nat → va_E) (H1 : Heap) (locs1 : List Loc), G1 = va_up G b (.inr (ci, fs.set k (.int v))) → va_P g.1 vwCl (va_pl L G1) H1 → va_S A s.heap H1 locs1 → W p l e R s m args below meth c H1 locs1 cells slots Q (F0 m (pc + 3) ls rest)) : W p l e R s m args below meth c H locs cells slots Q (F0 m pc ls (.int v :: .ref b :: rest)) :=
  k_put hexec hb hts hin ty0 hty hnm hown hL hC hP hS hbL hG hc k hk hlink hfin (v := .int v) hd rfl rfl hl hdg (fun H1 locs1 hP1 hS1 => kk _ H1 locs1 rfl hP1 hS1)
theorem k_putNE (hexec : p.tables.exec = Jvm.exec) (hb : c.code = cc) {own C host : String} {T : u_T} {N ci index : Nat} {Ts : List Cond} (hts : ∀ w ∈ Ts, w.before args s = true) (hin : ∀ w ∈ u_ws C T N, w ∈ Ts) (ty0 : Nat → FieldType) (hty : ∀ k, k < N → parseFieldDescriptor (T k).2.2.1 = some (ty0 k)) (hnm : ∀ a, a < N → ∀ b, b < N → a ≠ b → (T a).2.1 ≠ (T b).2.1) (hown : s.vm.findClass own = some m.cls) (hL : kL L A) (hC : Cx g A s s.heap) (hP : va_P g.1 vwCl (va_pl L G) H) (hS : va_S A s.heap H locs) {b : Nat} {fs : List Value} (hbL : b ∈ L) (hG : G b = .inr (ci, fs)) (hc : vwCl[ci]? = some (C, T, N)) (k : Nat) (hk : k < N) (hlink : va_Nw (.fieldLinkNest own index (T k).1 (T k).2.1 (T k).2.2.1 host) s) (hfin : (T k).2.2.2 = false) {v : Int32} (hd : parseFieldDescriptor (T k).2.2.1 = some .int) (hl : k < fs.length) (hdg : decode cc pc = .ok (.putfield index, 3))
    (kk : ∀ (G1 : Nat → va_E) (H1 : Heap) (locs1 : List Loc), G1 = va_up G b (.inr (ci, fs.set k (.int v))) → va_P g.1 vwCl (va_pl L G1) H1 → va_S A s.heap H1 locs1 → W p l e R s m args below meth c H1 locs1 cells slots Q (F0 m (pc + 3) ls rest)) : W p l e R s m args below meth c H locs cells slots Q (F0 m pc ls (.int v :: .ref b :: rest)) :=
  k_putN hexec hb hts hin ty0 hty hnm hown hL hC hP hS hbL hG hc k hk hlink hfin (v := .int v) hd rfl rfl hl hdg (fun H1 locs1 hP1 hS1 => kk _ H1 locs1 rfl hP1 hS1)
theorem lv_iremE (hexec : p.tables.exec = Jvm.exec) (hb : c.code = cc) {x y v : Int32} (hdg : decode cc pc = .ok (.irem, 1)) (hv : iRem x y = some v) (k : W p l e R s m args below meth c H locs cells slots Q (F0 m (pc + 1) ls (.int v :: rest))) : W p l e R s m args below meth c H locs cells slots Q (F0 m pc ls (.int y :: .int x :: rest)) := by
  unfold iRem at hv
  split at hv
  · cases hv
  · rename_i h
    obtain rfl := Option.some.inj hv
    exact lv_irem hexec hb hdg h k
theorem lv_idivE (hexec : p.tables.exec = Jvm.exec) (hb : c.code = cc) {x y v : Int32} (hdg : decode cc pc = .ok (.idiv, 1)) (hv : iDiv x y = some v) (k : W p l e R s m args below meth c H locs cells slots Q (F0 m (pc + 1) ls (.int v :: rest))) : W p l e R s m args below meth c H locs cells slots Q (F0 m pc ls (.int y :: .int x :: rest)) := by
  unfold iDiv at hv
  split at hv
  · cases hv
  · rename_i h
    obtain rfl := Option.some.inj hv
    exact lv_idiv hexec hb hdg h k
theorem lv_fdivE (hexec : p.tables.exec = Jvm.exec) (hb : c.code = cc) {x y v : UInt32} (hdg : decode cc pc = .ok (.fdiv, 1)) (hv : fDv x y = some v) (k : W p l e R s m args below meth c H locs cells slots Q (F0 m (pc + 1) ls (.float v :: rest))) : W p l e R s m args below meth c H locs cells slots Q (F0 m pc ls (.float y :: .float x :: rest)) := by
  unfold fDv at hv
  split at hv
  · rename_i h
    obtain rfl := Option.some.inj hv
    exact lv_fdiv hexec hb hdg h k
  · cases hv
theorem k_iR {rv : Int32} (hS : va_S A s.heap H locs) (hr : va_Run p l e R s m args below meth c H locs cells slots 0 0 (F0 m pc ls st0) rest (va_Qi (fun x (G1 : Nat → va_E) => x = rv ∧ G1 = G) (kE g L) A a) A) (kk : ∀ (H1 : Heap) (locs1 : List Loc), va_P g.1 vwCl (va_pl L G) H1 → va_S A s.heap H1 locs1 → W p l e R s m args below meth c H1 locs1 cells slots Q (F0 m (pc + 3) ls (.int rv :: rest))) : W p l e R s m args below meth c H locs cells slots Q (F0 m pc ls st0) :=
  k_i hS hr (fun r G1 H1 locs1 hq hP1 hS1 => by obtain ⟨rfl, rfl⟩ := hq; exact kk H1 locs1 hP1 hS1)
theorem k_lR {rv : Int64} (hS : va_S A s.heap H locs) (hr : va_Run p l e R s m args below meth c H locs cells slots 0 0 (F0 m pc ls st0) rest (va_Ql (fun x (G1 : Nat → va_E) => x = rv ∧ G1 = G) (kE g L) A a) A) (kk : ∀ (H1 : Heap) (locs1 : List Loc), va_P g.1 vwCl (va_pl L G) H1 → va_S A s.heap H1 locs1 → W p l e R s m args below meth c H1 locs1 cells slots Q (F0 m (pc + 3) ls (.long rv :: rest))) : W p l e R s m args below meth c H locs cells slots Q (F0 m pc ls st0) :=
  k_l hS hr (fun r G1 H1 locs1 hq hP1 hS1 => by obtain ⟨rfl, rfl⟩ := hq; exact kk H1 locs1 hP1 hS1)
theorem k_iW {rv : Int32} {P : (Nat → va_E) → Prop} (hS : va_S A s.heap H locs) (hr : va_Run p l e R s m args below meth c H locs cells slots 0 0 (F0 m pc ls st0) rest (va_Qi (fun x (G1 : Nat → va_E) => x = rv ∧ P G1) (kE g L) A a) A) (kk : ∀ (G1 : Nat → va_E) (H1 : Heap) (locs1 : List Loc), P G1 → va_P g.1 vwCl (va_pl L G1) H1 → va_S A s.heap H1 locs1 → W p l e R s m args below meth c H1 locs1 cells slots Q (F0 m (pc + 3) ls (.int rv :: rest))) : W p l e R s m args below meth c H locs cells slots Q (F0 m pc ls st0) :=
  k_i hS hr (fun r G1 H1 locs1 hq hP1 hS1 => by obtain ⟨rfl, hq⟩ := hq; exact kk G1 H1 locs1 hq hP1 hS1)
theorem k_iretR (hexec : p.tables.exec = Jvm.exec) (hb : c.code = cc) (hr : meth.sig.returnType = some .int) {v rv : Int32} (hE : v = rv) (hP : va_P g.1 vwCl (va_pl L G) H) (hS : va_S A s.heap H locs) (hlocks : meth.locks = false) (hdg : decode cc pc = .ok (.ireturn, 1)) : W p l e R s m args below meth c H locs cells slots (MQ below (va_Qi (fun x (G1 : Nat → va_E) => x = rv ∧ G1 = G) (kE g L) A) args s cells slots A) (F0 m pc ls [.int v]) :=
  W.iret (v := v) hexec hb hr (fun t ht _ => ⟨⟨v, G, rfl, ⟨hE, rfl⟩, by show va_P _ _ _ t.heap; rw [ht]; exact hP⟩, hS.F ht⟩) hS.2.2 hdg hlocks
theorem k_zretR (hexec : p.tables.exec = Jvm.exec) (hb : c.code = cc) (hr : meth.sig.returnType = some .boolean) {v rv : Int32} (hn : narrow .boolean (.int v) = .int v) (hE : v = rv) (hP : va_P g.1 vwCl (va_pl L G) H) (hS : va_S A s.heap H locs) (hlocks : meth.locks = false) (hdg : decode cc pc = .ok (.ireturn, 1)) : W p l e R s m args below meth c H locs cells slots (MQ below (va_Qi (fun x (G1 : Nat → va_E) => x = rv ∧ G1 = G) (kE g L) A) args s cells slots A) (F0 m pc ls [.int v]) :=
  W.zret (v := v) hexec hb hr hn (fun t ht _ => ⟨⟨v, G, rfl, ⟨hE, rfl⟩, by show va_P _ _ _ t.heap; rw [ht]; exact hP⟩, hS.F ht⟩) hS.2.2 hdg hlocks
theorem k_lretR (hexec : p.tables.exec = Jvm.exec) (hb : c.code = cc) (hr : meth.sig.returnType = some .long) {v rv : Int64} (hE : v = rv) (hP : va_P g.1 vwCl (va_pl L G) H) (hS : va_S A s.heap H locs) (hlocks : meth.locks = false) (hdg : decode cc pc = .ok (.lreturn, 1)) : W p l e R s m args below meth c H locs cells slots (MQ below (va_Ql (fun x (G1 : Nat → va_E) => x = rv ∧ G1 = G) (kE g L) A) args s cells slots A) (F0 m pc ls [.long v]) :=
  W.lret (v := v) hexec hb hr (fun t ht _ => ⟨⟨v, G, rfl, ⟨hE, rfl⟩, by show va_P _ _ _ t.heap; rw [ht]; exact hP⟩, hS.F ht⟩) hS.2.2 hdg hlocks
theorem k_iretW (hexec : p.tables.exec = Jvm.exec) (hb : c.code = cc) (hr : meth.sig.returnType = some .int) {v rv : Int32} {P : (Nat → va_E) → Prop} (hE : v = rv) (hQ : P G) (hP : va_P g.1 vwCl (va_pl L G) H) (hS : va_S A s.heap H locs) (hlocks : meth.locks = false) (hdg : decode cc pc = .ok (.ireturn, 1)) : W p l e R s m args below meth c H locs cells slots (MQ below (va_Qi (fun x (G1 : Nat → va_E) => x = rv ∧ P G1) (kE g L) A) args s cells slots A) (F0 m pc ls [.int v]) :=
  W.iret (v := v) hexec hb hr (fun t ht _ => ⟨⟨v, G, rfl, ⟨hE, hQ⟩, by show va_P _ _ _ t.heap; rw [ht]; exact hP⟩, hS.F ht⟩) hS.2.2 hdg hlocks
theorem k_zretW (hexec : p.tables.exec = Jvm.exec) (hb : c.code = cc) (hr : meth.sig.returnType = some .boolean) {v rv : Int32} {P : (Nat → va_E) → Prop} (hn : narrow .boolean (.int v) = .int v) (hE : v = rv) (hQ : P G) (hP : va_P g.1 vwCl (va_pl L G) H) (hS : va_S A s.heap H locs) (hlocks : meth.locks = false) (hdg : decode cc pc = .ok (.ireturn, 1)) : W p l e R s m args below meth c H locs cells slots (MQ below (va_Qi (fun x (G1 : Nat → va_E) => x = rv ∧ P G1) (kE g L) A) args s cells slots A) (F0 m pc ls [.int v]) :=
  W.zret (v := v) hexec hb hr hn (fun t ht _ => ⟨⟨v, G, rfl, ⟨hE, hQ⟩, by show va_P _ _ _ t.heap; rw [ht]; exact hP⟩, hS.F ht⟩) hS.2.2 hdg hlocks
theorem k_vretW (hexec : p.tables.exec = Jvm.exec) (hb : c.code = cc) (hr : meth.sig.returnType = none) {P : (Nat → va_E) → Prop} (hQ : P G) (hP : va_P g.1 vwCl (va_pl L G) H) (hS : va_S A s.heap H locs) (hlocks : meth.locks = false) (hdg : decode cc pc = .ok (.return_, 1)) : W p l e R s m args below meth c H locs cells slots (MQ below (va_Qv P (kE g L) A) args s cells slots A) (F0 m pc ls []) :=
  W.vret hexec hb hr (fun t ht _ => ⟨⟨G, rfl, hQ, by show va_P _ _ _ t.heap; rw [ht]; exact hP⟩, hS.F ht⟩) hS.2.2 hdg hlocks
end KY
theorem up_id {G : Nat → va_E} {a : Nat} {e : va_E} (h : G a = e) : G = va_up G a e := by
  funext q
  by_cases hq : q = a
  · subst hq
    rw [va_up_self, h]
  · rw [va_up_ne _ _ hq]
def fuel : Nat := 2000
section KZ
variable {p : Program} {l : Launch} {e : Env} {R : Room} {s : State} {m : MethodId} {args : Array Value} {below : List Frame} {meth : Method} {c : Code} {H : Heap} {locs : List Loc} {cells slots : Nat} {Q : State → Prop} {cc : ByteArray} {pc : Nat} {ls : Array Slot} {rest st0 : List Value} {a : Array Value} {g : Gm} {L : List Nat} {A : Nat → Prop} {G : Nat → va_E}
theorem k_cpi (hexec : p.tables.exec = Jvm.exec) (hb : c.code = cc) (hml : c.maxLocals = ls.size) {own : String} {index : Nat} (hown : s.vm.findClass own = some m.cls) (hlink : (Cond.methodLink own index arraycopyName).before args s = true) (hnat : (Cond.native arraycopyName).before args s = true) (hstat : (Cond.static arraycopyName).before args s = true) (hini : (Cond.initialized "java/lang/System").before args s = true) (hL : kL L A) (hC : Cx g A s s.heap) (hP : va_P g.1 vwCl (va_pl L G) H) (hS : va_S A s.heap H locs) {b0 b n0 n1 : Nat} {f h y : Nat → Int32} (hm0 : b0 ∈ L) (hG0 : G b0 = .inl (gI g, n0, .inl f)) (hm1 : b ∈ L) (hG1 : G b = .inl (gI g, n1, .inl h)) {sp dp n : Int32} (hv : aCp f n0 h n1 sp dp n = some y) (hframes : 1 ≤ R.frames) (hlocals : (rest.map fun v => v.category).sum + (nativeFrameWords "java/lang/System" "arraycopy" 5 + 11) ≤ R.locals) (hdg : decode cc pc = .ok (.invokestatic index, 3))
    (kk : ∀ (G1 : Nat → va_E) (H1 : Heap) (locs1 : List Loc), G1 = va_up G b (.inl (gI g, n1, .inl y)) → va_P g.1 vwCl (va_pl L G1) H1 → va_S A s.heap H1 locs1 → W p l e R s m args below meth c H1 locs1 cells slots Q (F0 m (pc + 3) ls rest)) : W p l e R s m args below meth c H locs cells slots Q (F0 m pc ls (.int n :: .int dp :: .ref b :: .int sp :: .ref b0 :: rest)) := by
  unfold aCp at hv
  split at hv
  · rename_i hc
    obtain ⟨h1, h2, h3, h4, h5⟩ := hc
    obtain rfl := Option.some.inj hv
    obtain ⟨q0, hq0⟩ := k_plget hm0 hG0
    obtain ⟨q, hq⟩ := k_plget hm1 hG1
    exact va_copyi hexec hb hml hown hlink hnat hstat hini hC.1 hP (k_plD hL G) hS q0 q 0 0 (ty := .int) hq0 hq rfl rfl rfl h1 h2 h3 h4 h5 (fun _ _ => rfl) hframes hlocals hdg (fun H1 locs1 hP1 _ hS1 => kk _ H1 locs1 rfl (by rw [← k_plset hL hm1 hG1 hq]; exact hP1) hS1)
  · cases hv
theorem k_cpl (hexec : p.tables.exec = Jvm.exec) (hb : c.code = cc) (hml : c.maxLocals = ls.size) {own : String} {index : Nat} (hown : s.vm.findClass own = some m.cls) (hlink : (Cond.methodLink own index arraycopyName).before args s = true) (hnat : (Cond.native arraycopyName).before args s = true) (hstat : (Cond.static arraycopyName).before args s = true) (hini : (Cond.initialized "java/lang/System").before args s = true) (hL : kL L A) (hC : Cx g A s s.heap) (hP : va_P g.1 vwCl (va_pl L G) H) (hS : va_S A s.heap H locs) {b0 b n0 n1 : Nat} {f h y : Nat → Int64} (hm0 : b0 ∈ L) (hG0 : G b0 = .inl (gJ g, n0, .inr (.inl f))) (hm1 : b ∈ L) (hG1 : G b = .inl (gJ g, n1, .inr (.inl h))) {sp dp n : Int32} (hv : aCp f n0 h n1 sp dp n = some y) (hframes : 1 ≤ R.frames) (hlocals : (rest.map fun v => v.category).sum + (nativeFrameWords "java/lang/System" "arraycopy" 5 + 11) ≤ R.locals) (hdg : decode cc pc = .ok (.invokestatic index, 3))
    (kk : ∀ (G1 : Nat → va_E) (H1 : Heap) (locs1 : List Loc), G1 = va_up G b (.inl (gJ g, n1, .inr (.inl y))) → va_P g.1 vwCl (va_pl L G1) H1 → va_S A s.heap H1 locs1 → W p l e R s m args below meth c H1 locs1 cells slots Q (F0 m (pc + 3) ls rest)) : W p l e R s m args below meth c H locs cells slots Q (F0 m pc ls (.int n :: .int dp :: .ref b :: .int sp :: .ref b0 :: rest)) := by
  unfold aCp at hv
  split at hv
  · rename_i hc
    obtain ⟨h1, h2, h3, h4, h5⟩ := hc
    obtain rfl := Option.some.inj hv
    obtain ⟨q0, hq0⟩ := k_plget hm0 hG0
    obtain ⟨q, hq⟩ := k_plget hm1 hG1
    exact va_copyl hexec hb hml hown hlink hnat hstat hini hC.1 hP (k_plD hL G) hS q0 q 1 1 (ty := .long) hq0 hq rfl rfl rfl h1 h2 h3 h4 h5 (fun _ _ => rfl) hframes hlocals hdg (fun H1 locs1 hP1 _ hS1 => kk _ H1 locs1 rfl (by rw [← k_plset hL hm1 hG1 hq]; exact hP1) hS1)
  · cases hv
end KZ
end
