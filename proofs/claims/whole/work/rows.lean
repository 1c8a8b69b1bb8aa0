section
-- ===== PART A: goes FIRST, ahead of the names: the tables' words, and 'selects' of the private methods out of them =====
/-- a private method of a class that the tables say can be made, by its rows of tables_1 -/
def lw_okq (q : MethodName × Nat) : Prop := (q.1.cls ≠ "java/lang/invoke/MethodHandle" ∧ q.1.cls ≠ "java/lang/invoke/VarHandle") ∧ Cond.instantiable q.1.cls q.2 ∈ tables_1 ∧ Cond.privateMethod q.1 ∈ tables_1 ∧ Cond.instanceMethod q.1 ∈ tables_1
theorem lw_p0 : lw_okq (⟨"OrderedClauses$History", "putAside", "(LOrderedClauses$Store;)V"⟩, 2) := ⟨⟨by decide +kernel, by decide +kernel⟩, List.mem_of_getElem? (i := 82) (by decide +kernel), List.mem_of_getElem? (i := 129) (by decide +kernel), List.mem_of_getElem? (i := 130) (by decide +kernel)⟩
theorem lw_p1 : lw_okq (⟨"OrderedClauses$History", "stateAt", "(I)LOrderedClauses$Store;"⟩, 2) := ⟨⟨by decide +kernel, by decide +kernel⟩, List.mem_of_getElem? (i := 82) (by decide +kernel), List.mem_of_getElem? (i := 133) (by decide +kernel), List.mem_of_getElem? (i := 134) (by decide +kernel)⟩
theorem lw_p2 : lw_okq (⟨"OrderedClauses$Store", "copyFrom", "(LOrderedClauses$Store;)V"⟩, 13) := ⟨⟨by decide +kernel, by decide +kernel⟩, List.mem_of_getElem? (i := 20) (by decide +kernel), List.mem_of_getElem? (i := 137) (by decide +kernel), List.mem_of_getElem? (i := 138) (by decide +kernel)⟩
theorem lw_p3 : lw_okq (⟨"OrderedClauses$Store", "bring", "(IIII)I"⟩, 13) := ⟨⟨by decide +kernel, by decide +kernel⟩, List.mem_of_getElem? (i := 20) (by decide +kernel), List.mem_of_getElem? (i := 153) (by decide +kernel), List.mem_of_getElem? (i := 154) (by decide +kernel)⟩
theorem lw_p4 : lw_okq (⟨"OrderedClauses$Store", "hasAnotherWithin", "(I)Z"⟩, 13) := ⟨⟨by decide +kernel, by decide +kernel⟩, List.mem_of_getElem? (i := 20) (by decide +kernel), List.mem_of_getElem? (i := 160) (by decide +kernel), List.mem_of_getElem? (i := 161) (by decide +kernel)⟩
theorem lw_p5 : lw_okq (⟨"OrderedClauses$Store", "isDropped", "(I)Z"⟩, 13) := ⟨⟨by decide +kernel, by decide +kernel⟩, List.mem_of_getElem? (i := 20) (by decide +kernel), List.mem_of_getElem? (i := 164) (by decide +kernel), List.mem_of_getElem? (i := 165) (by decide +kernel)⟩
theorem lw_p6 : lw_okq (⟨"OrderedClauses$Store", "dropAllAround", "(I)V"⟩, 13) := ⟨⟨by decide +kernel, by decide +kernel⟩, List.mem_of_getElem? (i := 20) (by decide +kernel), List.mem_of_getElem? (i := 175) (by decide +kernel), List.mem_of_getElem? (i := 176) (by decide +kernel)⟩
theorem lw_p7 : lw_okq (⟨"OrderedClauses$Store", "takeIn", "(IIII)I"⟩, 13) := ⟨⟨by decide +kernel, by decide +kernel⟩, List.mem_of_getElem? (i := 20) (by decide +kernel), List.mem_of_getElem? (i := 179) (by decide +kernel), List.mem_of_getElem? (i := 180) (by decide +kernel)⟩
theorem lw_p8 : lw_okq (⟨"OrderedClauses", "settle", "(I)I"⟩, 3) := ⟨⟨by decide +kernel, by decide +kernel⟩, List.mem_of_getElem? (i := 12) (by decide +kernel), List.mem_of_getElem? (i := 198) (by decide +kernel), List.mem_of_getElem? (i := 199) (by decide +kernel)⟩
theorem lw_p9 : lw_okq (⟨"OrderedClauses$History", "takeBack", "(LOrderedClauses$Store;)V"⟩, 2) := ⟨⟨by decide +kernel, by decide +kernel⟩, List.mem_of_getElem? (i := 82) (by decide +kernel), List.mem_of_getElem? (i := 202) (by decide +kernel), List.mem_of_getElem? (i := 203) (by decide +kernel)⟩
theorem lw_p10 : lw_okq (⟨"OrderedClauses$History", "keep", "()V"⟩, 2) := ⟨⟨by decide +kernel, by decide +kernel⟩, List.mem_of_getElem? (i := 82) (by decide +kernel), List.mem_of_getElem? (i := 206) (by decide +kernel), List.mem_of_getElem? (i := 207) (by decide +kernel)⟩
theorem lw_p11 : lw_okq (⟨"OrderedClauses$History", "dropOldest", "()V"⟩, 2) := ⟨⟨by decide +kernel, by decide +kernel⟩, List.mem_of_getElem? (i := 82) (by decide +kernel), List.mem_of_getElem? (i := 210) (by decide +kernel), List.mem_of_getElem? (i := 211) (by decide +kernel)⟩
theorem lw_p12 : lw_okq (⟨"OrderedClauses$Store", "changeRank", "(II)I"⟩, 13) := ⟨⟨by decide +kernel, by decide +kernel⟩, List.mem_of_getElem? (i := 20) (by decide +kernel), List.mem_of_getElem? (i := 218) (by decide +kernel), List.mem_of_getElem? (i := 219) (by decide +kernel)⟩
theorem lw_p13 : lw_okq (⟨"OrderedClauses$Store", "rankOf", "(I)I"⟩, 13) := ⟨⟨by decide +kernel, by decide +kernel⟩, List.mem_of_getElem? (i := 20) (by decide +kernel), List.mem_of_getElem? (i := 222) (by decide +kernel), List.mem_of_getElem? (i := 223) (by decide +kernel)⟩
theorem lw_p14 : lw_okq (⟨"OrderedClauses$Store", "takeStep", "()I"⟩, 13) := ⟨⟨by decide +kernel, by decide +kernel⟩, List.mem_of_getElem? (i := 20) (by decide +kernel), List.mem_of_getElem? (i := 234) (by decide +kernel), List.mem_of_getElem? (i := 235) (by decide +kernel)⟩
theorem lw_p15 : lw_okq (⟨"OrderedClauses$Store", "emptyClause", "()I"⟩, 13) := ⟨⟨by decide +kernel, by decide +kernel⟩, List.mem_of_getElem? (i := 20) (by decide +kernel), List.mem_of_getElem? (i := 238) (by decide +kernel), List.mem_of_getElem? (i := 239) (by decide +kernel)⟩
def lw_privs_1 : List (MethodName × Nat) := [(⟨"OrderedClauses$History", "putAside", "(LOrderedClauses$Store;)V"⟩, 2), (⟨"OrderedClauses$History", "stateAt", "(I)LOrderedClauses$Store;"⟩, 2), (⟨"OrderedClauses$Store", "copyFrom", "(LOrderedClauses$Store;)V"⟩, 13), (⟨"OrderedClauses$Store", "bring", "(IIII)I"⟩, 13), (⟨"OrderedClauses$Store", "hasAnotherWithin", "(I)Z"⟩, 13), (⟨"OrderedClauses$Store", "isDropped", "(I)Z"⟩, 13), (⟨"OrderedClauses$Store", "dropAllAround", "(I)V"⟩, 13), (⟨"OrderedClauses$Store", "takeIn", "(IIII)I"⟩, 13), (⟨"OrderedClauses", "settle", "(I)I"⟩, 3), (⟨"OrderedClauses$History", "takeBack", "(LOrderedClauses$Store;)V"⟩, 2), (⟨"OrderedClauses$History", "keep", "()V"⟩, 2), (⟨"OrderedClauses$History", "dropOldest", "()V"⟩, 2), (⟨"OrderedClauses$Store", "changeRank", "(II)I"⟩, 13), (⟨"OrderedClauses$Store", "rankOf", "(I)I"⟩, 13), (⟨"OrderedClauses$Store", "takeStep", "()I"⟩, 13), (⟨"OrderedClauses$Store", "emptyClause", "()I"⟩, 13)]
theorem lw_r1 : ∀ q ∈ lw_privs_1, lw_okq q := List.forall_mem_cons.mpr ⟨lw_p0, List.forall_mem_cons.mpr ⟨lw_p1, List.forall_mem_cons.mpr ⟨lw_p2, List.forall_mem_cons.mpr ⟨lw_p3, List.forall_mem_cons.mpr ⟨lw_p4, List.forall_mem_cons.mpr ⟨lw_p5, List.forall_mem_cons.mpr ⟨lw_p6, List.forall_mem_cons.mpr ⟨lw_p7, List.forall_mem_cons.mpr ⟨lw_p8, List.forall_mem_cons.mpr ⟨lw_p9, List.forall_mem_cons.mpr ⟨lw_p10, List.forall_mem_cons.mpr ⟨lw_p11, List.forall_mem_cons.mpr ⟨lw_p12, List.forall_mem_cons.mpr ⟨lw_p13, List.forall_mem_cons.mpr ⟨lw_p14, List.forall_mem_cons.mpr ⟨lw_p15, fun _ h => absurd h List.not_mem_nil⟩⟩⟩⟩⟩⟩⟩⟩⟩⟩⟩⟩⟩⟩⟩⟩
theorem lw_p16 : lw_okq (⟨"OrderedClauses$Store", "nextChoice", "()I"⟩, 13) := ⟨⟨by decide +kernel, by decide +kernel⟩, List.mem_of_getElem? (i := 20) (by decide +kernel), List.mem_of_getElem? (i := 242) (by decide +kernel), List.mem_of_getElem? (i := 243) (by decide +kernel)⟩
theorem lw_p17 : lw_okq (⟨"OrderedClauses$Store", "resolveWithDone", "(I)Z"⟩, 13) := ⟨⟨by decide +kernel, by decide +kernel⟩, List.mem_of_getElem? (i := 20) (by decide +kernel), List.mem_of_getElem? (i := 253) (by decide +kernel), List.mem_of_getElem? (i := 254) (by decide +kernel)⟩
theorem lw_p18 : lw_okq (⟨"OrderedClauses$Store", "greatestOf", "(I)I"⟩, 13) := ⟨⟨by decide +kernel, by decide +kernel⟩, List.mem_of_getElem? (i := 20) (by decide +kernel), List.mem_of_getElem? (i := 257) (by decide +kernel), List.mem_of_getElem? (i := 258) (by decide +kernel)⟩
theorem lw_p19 : lw_okq (⟨"OrderedClauses$Store", "has", "(I)Z"⟩, 13) := ⟨⟨by decide +kernel, by decide +kernel⟩, List.mem_of_getElem? (i := 20) (by decide +kernel), List.mem_of_getElem? (i := 276) (by decide +kernel), List.mem_of_getElem? (i := 277) (by decide +kernel)⟩
theorem lw_p20 : lw_okq (⟨"OrderedClauses$Store", "howManyLessThan", "(I)I"⟩, 13) := ⟨⟨by decide +kernel, by decide +kernel⟩, List.mem_of_getElem? (i := 20) (by decide +kernel), List.mem_of_getElem? (i := 287) (by decide +kernel), List.mem_of_getElem? (i := 288) (by decide +kernel)⟩
theorem lw_p21 : lw_okq (⟨"OrderedClauses$Store", "isLess", "(II)Z"⟩, 13) := ⟨⟨by decide +kernel, by decide +kernel⟩, List.mem_of_getElem? (i := 20) (by decide +kernel), List.mem_of_getElem? (i := 291) (by decide +kernel), List.mem_of_getElem? (i := 292) (by decide +kernel)⟩
theorem lw_p22 : lw_okq (⟨"OrderedClauses$Store", "treeOf", "(I)J"⟩, 13) := ⟨⟨by decide +kernel, by decide +kernel⟩, List.mem_of_getElem? (i := 20) (by decide +kernel), List.mem_of_getElem? (i := 302) (by decide +kernel), List.mem_of_getElem? (i := 303) (by decide +kernel)⟩
theorem lw_p23 : lw_okq (⟨"OrderedClauses$Store", "mostLiterals", "(J)I"⟩, 13) := ⟨⟨by decide +kernel, by decide +kernel⟩, List.mem_of_getElem? (i := 20) (by decide +kernel), List.mem_of_getElem? (i := 314) (by decide +kernel), List.mem_of_getElem? (i := 315) (by decide +kernel)⟩
theorem lw_p24 : lw_okq (⟨"OrderedClauses$Store", "toldClauses", "()J"⟩, 13) := ⟨⟨by decide +kernel, by decide +kernel⟩, List.mem_of_getElem? (i := 20) (by decide +kernel), List.mem_of_getElem? (i := 327) (by decide +kernel), List.mem_of_getElem? (i := 328) (by decide +kernel)⟩
theorem lw_p25 : lw_okq (⟨"OrderedClauses$Store", "wasTold", "(I)Z"⟩, 13) := ⟨⟨by decide +kernel, by decide +kernel⟩, List.mem_of_getElem? (i := 20) (by decide +kernel), List.mem_of_getElem? (i := 331) (by decide +kernel), List.mem_of_getElem? (i := 332) (by decide +kernel)⟩
theorem lw_p26 : lw_okq (⟨"OrderedClauses$Store", "valuesFulfilling", "(J)J"⟩, 13) := ⟨⟨by decide +kernel, by decide +kernel⟩, List.mem_of_getElem? (i := 20) (by decide +kernel), List.mem_of_getElem? (i := 335) (by decide +kernel), List.mem_of_getElem? (i := 336) (by decide +kernel)⟩
theorem lw_p27 : lw_okq (⟨"OrderedClauses$Store", "clausesBrokenBy", "(I)J"⟩, 13) := ⟨⟨by decide +kernel, by decide +kernel⟩, List.mem_of_getElem? (i := 20) (by decide +kernel), List.mem_of_getElem? (i := 356) (by decide +kernel), List.mem_of_getElem? (i := 357) (by decide +kernel)⟩
theorem lw_p28 : lw_okq (⟨"OrderedClauses$Store", "fewestUnfulfillable", "(J)J"⟩, 13) := ⟨⟨by decide +kernel, by decide +kernel⟩, List.mem_of_getElem? (i := 20) (by decide +kernel), List.mem_of_getElem? (i := 364) (by decide +kernel), List.mem_of_getElem? (i := 365) (by decide +kernel)⟩
theorem lw_p29 : lw_okq (⟨"OrderedClauses$Store", "howMany", "(I)I"⟩, 13) := ⟨⟨by decide +kernel, by decide +kernel⟩, List.mem_of_getElem? (i := 20) (by decide +kernel), List.mem_of_getElem? (i := 387) (by decide +kernel), List.mem_of_getElem? (i := 388) (by decide +kernel)⟩
theorem lw_p30 : lw_okq (⟨"OrderedClauses$History", "restoreLatest", "(LOrderedClauses$Store;)Z"⟩, 2) := ⟨⟨by decide +kernel, by decide +kernel⟩, List.mem_of_getElem? (i := 82) (by decide +kernel), List.mem_of_getElem? (i := 396) (by decide +kernel), List.mem_of_getElem? (i := 397) (by decide +kernel)⟩
theorem lw_p31 : lw_okq (⟨"OrderedClauses$Text", "add", "(I)Z"⟩, 2) := ⟨⟨by decide +kernel, by decide +kernel⟩, List.mem_of_getElem? (i := 99) (by decide +kernel), List.mem_of_getElem? (i := 404) (by decide +kernel), List.mem_of_getElem? (i := 405) (by decide +kernel)⟩
def lw_privs_2 : List (MethodName × Nat) := [(⟨"OrderedClauses$Store", "nextChoice", "()I"⟩, 13), (⟨"OrderedClauses$Store", "resolveWithDone", "(I)Z"⟩, 13), (⟨"OrderedClauses$Store", "greatestOf", "(I)I"⟩, 13), (⟨"OrderedClauses$Store", "has", "(I)Z"⟩, 13), (⟨"OrderedClauses$Store", "howManyLessThan", "(I)I"⟩, 13), (⟨"OrderedClauses$Store", "isLess", "(II)Z"⟩, 13), (⟨"OrderedClauses$Store", "treeOf", "(I)J"⟩, 13), (⟨"OrderedClauses$Store", "mostLiterals", "(J)I"⟩, 13), (⟨"OrderedClauses$Store", "toldClauses", "()J"⟩, 13), (⟨"OrderedClauses$Store", "wasTold", "(I)Z"⟩, 13), (⟨"OrderedClauses$Store", "valuesFulfilling", "(J)J"⟩, 13), (⟨"OrderedClauses$Store", "clausesBrokenBy", "(I)J"⟩, 13), (⟨"OrderedClauses$Store", "fewestUnfulfillable", "(J)J"⟩, 13), (⟨"OrderedClauses$Store", "howMany", "(I)I"⟩, 13), (⟨"OrderedClauses$History", "restoreLatest", "(LOrderedClauses$Store;)Z"⟩, 2), (⟨"OrderedClauses$Text", "add", "(I)Z"⟩, 2)]
theorem lw_r2 : ∀ q ∈ lw_privs_2, lw_okq q := List.forall_mem_cons.mpr ⟨lw_p16, List.forall_mem_cons.mpr ⟨lw_p17, List.forall_mem_cons.mpr ⟨lw_p18, List.forall_mem_cons.mpr ⟨lw_p19, List.forall_mem_cons.mpr ⟨lw_p20, List.forall_mem_cons.mpr ⟨lw_p21, List.forall_mem_cons.mpr ⟨lw_p22, List.forall_mem_cons.mpr ⟨lw_p23, List.forall_mem_cons.mpr ⟨lw_p24, List.forall_mem_cons.mpr ⟨lw_p25, List.forall_mem_cons.mpr ⟨lw_p26, List.forall_mem_cons.mpr ⟨lw_p27, List.forall_mem_cons.mpr ⟨lw_p28, List.forall_mem_cons.mpr ⟨lw_p29, List.forall_mem_cons.mpr ⟨lw_p30, List.forall_mem_cons.mpr ⟨lw_p31, fun _ h => absurd h List.not_mem_nil⟩⟩⟩⟩⟩⟩⟩⟩⟩⟩⟩⟩⟩⟩⟩⟩
theorem lw_p32 : lw_okq (⟨"OrderedClauses$Text", "whereItBreaksOff", "()I"⟩, 2) := ⟨⟨by decide +kernel, by decide +kernel⟩, List.mem_of_getElem? (i := 99) (by decide +kernel), List.mem_of_getElem? (i := 417) (by decide +kernel), List.mem_of_getElem? (i := 418) (by decide +kernel)⟩
theorem lw_p33 : lw_okq (⟨"OrderedClauses$Text", "startOfClause", "(I)I"⟩, 2) := ⟨⟨by decide +kernel, by decide +kernel⟩, List.mem_of_getElem? (i := 99) (by decide +kernel), List.mem_of_getElem? (i := 422) (by decide +kernel), List.mem_of_getElem? (i := 423) (by decide +kernel)⟩
theorem lw_p34 : lw_okq (⟨"OrderedClauses", "bringText", "()I"⟩, 3) := ⟨⟨by decide +kernel, by decide +kernel⟩, List.mem_of_getElem? (i := 12) (by decide +kernel), List.mem_of_getElem? (i := 430) (by decide +kernel), List.mem_of_getElem? (i := 431) (by decide +kernel)⟩
theorem lw_p35 : lw_okq (⟨"OrderedClausesModel", "begins", "()V"⟩, 8) := ⟨⟨by decide +kernel, by decide +kernel⟩, List.mem_of_getElem? (i := 434) (by decide +kernel), List.mem_of_getElem? (i := 469) (by decide +kernel), List.mem_of_getElem? (i := 470) (by decide +kernel)⟩
theorem lw_p36 : lw_okq (⟨"OrderedClausesModel", "comes", "(IIII)I"⟩, 8) := ⟨⟨by decide +kernel, by decide +kernel⟩, List.mem_of_getElem? (i := 434) (by decide +kernel), List.mem_of_getElem? (i := 476) (by decide +kernel), List.mem_of_getElem? (i := 477) (by decide +kernel)⟩
theorem lw_p37 : lw_okq (⟨"OrderedClausesModel", "hasWithin", "(I)Z"⟩, 8) := ⟨⟨by decide +kernel, by decide +kernel⟩, List.mem_of_getElem? (i := 434) (by decide +kernel), List.mem_of_getElem? (i := 483) (by decide +kernel), List.mem_of_getElem? (i := 484) (by decide +kernel)⟩
theorem lw_p38 : lw_okq (⟨"OrderedClausesModel", "isKept", "(I)Z"⟩, 8) := ⟨⟨by decide +kernel, by decide +kernel⟩, List.mem_of_getElem? (i := 434) (by decide +kernel), List.mem_of_getElem? (i := 487) (by decide +kernel), List.mem_of_getElem? (i := 488) (by decide +kernel)⟩
theorem lw_p39 : lw_okq (⟨"OrderedClausesModel", "of", "(II)I"⟩, 8) := ⟨⟨by decide +kernel, by decide +kernel⟩, List.mem_of_getElem? (i := 434) (by decide +kernel), List.mem_of_getElem? (i := 491) (by decide +kernel), List.mem_of_getElem? (i := 492) (by decide +kernel)⟩
theorem lw_p40 : lw_okq (⟨"OrderedClausesModel", "puts", "(III)V"⟩, 8) := ⟨⟨by decide +kernel, by decide +kernel⟩, List.mem_of_getElem? (i := 434) (by decide +kernel), List.mem_of_getElem? (i := 496) (by decide +kernel), List.mem_of_getElem? (i := 497) (by decide +kernel)⟩
theorem lw_p41 : lw_okq (⟨"OrderedClausesModel", "acted", "(I)I"⟩, 8) := ⟨⟨by decide +kernel, by decide +kernel⟩, List.mem_of_getElem? (i := 434) (by decide +kernel), List.mem_of_getElem? (i := 501) (by decide +kernel), List.mem_of_getElem? (i := 502) (by decide +kernel)⟩
theorem lw_p42 : lw_okq (⟨"OrderedClausesModel", "returns", "()V"⟩, 8) := ⟨⟨by decide +kernel, by decide +kernel⟩, List.mem_of_getElem? (i := 434) (by decide +kernel), List.mem_of_getElem? (i := 505) (by decide +kernel), List.mem_of_getElem? (i := 506) (by decide +kernel)⟩
theorem lw_p43 : lw_okq (⟨"OrderedClausesModel", "ranks", "(II)I"⟩, 8) := ⟨⟨by decide +kernel, by decide +kernel⟩, List.mem_of_getElem? (i := 434) (by decide +kernel), List.mem_of_getElem? (i := 513) (by decide +kernel), List.mem_of_getElem? (i := 514) (by decide +kernel)⟩
theorem lw_p44 : lw_okq (⟨"OrderedClausesModel", "steps", "()I"⟩, 8) := ⟨⟨by decide +kernel, by decide +kernel⟩, List.mem_of_getElem? (i := 434) (by decide +kernel), List.mem_of_getElem? (i := 525) (by decide +kernel), List.mem_of_getElem? (i := 526) (by decide +kernel)⟩
theorem lw_p45 : lw_okq (⟨"OrderedClausesModel", "chosen", "()I"⟩, 8) := ⟨⟨by decide +kernel, by decide +kernel⟩, List.mem_of_getElem? (i := 434) (by decide +kernel), List.mem_of_getElem? (i := 529) (by decide +kernel), List.mem_of_getElem? (i := 530) (by decide +kernel)⟩
theorem lw_p46 : lw_okq (⟨"OrderedClausesModel", "empties", "()I"⟩, 8) := ⟨⟨by decide +kernel, by decide +kernel⟩, List.mem_of_getElem? (i := 434) (by decide +kernel), List.mem_of_getElem? (i := 536) (by decide +kernel), List.mem_of_getElem? (i := 537) (by decide +kernel)⟩
theorem lw_p47 : lw_okq (⟨"OrderedClausesModel", "arePartners", "(II)Z"⟩, 8) := ⟨⟨by decide +kernel, by decide +kernel⟩, List.mem_of_getElem? (i := 434) (by decide +kernel), List.mem_of_getElem? (i := 541) (by decide +kernel), List.mem_of_getElem? (i := 542) (by decide +kernel)⟩
def lw_privs_3 : List (MethodName × Nat) := [(⟨"OrderedClauses$Text", "whereItBreaksOff", "()I"⟩, 2), (⟨"OrderedClauses$Text", "startOfClause", "(I)I"⟩, 2), (⟨"OrderedClauses", "bringText", "()I"⟩, 3), (⟨"OrderedClausesModel", "begins", "()V"⟩, 8), (⟨"OrderedClausesModel", "comes", "(IIII)I"⟩, 8), (⟨"OrderedClausesModel", "hasWithin", "(I)Z"⟩, 8), (⟨"OrderedClausesModel", "isKept", "(I)Z"⟩, 8), (⟨"OrderedClausesModel", "of", "(II)I"⟩, 8), (⟨"OrderedClausesModel", "puts", "(III)V"⟩, 8), (⟨"OrderedClausesModel", "acted", "(I)I"⟩, 8), (⟨"OrderedClausesModel", "returns", "()V"⟩, 8), (⟨"OrderedClausesModel", "ranks", "(II)I"⟩, 8), (⟨"OrderedClausesModel", "steps", "()I"⟩, 8), (⟨"OrderedClausesModel", "chosen", "()I"⟩, 8), (⟨"OrderedClausesModel", "empties", "()I"⟩, 8), (⟨"OrderedClausesModel", "arePartners", "(II)Z"⟩, 8)]
theorem lw_r3 : ∀ q ∈ lw_privs_3, lw_okq q := List.forall_mem_cons.mpr ⟨lw_p32, List.forall_mem_cons.mpr ⟨lw_p33, List.forall_mem_cons.mpr ⟨lw_p34, List.forall_mem_cons.mpr ⟨lw_p35, List.forall_mem_cons.mpr ⟨lw_p36, List.forall_mem_cons.mpr ⟨lw_p37, List.forall_mem_cons.mpr ⟨lw_p38, List.forall_mem_cons.mpr ⟨lw_p39, List.forall_mem_cons.mpr ⟨lw_p40, List.forall_mem_cons.mpr ⟨lw_p41, List.forall_mem_cons.mpr ⟨lw_p42, List.forall_mem_cons.mpr ⟨lw_p43, List.forall_mem_cons.mpr ⟨lw_p44, List.forall_mem_cons.mpr ⟨lw_p45, List.forall_mem_cons.mpr ⟨lw_p46, List.forall_mem_cons.mpr ⟨lw_p47, fun _ h => absurd h List.not_mem_nil⟩⟩⟩⟩⟩⟩⟩⟩⟩⟩⟩⟩⟩⟩⟩⟩
theorem lw_p48 : lw_okq (⟨"OrderedClausesModel", "greatest", "(I)I"⟩, 8) := ⟨⟨by decide +kernel, by decide +kernel⟩, List.mem_of_getElem? (i := 434) (by decide +kernel), List.mem_of_getElem? (i := 545) (by decide +kernel), List.mem_of_getElem? (i := 546) (by decide +kernel)⟩
theorem lw_p49 : lw_okq (⟨"OrderedClausesModel", "keyOf", "(I)I"⟩, 8) := ⟨⟨by decide +kernel, by decide +kernel⟩, List.mem_of_getElem? (i := 434) (by decide +kernel), List.mem_of_getElem? (i := 552) (by decide +kernel), List.mem_of_getElem? (i := 553) (by decide +kernel)⟩
theorem lw_p50 : lw_okq (⟨"OrderedClausesModel", "resolves", "(II)I"⟩, 8) := ⟨⟨by decide +kernel, by decide +kernel⟩, List.mem_of_getElem? (i := 434) (by decide +kernel), List.mem_of_getElem? (i := 556) (by decide +kernel), List.mem_of_getElem? (i := 557) (by decide +kernel)⟩
theorem lw_p51 : lw_okq (⟨"OrderedClausesModel", "runs", "(I)I"⟩, 8) := ⟨⟨by decide +kernel, by decide +kernel⟩, List.mem_of_getElem? (i := 434) (by decide +kernel), List.mem_of_getElem? (i := 564) (by decide +kernel), List.mem_of_getElem? (i := 565) (by decide +kernel)⟩
theorem lw_p52 : lw_okq (⟨"OrderedClausesModel", "clears", "()I"⟩, 8) := ⟨⟨by decide +kernel, by decide +kernel⟩, List.mem_of_getElem? (i := 434) (by decide +kernel), List.mem_of_getElem? (i := 572) (by decide +kernel), List.mem_of_getElem? (i := 573) (by decide +kernel)⟩
theorem lw_p53 : lw_okq (⟨"OrderedClausesModel", "isClause", "(I)Z"⟩, 8) := ⟨⟨by decide +kernel, by decide +kernel⟩, List.mem_of_getElem? (i := 434) (by decide +kernel), List.mem_of_getElem? (i := 580) (by decide +kernel), List.mem_of_getElem? (i := 581) (by decide +kernel)⟩
theorem lw_p54 : lw_okq (⟨"OrderedClausesModel", "parentOf", "(II)I"⟩, 8) := ⟨⟨by decide +kernel, by decide +kernel⟩, List.mem_of_getElem? (i := 434) (by decide +kernel), List.mem_of_getElem? (i := 585) (by decide +kernel), List.mem_of_getElem? (i := 586) (by decide +kernel)⟩
theorem lw_p55 : lw_okq (⟨"OrderedClausesModel", "lessOnes", "(I)I"⟩, 8) := ⟨⟨by decide +kernel, by decide +kernel⟩, List.mem_of_getElem? (i := 434) (by decide +kernel), List.mem_of_getElem? (i := 589) (by decide +kernel), List.mem_of_getElem? (i := 590) (by decide +kernel)⟩
theorem lw_p56 : lw_okq (⟨"OrderedClausesModel", "isLess", "(II)Z"⟩, 8) := ⟨⟨by decide +kernel, by decide +kernel⟩, List.mem_of_getElem? (i := 434) (by decide +kernel), List.mem_of_getElem? (i := 593) (by decide +kernel), List.mem_of_getElem? (i := 594) (by decide +kernel)⟩
theorem lw_p57 : lw_okq (⟨"OrderedClausesModel", "treeOf", "(I)J"⟩, 8) := ⟨⟨by decide +kernel, by decide +kernel⟩, List.mem_of_getElem? (i := 434) (by decide +kernel), List.mem_of_getElem? (i := 601) (by decide +kernel), List.mem_of_getElem? (i := 602) (by decide +kernel)⟩
theorem lw_p58 : lw_okq (⟨"OrderedClausesModel", "toldOnes", "()J"⟩, 8) := ⟨⟨by decide +kernel, by decide +kernel⟩, List.mem_of_getElem? (i := 434) (by decide +kernel), List.mem_of_getElem? (i := 621) (by decide +kernel), List.mem_of_getElem? (i := 622) (by decide +kernel)⟩
theorem lw_p59 : lw_okq (⟨"OrderedClausesModel", "modelsOf", "(J)I"⟩, 8) := ⟨⟨by decide +kernel, by decide +kernel⟩, List.mem_of_getElem? (i := 434) (by decide +kernel), List.mem_of_getElem? (i := 625) (by decide +kernel), List.mem_of_getElem? (i := 626) (by decide +kernel)⟩
theorem lw_p60 : lw_okq (⟨"OrderedClausesModel", "fulfils", "(IJ)Z"⟩, 8) := ⟨⟨by decide +kernel, by decide +kernel⟩, List.mem_of_getElem? (i := 434) (by decide +kernel), List.mem_of_getElem? (i := 629) (by decide +kernel), List.mem_of_getElem? (i := 630) (by decide +kernel)⟩
theorem lw_p61 : lw_okq (⟨"OrderedClausesModel", "withStatus", "(I)I"⟩, 8) := ⟨⟨by decide +kernel, by decide +kernel⟩, List.mem_of_getElem? (i := 434) (by decide +kernel), List.mem_of_getElem? (i := 673) (by decide +kernel), List.mem_of_getElem? (i := 674) (by decide +kernel)⟩
theorem lw_p62 : lw_okq (⟨"OrderedClausesModel", "brokenAt", "()I"⟩, 8) := ⟨⟨by decide +kernel, by decide +kernel⟩, List.mem_of_getElem? (i := 434) (by decide +kernel), List.mem_of_getElem? (i := 693) (by decide +kernel), List.mem_of_getElem? (i := 694) (by decide +kernel)⟩
theorem lw_p63 : lw_okq (⟨"OrderedClausesModel", "reads", "()Z"⟩, 8) := ⟨⟨by decide +kernel, by decide +kernel⟩, List.mem_of_getElem? (i := 434) (by decide +kernel), List.mem_of_getElem? (i := 697) (by decide +kernel), List.mem_of_getElem? (i := 698) (by decide +kernel)⟩
def lw_privs_4 : List (MethodName × Nat) := [(⟨"OrderedClausesModel", "greatest", "(I)I"⟩, 8), (⟨"OrderedClausesModel", "keyOf", "(I)I"⟩, 8), (⟨"OrderedClausesModel", "resolves", "(II)I"⟩, 8), (⟨"OrderedClausesModel", "runs", "(I)I"⟩, 8), (⟨"OrderedClausesModel", "clears", "()I"⟩, 8), (⟨"OrderedClausesModel", "isClause", "(I)Z"⟩, 8), (⟨"OrderedClausesModel", "parentOf", "(II)I"⟩, 8), (⟨"OrderedClausesModel", "lessOnes", "(I)I"⟩, 8), (⟨"OrderedClausesModel", "isLess", "(II)Z"⟩, 8), (⟨"OrderedClausesModel", "treeOf", "(I)J"⟩, 8), (⟨"OrderedClausesModel", "toldOnes", "()J"⟩, 8), (⟨"OrderedClausesModel", "modelsOf", "(J)I"⟩, 8), (⟨"OrderedClausesModel", "fulfils", "(IJ)Z"⟩, 8), (⟨"OrderedClausesModel", "withStatus", "(I)I"⟩, 8), (⟨"OrderedClausesModel", "brokenAt", "()I"⟩, 8), (⟨"OrderedClausesModel", "reads", "()Z"⟩, 8)]
theorem lw_r4 : ∀ q ∈ lw_privs_4, lw_okq q := List.forall_mem_cons.mpr ⟨lw_p48, List.forall_mem_cons.mpr ⟨lw_p49, List.forall_mem_cons.mpr ⟨lw_p50, List.forall_mem_cons.mpr ⟨lw_p51, List.forall_mem_cons.mpr ⟨lw_p52, List.forall_mem_cons.mpr ⟨lw_p53, List.forall_mem_cons.mpr ⟨lw_p54, List.forall_mem_cons.mpr ⟨lw_p55, List.forall_mem_cons.mpr ⟨lw_p56, List.forall_mem_cons.mpr ⟨lw_p57, List.forall_mem_cons.mpr ⟨lw_p58, List.forall_mem_cons.mpr ⟨lw_p59, List.forall_mem_cons.mpr ⟨lw_p60, List.forall_mem_cons.mpr ⟨lw_p61, List.forall_mem_cons.mpr ⟨lw_p62, List.forall_mem_cons.mpr ⟨lw_p63, fun _ h => absurd h List.not_mem_nil⟩⟩⟩⟩⟩⟩⟩⟩⟩⟩⟩⟩⟩⟩⟩⟩
theorem lw_p64 : lw_okq (⟨"OrderedClausesModel", "here", "()I"⟩, 8) := ⟨⟨by decide +kernel, by decide +kernel⟩, List.mem_of_getElem? (i := 434) (by decide +kernel), List.mem_of_getElem? (i := 701) (by decide +kernel), List.mem_of_getElem? (i := 702) (by decide +kernel)⟩
theorem lw_p65 : lw_okq (⟨"OrderedClausesModel", "plays", "()I"⟩, 8) := ⟨⟨by decide +kernel, by decide +kernel⟩, List.mem_of_getElem? (i := 434) (by decide +kernel), List.mem_of_getElem? (i := 709) (by decide +kernel), List.mem_of_getElem? (i := 710) (by decide +kernel)⟩
def lw_privs_5 : List (MethodName × Nat) := [(⟨"OrderedClausesModel", "here", "()I"⟩, 8), (⟨"OrderedClausesModel", "plays", "()I"⟩, 8)]
theorem lw_r5 : ∀ q ∈ lw_privs_5, lw_okq q := List.forall_mem_cons.mpr ⟨lw_p64, List.forall_mem_cons.mpr ⟨lw_p65, fun _ h => absurd h List.not_mem_nil⟩⟩
def lw_privs : List (MethodName × Nat) := lw_privs_1 ++ (lw_privs_2 ++ (lw_privs_3 ++ (lw_privs_4 ++ (lw_privs_5))))
def lw_tbl : List Cond := k2_sels lw_privs ++ tables_1
theorem lw_privs_ok : ∀ q ∈ lw_privs, lw_okq q := by
  show ∀ q ∈ lw_privs_1 ++ (lw_privs_2 ++ (lw_privs_3 ++ (lw_privs_4 ++ (lw_privs_5)))), lw_okq q
  exact List.forall_mem_append.mpr ⟨lw_r1, List.forall_mem_append.mpr ⟨lw_r2, List.forall_mem_append.mpr ⟨lw_r3, List.forall_mem_append.mpr ⟨lw_r4, lw_r5⟩⟩⟩⟩
/-- the streams that the claim lets the run draw from -/
abbrev lw_cs : List Choice := [Jvm.Choice.named "NaN.bits"]
theorem lw_bits : nanBits ∈ lw_cs := by first | decide | exact List.mem_cons_self | simp [lw_cs, nanBits]
-- ===== end of PART A; then your names; then what follows =====
end
section
/-! ===== BEGIN words of one list among another's, by their places ===== -/
theorem goodIn_r {big : List Cond} (ws : List Cond) (ps : List Nat) (hp : ws = ps.filterMap (fun i => big[i]?)) (h : ws.all goodWord = true) : GoodIn big ws := by
  intro w hw
  have h1 := List.all_eq_true.mp h w hw
  rw [hp] at hw
  obtain ⟨i, -, hi⟩ := List.mem_filterMap.mp hw
  have hm : w ∈ big := by first | exact List.mem_of_getElem? hi | exact List.getElem?_mem hi
  exact ⟨hm, good_of_word h1⟩
theorem goodIn_app {big a b : List Cond} (ha : GoodIn big a) (hb : GoodIn big b) : GoodIn big (a ++ b) := fun w h => (List.mem_append.mp h).elim (ha w) (hb w)
theorem goodIn_ca {big a b : List Cond} {c : Cond} (ha : GoodIn big (c :: a)) (hb : GoodIn big b) : GoodIn big (c :: (a ++ b)) := fun w h => (List.mem_cons.mp h).elim (fun e => ha w (List.mem_cons.mpr (Or.inl e))) (fun h => (List.mem_append.mp h).elim (fun h => ha w (List.mem_cons.mpr (Or.inr h))) (hb w))
theorem goodIn_sub {big ws : List Cond} (hm : ∀ w ∈ ws, w ∈ big) (h : ws.all goodWord = true) : GoodIn big ws := fun w hw => ⟨hm w hw, good_of_word (List.all_eq_true.mp h w hw)⟩
/-! ===== END ===== -/

/-! ===== BEGIN printed: names, fields, word lists, decode rows ===== -/
def RX0 : String := "OrderedClauses$History"
def TX0 : u_T := fun k => match k with
  | 0 => ("OrderedClauses$History", "states", "[LOrderedClauses$Store;", true)
  | _ => ("OrderedClauses$History", "kept", "I", false)
def tyX0 : Nat → FieldType := fun k => match k with
  | 0 => .array (.object "OrderedClauses$Store")
  | _ => .int
abbrev wsX00 : List Cond := u_ws RX0 TX0 2
theorem nmX0 : ∀ a, a < 2 → ∀ b, b < 2 → a ≠ b → (TX0 a).2.1 ≠ (TX0 b).2.1 := by decide +kernel
theorem tyX0_ok : ∀ k, k < 2 → parseFieldDescriptor (TX0 k).2.2.1 = some (tyX0 k) := by decide +kernel
abbrev cX0_init : ByteArray := prog_2_method_1_code
def yX0_init : MethodName := ⟨RX0, "<init>", "()V"⟩
abbrev cX0_stateAt : ByteArray := prog_2_method_2_code
def yX0_stateAt : MethodName := ⟨RX0, "stateAt", "(I)LOrderedClauses$Store;"⟩
abbrev cX0_putAside : ByteArray := prog_2_method_3_code
def yX0_putAside : MethodName := ⟨RX0, "putAside", "(LOrderedClauses$Store;)V"⟩
abbrev cX0_takeBack : ByteArray := prog_2_method_4_code
def yX0_takeBack : MethodName := ⟨RX0, "takeBack", "(LOrderedClauses$Store;)V"⟩
abbrev cX0_keep : ByteArray := prog_2_method_5_code
def yX0_keep : MethodName := ⟨RX0, "keep", "()V"⟩
abbrev cX0_dropOldest : ByteArray := prog_2_method_6_code
def yX0_dropOldest : MethodName := ⟨RX0, "dropOldest", "()V"⟩
abbrev cX0_restoreLatest : ByteArray := prog_2_method_7_code
def yX0_restoreLatest : MethodName := ⟨RX0, "restoreLatest", "(LOrderedClauses$Store;)Z"⟩
def RX1 : String := "OrderedClauses$Store"
def TX1 : u_T := fun k => match k with
  | 0 => ("OrderedClauses$Store", "atomOfRank", "[I", true)
  | 1 => ("OrderedClauses$Store", "literals", "[I", true)
  | 2 => ("OrderedClauses$Store", "status", "[I", true)
  | 3 => ("OrderedClauses$Store", "holdingParent", "[I", true)
  | 4 => ("OrderedClauses$Store", "otherParent", "[I", true)
  | 5 => ("OrderedClauses$Store", "atomMadeBy", "[I", true)
  | 6 => ("OrderedClauses$Store", "depth", "[I", true)
  | 7 => ("OrderedClauses$Store", "fulfilledBy", "[J", true)
  | 8 => ("OrderedClauses$Store", "clauses", "I", false)
  | 9 => ("OrderedClauses$Store", "steps", "I", false)
  | 10 => ("OrderedClauses$Store", "setting", "I", false)
  | 11 => ("OrderedClauses$Store", "heldAlways", "I", false)
  | _ => ("OrderedClauses$Store", "hadAnotherWithin", "I", false)
def tyX1 : Nat → FieldType := fun k => match k with
  | 0 => .array .int
  | 1 => .array .int
  | 2 => .array .int
  | 3 => .array .int
  | 4 => .array .int
  | 5 => .array .int
  | 6 => .array .int
  | 7 => .array .long
  | 8 => .int
  | 9 => .int
  | 10 => .int
  | 11 => .int
  | _ => .int
abbrev wsX10 : List Cond := u_ws RX1 TX1 13
theorem nmX1 : ∀ a, a < 13 → ∀ b, b < 13 → a ≠ b → (TX1 a).2.1 ≠ (TX1 b).2.1 := by decide +kernel
theorem tyX1_ok : ∀ k, k < 13 → parseFieldDescriptor (TX1 k).2.2.1 = some (tyX1 k) := by decide +kernel
abbrev cX1_init : ByteArray := prog_3_method_1_code
def yX1_init : MethodName := ⟨RX1, "<init>", "()V"⟩
abbrev cX1_copyFrom : ByteArray := prog_3_method_2_code
def yX1_copyFrom : MethodName := ⟨RX1, "copyFrom", "(LOrderedClauses$Store;)V"⟩
abbrev cX1_has : ByteArray := prog_3_method_3_code
def yX1_has : MethodName := ⟨RX1, "has", "(I)Z"⟩
abbrev cX1_isDropped : ByteArray := prog_3_method_4_code
def yX1_isDropped : MethodName := ⟨RX1, "isDropped", "(I)Z"⟩
abbrev cX1_wasTold : ByteArray := prog_3_method_5_code
def yX1_wasTold : MethodName := ⟨RX1, "wasTold", "(I)Z"⟩
abbrev cX1_rankOf : ByteArray := prog_3_method_6_code
def yX1_rankOf : MethodName := ⟨RX1, "rankOf", "(I)I"⟩
abbrev cX1_changeRank : ByteArray := prog_3_method_7_code
def yX1_changeRank : MethodName := ⟨RX1, "changeRank", "(II)I"⟩
abbrev cX1_greatestOf : ByteArray := prog_3_method_8_code
def yX1_greatestOf : MethodName := ⟨RX1, "greatestOf", "(I)I"⟩
abbrev cX1_isLess : ByteArray := prog_3_method_9_code
def yX1_isLess : MethodName := ⟨RX1, "isLess", "(II)Z"⟩
abbrev cX1_howManyLessThan : ByteArray := prog_3_method_10_code
def yX1_howManyLessThan : MethodName := ⟨RX1, "howManyLessThan", "(I)I"⟩
abbrev cX1_howMany : ByteArray := prog_3_method_11_code
def yX1_howMany : MethodName := ⟨RX1, "howMany", "(I)I"⟩
abbrev cX1_emptyClause : ByteArray := prog_3_method_12_code
def yX1_emptyClause : MethodName := ⟨RX1, "emptyClause", "()I"⟩
abbrev cX1_bring : ByteArray := prog_3_method_13_code
def yX1_bring : MethodName := ⟨RX1, "bring", "(IIII)I"⟩
abbrev cX1_hasAnotherWithin : ByteArray := prog_3_method_14_code
def yX1_hasAnotherWithin : MethodName := ⟨RX1, "hasAnotherWithin", "(I)Z"⟩
abbrev cX1_dropAllAround : ByteArray := prog_3_method_15_code
def yX1_dropAllAround : MethodName := ⟨RX1, "dropAllAround", "(I)V"⟩
abbrev cX1_takeIn : ByteArray := prog_3_method_16_code
def yX1_takeIn : MethodName := ⟨RX1, "takeIn", "(IIII)I"⟩
abbrev cX1_takeStep : ByteArray := prog_3_method_17_code
def yX1_takeStep : MethodName := ⟨RX1, "takeStep", "()I"⟩
abbrev cX1_nextChoice : ByteArray := prog_3_method_18_code
def yX1_nextChoice : MethodName := ⟨RX1, "nextChoice", "()I"⟩
abbrev cX1_resolveWithDone : ByteArray := prog_3_method_19_code
def yX1_resolveWithDone : MethodName := ⟨RX1, "resolveWithDone", "(I)Z"⟩
abbrev cX1_treeOf : ByteArray := prog_3_method_20_code
def yX1_treeOf : MethodName := ⟨RX1, "treeOf", "(I)J"⟩
abbrev cX1_mostLiterals : ByteArray := prog_3_method_21_code
def yX1_mostLiterals : MethodName := ⟨RX1, "mostLiterals", "(J)I"⟩
abbrev cX1_toldClauses : ByteArray := prog_3_method_22_code
def yX1_toldClauses : MethodName := ⟨RX1, "toldClauses", "()J"⟩
abbrev cX1_valuesFulfilling : ByteArray := prog_3_method_23_code
def yX1_valuesFulfilling : MethodName := ⟨RX1, "valuesFulfilling", "(J)J"⟩
abbrev cX1_clausesBrokenBy : ByteArray := prog_3_method_24_code
def yX1_clausesBrokenBy : MethodName := ⟨RX1, "clausesBrokenBy", "(I)J"⟩
abbrev cX1_fewestUnfulfillable : ByteArray := prog_3_method_25_code
def yX1_fewestUnfulfillable : MethodName := ⟨RX1, "fewestUnfulfillable", "(J)J"⟩
def RX2 : String := "OrderedClauses$Text"
def TX2 : u_T := fun k => match k with
  | 0 => ("OrderedClauses$Text", "characters", "[I", true)
  | _ => ("OrderedClauses$Text", "length", "I", false)
def tyX2 : Nat → FieldType := fun k => match k with
  | 0 => .array .int
  | _ => .int
abbrev wsX20 : List Cond := u_ws RX2 TX2 2
theorem nmX2 : ∀ a, a < 2 → ∀ b, b < 2 → a ≠ b → (TX2 a).2.1 ≠ (TX2 b).2.1 := by decide +kernel
theorem tyX2_ok : ∀ k, k < 2 → parseFieldDescriptor (TX2 k).2.2.1 = some (tyX2 k) := by decide +kernel
abbrev cX2_init : ByteArray := prog_4_method_1_code
def yX2_init : MethodName := ⟨RX2, "<init>", "()V"⟩
abbrev cX2_add : ByteArray := prog_4_method_2_code
def yX2_add : MethodName := ⟨RX2, "add", "(I)Z"⟩
abbrev cX2_whereItBreaksOff : ByteArray := prog_4_method_3_code
def yX2_whereItBreaksOff : MethodName := ⟨RX2, "whereItBreaksOff", "()I"⟩
abbrev cX2_startOfClause : ByteArray := prog_4_method_4_code
def yX2_startOfClause : MethodName := ⟨RX2, "startOfClause", "(I)I"⟩
def RX3 : String := "OrderedClauses"
def TX3 : u_T := fun k => match k with
  | 0 => ("OrderedClauses", "store", "LOrderedClauses$Store;", true)
  | 1 => ("OrderedClauses", "history", "LOrderedClauses$History;", true)
  | _ => ("OrderedClauses", "text", "LOrderedClauses$Text;", true)
def tyX3 : Nat → FieldType := fun k => match k with
  | 0 => .object "OrderedClauses$Store"
  | 1 => .object "OrderedClauses$History"
  | _ => .object "OrderedClauses$Text"
abbrev wsX30 : List Cond := u_ws RX3 TX3 3
theorem nmX3 : ∀ a, a < 3 → ∀ b, b < 3 → a ≠ b → (TX3 a).2.1 ≠ (TX3 b).2.1 := by decide +kernel
theorem tyX3_ok : ∀ k, k < 3 → parseFieldDescriptor (TX3 k).2.2.1 = some (tyX3 k) := by decide +kernel
abbrev cX3_init : ByteArray := prog_1_method_1_code
def yX3_init : MethodName := ⟨RX3, "<init>", "()V"⟩
abbrev cX3_tell : ByteArray := prog_1_method_2_code
def yX3_tell : MethodName := ⟨RX3, "tell", "(I)I"⟩
abbrev cX3_rank : ByteArray := prog_1_method_3_code
def yX3_rank : MethodName := ⟨RX3, "rank", "(II)I"⟩
abbrev cX3_set : ByteArray := prog_1_method_4_code
def yX3_set : MethodName := ⟨RX3, "set", "(I)I"⟩
abbrev cX3_step : ByteArray := prog_1_method_5_code
def yX3_step : MethodName := ⟨RX3, "step", "()I"⟩
abbrev cX3_run : ByteArray := prog_1_method_6_code
def yX3_run : MethodName := ⟨RX3, "run", "(I)I"⟩
abbrev cX3_empty : ByteArray := prog_1_method_7_code
def yX3_empty : MethodName := ⟨RX3, "empty", "()I"⟩
abbrev cX3_clauseOf : ByteArray := prog_1_method_8_code
def yX3_clauseOf : MethodName := ⟨RX3, "clauseOf", "(II)I"⟩
abbrev cX3_tree : ByteArray := prog_1_method_9_code
def yX3_tree : MethodName := ⟨RX3, "tree", "(I)J"⟩
abbrev cX3_widest : ByteArray := prog_1_method_10_code
def yX3_widest : MethodName := ⟨RX3, "widest", "(I)I"⟩
abbrev cX3_refutation : ByteArray := prog_1_method_11_code
def yX3_refutation : MethodName := ⟨RX3, "refutation", "()I"⟩
abbrev cX3_models : ByteArray := prog_1_method_12_code
def yX3_models : MethodName := ⟨RX3, "models", "()I"⟩
abbrev cX3_model : ByteArray := prog_1_method_13_code
def yX3_model : MethodName := ⟨RX3, "model", "(I)I"⟩
abbrev cX3_broken : ByteArray := prog_1_method_14_code
def yX3_broken : MethodName := ⟨RX3, "broken", "(I)J"⟩
abbrev cX3_core : ByteArray := prog_1_method_15_code
def yX3_core : MethodName := ⟨RX3, "core", "()J"⟩
abbrev cX3_follows : ByteArray := prog_1_method_16_code
def yX3_follows : MethodName := ⟨RX3, "follows", "(I)I"⟩
abbrev cX3_share : ByteArray := prog_1_method_17_code
def yX3_share : MethodName := ⟨RX3, "share", "(I)I"⟩
abbrev cX3_count : ByteArray := prog_1_method_18_code
def yX3_count : MethodName := ⟨RX3, "count", "(I)I"⟩
abbrev cX3_undo : ByteArray := prog_1_method_19_code
def yX3_undo : MethodName := ⟨RX3, "undo", "()I"⟩
abbrev cX3_type : ByteArray := prog_1_method_20_code
def yX3_type : MethodName := ⟨RX3, "type", "(I)I"⟩
abbrev cX3_clearText : ByteArray := prog_1_method_21_code
def yX3_clearText : MethodName := ⟨RX3, "clearText", "()I"⟩
abbrev cX3_fault : ByteArray := prog_1_method_22_code
def yX3_fault : MethodName := ⟨RX3, "fault", "(I)I"⟩
abbrev cX3_play : ByteArray := prog_1_method_23_code
def yX3_play : MethodName := ⟨RX3, "play", "()I"⟩
abbrev cX3_settle : ByteArray := prog_1_method_24_code
def yX3_settle : MethodName := ⟨RX3, "settle", "(I)I"⟩
abbrev cX3_bringText : ByteArray := prog_1_method_25_code
def yX3_bringText : MethodName := ⟨RX3, "bringText", "()I"⟩
abbrev cX3_foundOrNot : ByteArray := prog_1_method_26_code
def yX3_foundOrNot : MethodName := ⟨RX3, "foundOrNot", "(I)I"⟩
abbrev cX3_at : ByteArray := prog_1_method_27_code
def yX3_at : MethodName := ⟨RX3, "at", "([II)I"⟩
abbrev cX3_put : ByteArray := prog_1_method_28_code
def yX3_put : MethodName := ⟨RX3, "put", "([III)V"⟩
abbrev cX3_longAt : ByteArray := prog_1_method_29_code
def yX3_longAt : MethodName := ⟨RX3, "longAt", "([JI)J"⟩
abbrev cX3_putLong : ByteArray := prog_1_method_30_code
def yX3_putLong : MethodName := ⟨RX3, "putLong", "([JIJ)V"⟩
abbrev cX3_copyRow : ByteArray := prog_1_method_31_code
def yX3_copyRow : MethodName := ⟨RX3, "copyRow", "([I[I)V"⟩
abbrev cX3_copyLongRow : ByteArray := prog_1_method_32_code
def yX3_copyLongRow : MethodName := ⟨RX3, "copyLongRow", "([J[J)V"⟩
abbrev cX3_isIn : ByteArray := prog_1_method_33_code
def yX3_isIn : MethodName := ⟨RX3, "isIn", "(JI)Z"⟩
abbrev cX3_setOf : ByteArray := prog_1_method_34_code
def yX3_setOf : MethodName := ⟨RX3, "setOf", "(I)J"⟩
abbrev cX3_isWithin : ByteArray := prog_1_method_35_code
def yX3_isWithin : MethodName := ⟨RX3, "isWithin", "(II)Z"⟩
abbrev cX3_holdsAlways : ByteArray := prog_1_method_36_code
def yX3_holdsAlways : MethodName := ⟨RX3, "holdsAlways", "(I)Z"⟩
abbrev cX3_valuesOfClause : ByteArray := prog_1_method_37_code
def yX3_valuesOfClause : MethodName := ⟨RX3, "valuesOfClause", "(I)J"⟩
abbrev cX3_floatBitsOf64ths : ByteArray := prog_1_method_38_code
def yX3_floatBitsOf64ths : MethodName := ⟨RX3, "floatBitsOf64ths", "(I)I"⟩
def RX4 : String := "OrderedClausesModel"
def TX4 : u_T := fun k => match k with
  | 0 => ("OrderedClausesModel", "s", "[I", true)
  | 1 => ("OrderedClausesModel", "begun", "[I", true)
  | 2 => ("OrderedClausesModel", "past", "[I", true)
  | 3 => ("OrderedClausesModel", "states", "I", false)
  | 4 => ("OrderedClausesModel", "text", "[I", true)
  | 5 => ("OrderedClausesModel", "length", "I", false)
  | 6 => ("OrderedClausesModel", "at", "I", false)
  | _ => ("OrderedClausesModel", "read", "I", false)
def tyX4 : Nat → FieldType := fun k => match k with
  | 0 => .array .int
  | 1 => .array .int
  | 2 => .array .int
  | 3 => .int
  | 4 => .array .int
  | 5 => .int
  | 6 => .int
  | _ => .int
abbrev wsX40 : List Cond := u_ws RX4 TX4 8
theorem nmX4 : ∀ a, a < 8 → ∀ b, b < 8 → a ≠ b → (TX4 a).2.1 ≠ (TX4 b).2.1 := by decide +kernel
theorem tyX4_ok : ∀ k, k < 8 → parseFieldDescriptor (TX4 k).2.2.1 = some (tyX4 k) := by decide +kernel
abbrev cX4_init : ByteArray := prog_6_method_1_code
def yX4_init : MethodName := ⟨RX4, "<init>", "()V"⟩
abbrev cX4_in : ByteArray := prog_6_method_3_code
def yX4_in : MethodName := ⟨RX4, "in", "(III)Z"⟩
abbrev cX4_begins : ByteArray := prog_6_method_4_code
def yX4_begins : MethodName := ⟨RX4, "begins", "()V"⟩
abbrev cX4_returns : ByteArray := prog_6_method_5_code
def yX4_returns : MethodName := ⟨RX4, "returns", "()V"⟩
abbrev cX4_acted : ByteArray := prog_6_method_6_code
def yX4_acted : MethodName := ⟨RX4, "acted", "(I)I"⟩
abbrev cX4_of : ByteArray := prog_6_method_7_code
def yX4_of : MethodName := ⟨RX4, "of", "(II)I"⟩
abbrev cX4_puts : ByteArray := prog_6_method_8_code
def yX4_puts : MethodName := ⟨RX4, "puts", "(III)V"⟩
abbrev cX4_isClause : ByteArray := prog_6_method_9_code
def yX4_isClause : MethodName := ⟨RX4, "isClause", "(I)Z"⟩
abbrev cX4_isKept : ByteArray := prog_6_method_10_code
def yX4_isKept : MethodName := ⟨RX4, "isKept", "(I)Z"⟩
abbrev cX4_has : ByteArray := prog_6_method_11_code
def yX4_has : MethodName := ⟨RX4, "has", "(II)Z"⟩
abbrev cX4_ones : ByteArray := prog_6_method_12_code
def yX4_ones : MethodName := ⟨RX4, "ones", "(I)I"⟩
abbrev cX4_keyOf : ByteArray := prog_6_method_13_code
def yX4_keyOf : MethodName := ⟨RX4, "keyOf", "(I)I"⟩
abbrev cX4_greatest : ByteArray := prog_6_method_14_code
def yX4_greatest : MethodName := ⟨RX4, "greatest", "(I)I"⟩
abbrev cX4_isLess : ByteArray := prog_6_method_15_code
def yX4_isLess : MethodName := ⟨RX4, "isLess", "(II)Z"⟩
abbrev cX4_holdsAlways : ByteArray := prog_6_method_16_code
def yX4_holdsAlways : MethodName := ⟨RX4, "holdsAlways", "(I)Z"⟩
abbrev cX4_hasWithin : ByteArray := prog_6_method_17_code
def yX4_hasWithin : MethodName := ⟨RX4, "hasWithin", "(I)Z"⟩
abbrev cX4_comes : ByteArray := prog_6_method_18_code
def yX4_comes : MethodName := ⟨RX4, "comes", "(IIII)I"⟩
abbrev cX4_empties : ByteArray := prog_6_method_19_code
def yX4_empties : MethodName := ⟨RX4, "empties", "()I"⟩
abbrev cX4_chosen : ByteArray := prog_6_method_20_code
def yX4_chosen : MethodName := ⟨RX4, "chosen", "()I"⟩
abbrev cX4_resolves : ByteArray := prog_6_method_21_code
def yX4_resolves : MethodName := ⟨RX4, "resolves", "(II)I"⟩
abbrev cX4_arePartners : ByteArray := prog_6_method_22_code
def yX4_arePartners : MethodName := ⟨RX4, "arePartners", "(II)Z"⟩
abbrev cX4_steps : ByteArray := prog_6_method_23_code
def yX4_steps : MethodName := ⟨RX4, "steps", "()I"⟩
abbrev cX4_runs : ByteArray := prog_6_method_24_code
def yX4_runs : MethodName := ⟨RX4, "runs", "(I)I"⟩
abbrev cX4_ranks : ByteArray := prog_6_method_25_code
def yX4_ranks : MethodName := ⟨RX4, "ranks", "(II)I"⟩
abbrev cX4_clears : ByteArray := prog_6_method_26_code
def yX4_clears : MethodName := ⟨RX4, "clears", "()I"⟩
abbrev cX4_tell : ByteArray := prog_6_method_27_code
def yX4_tell : MethodName := ⟨RX4, "tell", "(I)I"⟩
abbrev cX4_rank : ByteArray := prog_6_method_28_code
def yX4_rank : MethodName := ⟨RX4, "rank", "(II)I"⟩
abbrev cX4_set : ByteArray := prog_6_method_29_code
def yX4_set : MethodName := ⟨RX4, "set", "(I)I"⟩
abbrev cX4_step : ByteArray := prog_6_method_30_code
def yX4_step : MethodName := ⟨RX4, "step", "()I"⟩
abbrev cX4_run : ByteArray := prog_6_method_31_code
def yX4_run : MethodName := ⟨RX4, "run", "(I)I"⟩
abbrev cX4_empty : ByteArray := prog_6_method_32_code
def yX4_empty : MethodName := ⟨RX4, "empty", "()I"⟩
abbrev cX4_lessOnes : ByteArray := prog_6_method_33_code
def yX4_lessOnes : MethodName := ⟨RX4, "lessOnes", "(I)I"⟩
abbrev cX4_parentOf : ByteArray := prog_6_method_34_code
def yX4_parentOf : MethodName := ⟨RX4, "parentOf", "(II)I"⟩
abbrev cX4_clauseOf : ByteArray := prog_6_method_35_code
def yX4_clauseOf : MethodName := ⟨RX4, "clauseOf", "(II)I"⟩
abbrev cX4_isIn : ByteArray := prog_6_method_36_code
def yX4_isIn : MethodName := ⟨RX4, "isIn", "(JI)Z"⟩
abbrev cX4_treeOf : ByteArray := prog_6_method_37_code
def yX4_treeOf : MethodName := ⟨RX4, "treeOf", "(I)J"⟩
abbrev cX4_tree : ByteArray := prog_6_method_38_code
def yX4_tree : MethodName := ⟨RX4, "tree", "(I)J"⟩
abbrev cX4_widest : ByteArray := prog_6_method_39_code
def yX4_widest : MethodName := ⟨RX4, "widest", "(I)I"⟩
abbrev cX4_refutation : ByteArray := prog_6_method_40_code
def yX4_refutation : MethodName := ⟨RX4, "refutation", "()I"⟩
abbrev cX4_isFulfilled : ByteArray := prog_6_method_41_code
def yX4_isFulfilled : MethodName := ⟨RX4, "isFulfilled", "(II)Z"⟩
abbrev cX4_fulfils : ByteArray := prog_6_method_42_code
def yX4_fulfils : MethodName := ⟨RX4, "fulfils", "(IJ)Z"⟩
abbrev cX4_toldOnes : ByteArray := prog_6_method_43_code
def yX4_toldOnes : MethodName := ⟨RX4, "toldOnes", "()J"⟩
abbrev cX4_modelsOf : ByteArray := prog_6_method_44_code
def yX4_modelsOf : MethodName := ⟨RX4, "modelsOf", "(J)I"⟩
abbrev cX4_models : ByteArray := prog_6_method_45_code
def yX4_models : MethodName := ⟨RX4, "models", "()I"⟩
abbrev cX4_model : ByteArray := prog_6_method_46_code
def yX4_model : MethodName := ⟨RX4, "model", "(I)I"⟩
abbrev cX4_broken : ByteArray := prog_6_method_47_code
def yX4_broken : MethodName := ⟨RX4, "broken", "(I)J"⟩
abbrev cX4_core : ByteArray := prog_6_method_48_code
def yX4_core : MethodName := ⟨RX4, "core", "()J"⟩
abbrev cX4_follows : ByteArray := prog_6_method_49_code
def yX4_follows : MethodName := ⟨RX4, "follows", "(I)I"⟩
abbrev cX4_share : ByteArray := prog_6_method_50_code
def yX4_share : MethodName := ⟨RX4, "share", "(I)I"⟩
abbrev cX4_withStatus : ByteArray := prog_6_method_51_code
def yX4_withStatus : MethodName := ⟨RX4, "withStatus", "(I)I"⟩
abbrev cX4_count : ByteArray := prog_6_method_52_code
def yX4_count : MethodName := ⟨RX4, "count", "(I)I"⟩
abbrev cX4_undo : ByteArray := prog_6_method_53_code
def yX4_undo : MethodName := ⟨RX4, "undo", "()I"⟩
abbrev cX4_type : ByteArray := prog_6_method_54_code
def yX4_type : MethodName := ⟨RX4, "type", "(I)I"⟩
abbrev cX4_clearText : ByteArray := prog_6_method_55_code
def yX4_clearText : MethodName := ⟨RX4, "clearText", "()I"⟩
abbrev cX4_here : ByteArray := prog_6_method_56_code
def yX4_here : MethodName := ⟨RX4, "here", "()I"⟩
abbrev cX4_reads : ByteArray := prog_6_method_57_code
def yX4_reads : MethodName := ⟨RX4, "reads", "()Z"⟩
abbrev cX4_brokenAt : ByteArray := prog_6_method_58_code
def yX4_brokenAt : MethodName := ⟨RX4, "brokenAt", "()I"⟩
abbrev cX4_fault : ByteArray := prog_6_method_59_code
def yX4_fault : MethodName := ⟨RX4, "fault", "(I)I"⟩
abbrev cX4_plays : ByteArray := prog_6_method_60_code
def yX4_plays : MethodName := ⟨RX4, "plays", "()I"⟩
abbrev cX4_play : ByteArray := prog_6_method_61_code
def yX4_play : MethodName := ⟨RX4, "play", "()I"⟩
def RJxf58ca : String := "java/lang/Float"
def TJxf58ca : u_T := fun k => match k with
  | _ => ("", "", "", false)
def tyJxf58ca : Nat → FieldType := fun k => match k with
  | _ => .int
abbrev wsJxf58ca0 : List Cond := u_ws RJxf58ca TJxf58ca 0
theorem nmJxf58ca : ∀ a, a < 0 → ∀ b, b < 0 → a ≠ b → (TJxf58ca a).2.1 ≠ (TJxf58ca b).2.1 := by decide +kernel
theorem tyJxf58ca_ok : ∀ k, k < 0 → parseFieldDescriptor (TJxf58ca k).2.2.1 = some (tyJxf58ca k) := by decide +kernel
abbrev cJxf58ca_isNaN_12338 : ByteArray := prog_7_method_6_code
def yJxf58ca_isNaN_12338 : MethodName := ⟨RJxf58ca, "isNaN", "(F)Z"⟩
abbrev cJxf58ca_floatToIntBits_5c35a : ByteArray := prog_7_method_24_code
def yJxf58ca_floatToIntBits_5c35a : MethodName := ⟨RJxf58ca, "floatToIntBits", "(F)I"⟩
def RJ6 : String := "java/lang/Integer"
def TJ6 : u_T := fun k => match k with
  | _ => ("", "", "", false)
def tyJ6 : Nat → FieldType := fun k => match k with
  | _ => .int
abbrev wsJ60 : List Cond := u_ws RJ6 TJ6 0
theorem nmJ6 : ∀ a, a < 0 → ∀ b, b < 0 → a ≠ b → (TJ6 a).2.1 ≠ (TJ6 b).2.1 := by decide +kernel
theorem tyJ6_ok : ∀ k, k < 0 → parseFieldDescriptor (TJ6 k).2.2.1 = some (tyJ6 k) := by decide +kernel
abbrev cJ6_bitCount_0f7a4 : ByteArray := prog_8_method_49_code
def yJ6_bitCount_0f7a4 : MethodName := ⟨RJ6, "bitCount", "(I)I"⟩
def RJ13 : String := "java/lang/Long"
def TJ13 : u_T := fun k => match k with
  | _ => ("", "", "", false)
def tyJ13 : Nat → FieldType := fun k => match k with
  | _ => .int
abbrev wsJ130 : List Cond := u_ws RJ13 TJ13 0
theorem nmJ13 : ∀ a, a < 0 → ∀ b, b < 0 → a ≠ b → (TJ13 a).2.1 ≠ (TJ13 b).2.1 := by decide +kernel
theorem tyJ13_ok : ∀ k, k < 0 → parseFieldDescriptor (TJ13 k).2.2.1 = some (tyJ13 k) := by decide +kernel
abbrev cJ13_bitCount_95d88 : ByteArray := prog_9_method_50_code
def yJ13_bitCount_95d88 : MethodName := ⟨RJ13, "bitCount", "(J)I"⟩
def RJ9 : String := "java/lang/Math"
def TJ9 : u_T := fun k => match k with
  | _ => ("", "", "", false)
def tyJ9 : Nat → FieldType := fun k => match k with
  | _ => .int
abbrev wsJ90 : List Cond := u_ws RJ9 TJ9 0
theorem nmJ9 : ∀ a, a < 0 → ∀ b, b < 0 → a ≠ b → (TJ9 a).2.1 ≠ (TJ9 b).2.1 := by decide +kernel
theorem tyJ9_ok : ∀ k, k < 0 → parseFieldDescriptor (TJ9 k).2.2.1 = some (tyJ9 k) := by decide +kernel
abbrev cJ9_max_7cf53 : ByteArray := prog_10_method_65_code
def yJ9_max_7cf53 : MethodName := ⟨RJ9, "max", "(II)I"⟩
abbrev cJ9_min_7cf53 : ByteArray := prog_10_method_69_code
def yJ9_min_7cf53 : MethodName := ⟨RJ9, "min", "(II)I"⟩
def RJ10 : String := "java/lang/System"
def TJ10 : u_T := fun k => match k with
  | _ => ("", "", "", false)
def tyJ10 : Nat → FieldType := fun k => match k with
  | _ => .int
abbrev wsJ100 : List Cond := u_ws RJ10 TJ10 0
theorem nmJ10 : ∀ a, a < 0 → ∀ b, b < 0 → a ≠ b → (TJ10 a).2.1 ≠ (TJ10 b).2.1 := by decide +kernel
theorem tyJ10_ok : ∀ k, k < 0 → parseFieldDescriptor (TJ10 k).2.2.1 = some (tyJ10 k) := by decide +kernel
def RL : String := "OrderedClausesLaw"
abbrev cL_law : ByteArray := code
def yL_law : MethodName := ⟨RL, "law", "([I)Z"⟩
def wsX3_put : List Cond := .code yX3_put cX3_put 3 none :: ([])
def wsX1_init : List Cond := .code yX1_init cX1_init 2 none :: ([.methodLink RX1 3 objectInit, .instanceMethod objectInit, .code objectInit ⟨#[0xb1]⟩ 1 none, .arrayClass .int, .fieldLink RX1 9 "OrderedClauses$Store" "atomOfRank" "[I", .fieldLink RX1 15 "OrderedClauses$Store" "literals" "[I", .fieldLink RX1 18 "OrderedClauses$Store" "status" "[I", .fieldLink RX1 21 "OrderedClauses$Store" "holdingParent" "[I", .fieldLink RX1 24 "OrderedClauses$Store" "otherParent" "[I", .fieldLink RX1 27 "OrderedClauses$Store" "atomMadeBy" "[I", .fieldLink RX1 30 "OrderedClauses$Store" "depth" "[I", .arrayClass .long, .fieldLink RX1 33 "OrderedClauses$Store" "fulfilledBy" "[J", .fieldLink RX1 37 "OrderedClauses$Store" "clauses" "I", .fieldLink RX1 41 "OrderedClauses$Store" "steps" "I", .fieldLink RX1 44 "OrderedClauses$Store" "setting" "I", .fieldLink RX1 47 "OrderedClauses$Store" "heldAlways" "I", .fieldLink RX1 50 "OrderedClauses$Store" "hadAnotherWithin" "I", .static yX3_put, .initialized RX3, .code yX3_put cX3_put 3 none] ++ wsX10)
def wsX0_init_r1 : List Cond := [Cond.methodLink RX0 3 objectInit, Cond.instanceMethod objectInit, Cond.code objectInit ⟨#[0xb1]⟩ 1 none, Cond.classLink RX0 9 RX1, Cond.fieldLink RX0 11 "OrderedClauses$History" "states" "[LOrderedClauses$Store;", Cond.fieldLink RX0 17 "OrderedClauses$History" "kept" "I", Cond.instantiable RX1 13, Cond.initialized RX1, Cond.instanceMethod yX1_init, Cond.code yX1_init cX1_init 2 none, Cond.methodLink RX1 3 objectInit, Cond.arrayClass .int, Cond.fieldLink RX1 9 "OrderedClauses$Store" "atomOfRank" "[I", Cond.fieldLink RX1 15 "OrderedClauses$Store" "literals" "[I", Cond.fieldLink RX1 18 "OrderedClauses$Store" "status" "[I", Cond.fieldLink RX1 21 "OrderedClauses$Store" "holdingParent" "[I", Cond.fieldLink RX1 24 "OrderedClauses$Store" "otherParent" "[I", Cond.fieldLink RX1 27 "OrderedClauses$Store" "atomMadeBy" "[I", Cond.fieldLink RX1 30 "OrderedClauses$Store" "depth" "[I", Cond.arrayClass .long, Cond.fieldLink RX1 33 "OrderedClauses$Store" "fulfilledBy" "[J", Cond.fieldLink RX1 37 "OrderedClauses$Store" "clauses" "I", Cond.fieldLink RX1 41 "OrderedClauses$Store" "steps" "I", Cond.fieldLink RX1 44 "OrderedClauses$Store" "setting" "I"]
def wsX0_init_r2 : List Cond := [Cond.fieldLink RX1 47 "OrderedClauses$Store" "heldAlways" "I", Cond.fieldLink RX1 50 "OrderedClauses$Store" "hadAnotherWithin" "I", Cond.static yX3_put, Cond.initialized RX3, Cond.code yX3_put cX3_put 3 none]
def wsX0_init : List Cond := .code yX0_init cX0_init 2 none :: ((wsX0_init_r1 ++ wsX0_init_r2) ++ wsX00 ++ wsX10)
def wsX0_stateAt : List Cond := .code yX0_stateAt cX0_stateAt 2 (some (.object "OrderedClauses$Store")) :: ([.fieldLink RX0 11 "OrderedClauses$History" "states" "[LOrderedClauses$Store;"] ++ wsX00)
def wsX3_copyRow : List Cond := .code yX3_copyRow cX3_copyRow 2 none :: ([.methodLink RX3 193 Lib.Math.min.name, .static Lib.Math.min.name, .initialized "java/lang/Math", .code Lib.Math.min.name Lib.Math.min.code 2 (some .int), .methodLink RX3 198 arraycopyName, .native arraycopyName, .static arraycopyName, .initialized "java/lang/System"])
def wsX3_copyLongRow : List Cond := .code yX3_copyLongRow cX3_copyLongRow 2 none :: ([.methodLink RX3 193 Lib.Math.min.name, .static Lib.Math.min.name, .initialized "java/lang/Math", .code Lib.Math.min.name Lib.Math.min.code 2 (some .int), .methodLink RX3 198 arraycopyName, .native arraycopyName, .static arraycopyName, .initialized "java/lang/System"])
def wsX1_copyFrom_r1 : List Cond := [Cond.fieldLink RX1 9 "OrderedClauses$Store" "atomOfRank" "[I", Cond.fieldLink RX1 15 "OrderedClauses$Store" "literals" "[I", Cond.fieldLink RX1 18 "OrderedClauses$Store" "status" "[I", Cond.fieldLink RX1 21 "OrderedClauses$Store" "holdingParent" "[I", Cond.fieldLink RX1 24 "OrderedClauses$Store" "otherParent" "[I", Cond.fieldLink RX1 27 "OrderedClauses$Store" "atomMadeBy" "[I", Cond.fieldLink RX1 30 "OrderedClauses$Store" "depth" "[I", Cond.fieldLink RX1 33 "OrderedClauses$Store" "fulfilledBy" "[J", Cond.fieldLink RX1 37 "OrderedClauses$Store" "clauses" "I", Cond.fieldLink RX1 41 "OrderedClauses$Store" "steps" "I", Cond.fieldLink RX1 44 "OrderedClauses$Store" "setting" "I", Cond.fieldLink RX1 47 "OrderedClauses$Store" "heldAlways" "I", Cond.fieldLink RX1 50 "OrderedClauses$Store" "hadAnotherWithin" "I", Cond.static yX3_copyRow, Cond.initialized RX3, Cond.code yX3_copyRow cX3_copyRow 2 none, Cond.methodLink RX3 193 Lib.Math.min.name, Cond.static Lib.Math.min.name, Cond.initialized "java/lang/Math", Cond.code Lib.Math.min.name Lib.Math.min.code 2 (some .int), Cond.methodLink RX3 198 arraycopyName, Cond.native arraycopyName, Cond.static arraycopyName, Cond.initialized "java/lang/System"]
def wsX1_copyFrom_r2 : List Cond := [Cond.static yX3_copyLongRow, Cond.code yX3_copyLongRow cX3_copyLongRow 2 none]
def wsX1_copyFrom : List Cond := .code yX1_copyFrom cX1_copyFrom 2 none :: ((wsX1_copyFrom_r1 ++ wsX1_copyFrom_r2) ++ wsX10)
def wsX0_putAside_r1 : List Cond := [Cond.fieldLink RX0 17 "OrderedClauses$History" "kept" "I", Cond.methodLink RX0 22 yX0_stateAt, Cond.instanceMethod yX0_stateAt, Cond.selects RX0 yX0_stateAt yX0_stateAt, Cond.initialized RX0, Cond.code yX0_stateAt cX0_stateAt 2 (some (.object "OrderedClauses$Store")), Cond.fieldLink RX0 11 "OrderedClauses$History" "states" "[LOrderedClauses$Store;", Cond.instanceMethod yX1_copyFrom, Cond.initialized RX1, Cond.selects RX1 yX1_copyFrom yX1_copyFrom, Cond.code yX1_copyFrom cX1_copyFrom 2 none, Cond.fieldLink RX1 9 "OrderedClauses$Store" "atomOfRank" "[I", Cond.fieldLink RX1 15 "OrderedClauses$Store" "literals" "[I", Cond.fieldLink RX1 18 "OrderedClauses$Store" "status" "[I", Cond.fieldLink RX1 21 "OrderedClauses$Store" "holdingParent" "[I", Cond.fieldLink RX1 24 "OrderedClauses$Store" "otherParent" "[I", Cond.fieldLink RX1 27 "OrderedClauses$Store" "atomMadeBy" "[I", Cond.fieldLink RX1 30 "OrderedClauses$Store" "depth" "[I", Cond.fieldLink RX1 33 "OrderedClauses$Store" "fulfilledBy" "[J", Cond.fieldLink RX1 37 "OrderedClauses$Store" "clauses" "I", Cond.fieldLink RX1 41 "OrderedClauses$Store" "steps" "I", Cond.fieldLink RX1 44 "OrderedClauses$Store" "setting" "I", Cond.fieldLink RX1 47 "OrderedClauses$Store" "heldAlways" "I", Cond.fieldLink RX1 50 "OrderedClauses$Store" "hadAnotherWithin" "I"]
def wsX0_putAside_r2 : List Cond := [Cond.static yX3_copyRow, Cond.initialized RX3, Cond.code yX3_copyRow cX3_copyRow 2 none, Cond.methodLink RX3 193 Lib.Math.min.name, Cond.static Lib.Math.min.name, Cond.initialized "java/lang/Math", Cond.code Lib.Math.min.name Lib.Math.min.code 2 (some .int), Cond.methodLink RX3 198 arraycopyName, Cond.native arraycopyName, Cond.static arraycopyName, Cond.initialized "java/lang/System", Cond.static yX3_copyLongRow, Cond.code yX3_copyLongRow cX3_copyLongRow 2 none]
def wsX0_putAside : List Cond := .code yX0_putAside cX0_putAside 3 none :: ((wsX0_putAside_r1 ++ wsX0_putAside_r2) ++ wsX00 ++ wsX10)
def wsX0_takeBack_r1 : List Cond := [Cond.fieldLink RX0 17 "OrderedClauses$History" "kept" "I", Cond.methodLink RX0 22 yX0_stateAt, Cond.instanceMethod yX0_stateAt, Cond.selects RX0 yX0_stateAt yX0_stateAt, Cond.initialized RX0, Cond.code yX0_stateAt cX0_stateAt 2 (some (.object "OrderedClauses$Store")), Cond.fieldLink RX0 11 "OrderedClauses$History" "states" "[LOrderedClauses$Store;", Cond.instanceMethod yX1_copyFrom, Cond.initialized RX1, Cond.selects RX1 yX1_copyFrom yX1_copyFrom, Cond.code yX1_copyFrom cX1_copyFrom 2 none, Cond.fieldLink RX1 9 "OrderedClauses$Store" "atomOfRank" "[I", Cond.fieldLink RX1 15 "OrderedClauses$Store" "literals" "[I", Cond.fieldLink RX1 18 "OrderedClauses$Store" "status" "[I", Cond.fieldLink RX1 21 "OrderedClauses$Store" "holdingParent" "[I", Cond.fieldLink RX1 24 "OrderedClauses$Store" "otherParent" "[I", Cond.fieldLink RX1 27 "OrderedClauses$Store" "atomMadeBy" "[I", Cond.fieldLink RX1 30 "OrderedClauses$Store" "depth" "[I", Cond.fieldLink RX1 33 "OrderedClauses$Store" "fulfilledBy" "[J", Cond.fieldLink RX1 37 "OrderedClauses$Store" "clauses" "I", Cond.fieldLink RX1 41 "OrderedClauses$Store" "steps" "I", Cond.fieldLink RX1 44 "OrderedClauses$Store" "setting" "I", Cond.fieldLink RX1 47 "OrderedClauses$Store" "heldAlways" "I", Cond.fieldLink RX1 50 "OrderedClauses$Store" "hadAnotherWithin" "I"]
def wsX0_takeBack_r2 : List Cond := [Cond.static yX3_copyRow, Cond.initialized RX3, Cond.code yX3_copyRow cX3_copyRow 2 none, Cond.methodLink RX3 193 Lib.Math.min.name, Cond.static Lib.Math.min.name, Cond.initialized "java/lang/Math", Cond.code Lib.Math.min.name Lib.Math.min.code 2 (some .int), Cond.methodLink RX3 198 arraycopyName, Cond.native arraycopyName, Cond.static arraycopyName, Cond.initialized "java/lang/System", Cond.static yX3_copyLongRow, Cond.code yX3_copyLongRow cX3_copyLongRow 2 none]
def wsX0_takeBack : List Cond := .code yX0_takeBack cX0_takeBack 2 none :: ((wsX0_takeBack_r1 ++ wsX0_takeBack_r2) ++ wsX00 ++ wsX10)
def wsX0_dropOldest : List Cond := .code yX0_dropOldest cX0_dropOldest 4 none :: ([.fieldLink RX0 11 "OrderedClauses$History" "states" "[LOrderedClauses$Store;", .methodLink RX0 22 yX0_stateAt, .instanceMethod yX0_stateAt, .selects RX0 yX0_stateAt yX0_stateAt, .initialized RX0, .code yX0_stateAt cX0_stateAt 2 (some (.object "OrderedClauses$Store"))] ++ wsX00)
def wsX0_keep : List Cond := .code yX0_keep cX0_keep 1 none :: ([.fieldLink RX0 17 "OrderedClauses$History" "kept" "I", .methodLink RX0 30 yX0_dropOldest, .instanceMethod yX0_dropOldest, .selects RX0 yX0_dropOldest yX0_dropOldest, .initialized RX0, .code yX0_dropOldest cX0_dropOldest 4 none, .fieldLink RX0 11 "OrderedClauses$History" "states" "[LOrderedClauses$Store;", .methodLink RX0 22 yX0_stateAt, .instanceMethod yX0_stateAt, .selects RX0 yX0_stateAt yX0_stateAt, .code yX0_stateAt cX0_stateAt 2 (some (.object "OrderedClauses$Store"))] ++ wsX00)
def wsX0_restoreLatest_r1 : List Cond := [Cond.fieldLink RX0 17 "OrderedClauses$History" "kept" "I", Cond.methodLink RX0 22 yX0_stateAt, Cond.instanceMethod yX0_stateAt, Cond.selects RX0 yX0_stateAt yX0_stateAt, Cond.initialized RX0, Cond.code yX0_stateAt cX0_stateAt 2 (some (.object "OrderedClauses$Store")), Cond.fieldLink RX0 11 "OrderedClauses$History" "states" "[LOrderedClauses$Store;", Cond.instanceMethod yX1_copyFrom, Cond.initialized RX1, Cond.selects RX1 yX1_copyFrom yX1_copyFrom, Cond.code yX1_copyFrom cX1_copyFrom 2 none, Cond.fieldLink RX1 9 "OrderedClauses$Store" "atomOfRank" "[I", Cond.fieldLink RX1 15 "OrderedClauses$Store" "literals" "[I", Cond.fieldLink RX1 18 "OrderedClauses$Store" "status" "[I", Cond.fieldLink RX1 21 "OrderedClauses$Store" "holdingParent" "[I", Cond.fieldLink RX1 24 "OrderedClauses$Store" "otherParent" "[I", Cond.fieldLink RX1 27 "OrderedClauses$Store" "atomMadeBy" "[I", Cond.fieldLink RX1 30 "OrderedClauses$Store" "depth" "[I", Cond.fieldLink RX1 33 "OrderedClauses$Store" "fulfilledBy" "[J", Cond.fieldLink RX1 37 "OrderedClauses$Store" "clauses" "I", Cond.fieldLink RX1 41 "OrderedClauses$Store" "steps" "I", Cond.fieldLink RX1 44 "OrderedClauses$Store" "setting" "I", Cond.fieldLink RX1 47 "OrderedClauses$Store" "heldAlways" "I", Cond.fieldLink RX1 50 "OrderedClauses$Store" "hadAnotherWithin" "I"]
def wsX0_restoreLatest_r2 : List Cond := [Cond.static yX3_copyRow, Cond.initialized RX3, Cond.code yX3_copyRow cX3_copyRow 2 none, Cond.methodLink RX3 193 Lib.Math.min.name, Cond.static Lib.Math.min.name, Cond.initialized "java/lang/Math", Cond.code Lib.Math.min.name Lib.Math.min.code 2 (some .int), Cond.methodLink RX3 198 arraycopyName, Cond.native arraycopyName, Cond.static arraycopyName, Cond.initialized "java/lang/System", Cond.static yX3_copyLongRow, Cond.code yX3_copyLongRow cX3_copyLongRow 2 none]
def wsX0_restoreLatest : List Cond := .code yX0_restoreLatest cX0_restoreLatest 2 (some .boolean) :: ((wsX0_restoreLatest_r1 ++ wsX0_restoreLatest_r2) ++ wsX00 ++ wsX10)
def wsX1_has : List Cond := .code yX1_has cX1_has 2 (some .boolean) :: ([.fieldLink RX1 37 "OrderedClauses$Store" "clauses" "I"] ++ wsX10)
def wsX3_at : List Cond := .code yX3_at cX3_at 2 (some .int) :: ([])
def wsX1_isDropped : List Cond := .code yX1_isDropped cX1_isDropped 2 (some .boolean) :: ([.fieldLink RX1 18 "OrderedClauses$Store" "status" "[I", .static yX3_at, .initialized RX3, .code yX3_at cX3_at 2 (some .int)] ++ wsX10)
def wsX1_wasTold : List Cond := .code yX1_wasTold cX1_wasTold 2 (some .boolean) :: ([.fieldLink RX1 21 "OrderedClauses$Store" "holdingParent" "[I", .static yX3_at, .initialized RX3, .code yX3_at cX3_at 2 (some .int)] ++ wsX10)
def wsX1_rankOf : List Cond := .code yX1_rankOf cX1_rankOf 3 (some .int) :: ([.fieldLink RX1 9 "OrderedClauses$Store" "atomOfRank" "[I", .static yX3_at, .initialized RX3, .code yX3_at cX3_at 2 (some .int)] ++ wsX10)
def wsX1_changeRank : List Cond := .code yX1_changeRank cX1_changeRank 5 (some .int) :: ([.fieldLink RX1 9 "OrderedClauses$Store" "atomOfRank" "[I", .fieldLink RX1 37 "OrderedClauses$Store" "clauses" "I", .fieldLink RX1 18 "OrderedClauses$Store" "status" "[I", .methodLink RX1 69 yX1_rankOf, .instanceMethod yX1_rankOf, .selects RX1 yX1_rankOf yX1_rankOf, .initialized RX1, .code yX1_rankOf cX1_rankOf 3 (some .int), .static yX3_at, .initialized RX3, .code yX3_at cX3_at 2 (some .int), .static yX3_put, .code yX3_put cX3_put 3 none] ++ wsX10)
def wsX1_greatestOf : List Cond := .code yX1_greatestOf cX1_greatestOf 5 (some .int) :: ([.fieldLink RX1 9 "OrderedClauses$Store" "atomOfRank" "[I", .static yX3_at, .initialized RX3, .code yX3_at cX3_at 2 (some .int)] ++ wsX10)
def wsX3_isIn : List Cond := .code yX3_isIn cX3_isIn 3 (some .boolean) :: ([])
def wsX1_isLess : List Cond := .code yX1_isLess cX1_isLess 4 (some .boolean) :: ([.methodLink RX1 73 yX1_greatestOf, .instanceMethod yX1_greatestOf, .selects RX1 yX1_greatestOf yX1_greatestOf, .initialized RX1, .code yX1_greatestOf cX1_greatestOf 5 (some .int), .fieldLink RX1 9 "OrderedClauses$Store" "atomOfRank" "[I", .static yX3_at, .initialized RX3, .code yX3_at cX3_at 2 (some .int), .static yX3_isIn, .code yX3_isIn cX3_isIn 3 (some .boolean)] ++ wsX10)
def wsX1_howManyLessThan : List Cond := .code yX1_howManyLessThan cX1_howManyLessThan 4 (some .int) :: ([.fieldLink RX1 37 "OrderedClauses$Store" "clauses" "I", .fieldLink RX1 15 "OrderedClauses$Store" "literals" "[I", .methodLink RX1 80 yX1_isDropped, .instanceMethod yX1_isDropped, .selects RX1 yX1_isDropped yX1_isDropped, .initialized RX1, .code yX1_isDropped cX1_isDropped 2 (some .boolean), .fieldLink RX1 18 "OrderedClauses$Store" "status" "[I", .static yX3_at, .initialized RX3, .code yX3_at cX3_at 2 (some .int), .methodLink RX1 84 yX1_isLess, .instanceMethod yX1_isLess, .selects RX1 yX1_isLess yX1_isLess, .code yX1_isLess cX1_isLess 4 (some .boolean), .methodLink RX1 73 yX1_greatestOf, .instanceMethod yX1_greatestOf, .selects RX1 yX1_greatestOf yX1_greatestOf, .code yX1_greatestOf cX1_greatestOf 5 (some .int), .fieldLink RX1 9 "OrderedClauses$Store" "atomOfRank" "[I", .static yX3_isIn, .code yX3_isIn cX3_isIn 3 (some .boolean)] ++ wsX10)
def wsX1_howMany : List Cond := .code yX1_howMany cX1_howMany 4 (some .int) :: ([.fieldLink RX1 37 "OrderedClauses$Store" "clauses" "I", .fieldLink RX1 18 "OrderedClauses$Store" "status" "[I", .static yX3_at, .initialized RX3, .code yX3_at cX3_at 2 (some .int)] ++ wsX10)
def wsX1_emptyClause : List Cond := .code yX1_emptyClause cX1_emptyClause 2 (some .int) :: ([.fieldLink RX1 37 "OrderedClauses$Store" "clauses" "I", .fieldLink RX1 15 "OrderedClauses$Store" "literals" "[I", .static yX3_at, .initialized RX3, .code yX3_at cX3_at 2 (some .int)] ++ wsX10)
def wsX3_holdsAlways : List Cond := .code yX3_holdsAlways cX3_holdsAlways 1 (some .boolean) :: ([])
def wsX3_isWithin : List Cond := .code yX3_isWithin cX3_isWithin 2 (some .boolean) :: ([])
def wsX1_hasAnotherWithin : List Cond := .code yX1_hasAnotherWithin cX1_hasAnotherWithin 3 (some .boolean) :: ([.fieldLink RX1 37 "OrderedClauses$Store" "clauses" "I", .fieldLink RX1 15 "OrderedClauses$Store" "literals" "[I", .methodLink RX1 80 yX1_isDropped, .instanceMethod yX1_isDropped, .selects RX1 yX1_isDropped yX1_isDropped, .initialized RX1, .code yX1_isDropped cX1_isDropped 2 (some .boolean), .fieldLink RX1 18 "OrderedClauses$Store" "status" "[I", .static yX3_at, .initialized RX3, .code yX3_at cX3_at 2 (some .int), .static yX3_isWithin, .code yX3_isWithin cX3_isWithin 2 (some .boolean)] ++ wsX10)
def wsX1_dropAllAround : List Cond := .code yX1_dropAllAround cX1_dropAllAround 3 none :: ([.fieldLink RX1 37 "OrderedClauses$Store" "clauses" "I", .fieldLink RX1 15 "OrderedClauses$Store" "literals" "[I", .fieldLink RX1 18 "OrderedClauses$Store" "status" "[I", .static yX3_at, .initialized RX3, .code yX3_at cX3_at 2 (some .int), .static yX3_isWithin, .code yX3_isWithin cX3_isWithin 2 (some .boolean), .static yX3_put, .code yX3_put cX3_put 3 none] ++ wsX10)
def wsX3_longAt : List Cond := .code yX3_longAt cX3_longAt 2 (some .long) :: ([])
def wsX3_valuesOfClause : List Cond := .code yX3_valuesOfClause cX3_valuesOfClause 7 (some .long) :: ([.fieldLink RX3 204 "OrderedClauses" "VALUES_WITH_ATOM" "[J", .constantLong RX3 145 (-1), .methodLink RX3 208 yX3_longAt, .static yX3_longAt, .initialized RX3, .code yX3_longAt cX3_longAt 2 (some .long)])
def wsX3_putLong : List Cond := .code yX3_putLong cX3_putLong 4 none :: ([])
def wsX1_takeIn_r1 : List Cond := [Cond.fieldLink RX1 37 "OrderedClauses$Store" "clauses" "I", Cond.fieldLink RX1 15 "OrderedClauses$Store" "literals" "[I", Cond.fieldLink RX1 18 "OrderedClauses$Store" "status" "[I", Cond.fieldLink RX1 21 "OrderedClauses$Store" "holdingParent" "[I", Cond.fieldLink RX1 24 "OrderedClauses$Store" "otherParent" "[I", Cond.fieldLink RX1 27 "OrderedClauses$Store" "atomMadeBy" "[I", Cond.fieldLink RX1 30 "OrderedClauses$Store" "depth" "[I", Cond.methodLink RX1 106 Lib.Math.max.name, Cond.static Lib.Math.max.name, Cond.initialized "java/lang/Math", Cond.code Lib.Math.max.name Lib.Math.max.code 2 (some .int), Cond.fieldLink RX1 33 "OrderedClauses$Store" "fulfilledBy" "[J", Cond.static yX3_put, Cond.initialized RX3, Cond.code yX3_put cX3_put 3 none, Cond.static yX3_at, Cond.code yX3_at cX3_at 2 (some .int), Cond.static yX3_valuesOfClause, Cond.code yX3_valuesOfClause cX3_valuesOfClause 7 (some .long), Cond.fieldLink RX3 204 "OrderedClauses" "VALUES_WITH_ATOM" "[J", Cond.constantLong RX3 145 (-1), Cond.methodLink RX3 208 yX3_longAt, Cond.static yX3_longAt, Cond.code yX3_longAt cX3_longAt 2 (some .long)]
def wsX1_takeIn_r2 : List Cond := [Cond.static yX3_putLong, Cond.code yX3_putLong cX3_putLong 4 none]
def wsX1_takeIn : List Cond := .code yX1_takeIn cX1_takeIn 7 (some .int) :: ((wsX1_takeIn_r1 ++ wsX1_takeIn_r2) ++ wsX10)
def wsX1_bring_r1 : List Cond := [Cond.fieldLink RX1 47 "OrderedClauses$Store" "heldAlways" "I", Cond.fieldLink RX1 50 "OrderedClauses$Store" "hadAnotherWithin" "I", Cond.fieldLink RX1 37 "OrderedClauses$Store" "clauses" "I", Cond.constant RX1 94 (-1000003), Cond.static yX3_holdsAlways, Cond.initialized RX3, Cond.code yX3_holdsAlways cX3_holdsAlways 1 (some .boolean), Cond.methodLink RX1 91 yX1_hasAnotherWithin, Cond.instanceMethod yX1_hasAnotherWithin, Cond.selects RX1 yX1_hasAnotherWithin yX1_hasAnotherWithin, Cond.initialized RX1, Cond.code yX1_hasAnotherWithin cX1_hasAnotherWithin 3 (some .boolean), Cond.fieldLink RX1 15 "OrderedClauses$Store" "literals" "[I", Cond.methodLink RX1 80 yX1_isDropped, Cond.instanceMethod yX1_isDropped, Cond.selects RX1 yX1_isDropped yX1_isDropped, Cond.code yX1_isDropped cX1_isDropped 2 (some .boolean), Cond.fieldLink RX1 18 "OrderedClauses$Store" "status" "[I", Cond.static yX3_at, Cond.code yX3_at cX3_at 2 (some .int), Cond.static yX3_isWithin, Cond.code yX3_isWithin cX3_isWithin 2 (some .boolean), Cond.methodLink RX1 95 yX1_dropAllAround, Cond.instanceMethod yX1_dropAllAround]
def wsX1_bring_r2 : List Cond := [Cond.selects RX1 yX1_dropAllAround yX1_dropAllAround, Cond.code yX1_dropAllAround cX1_dropAllAround 3 none, Cond.static yX3_put, Cond.code yX3_put cX3_put 3 none, Cond.methodLink RX1 99 yX1_takeIn, Cond.instanceMethod yX1_takeIn, Cond.selects RX1 yX1_takeIn yX1_takeIn, Cond.code yX1_takeIn cX1_takeIn 7 (some .int), Cond.fieldLink RX1 21 "OrderedClauses$Store" "holdingParent" "[I", Cond.fieldLink RX1 24 "OrderedClauses$Store" "otherParent" "[I", Cond.fieldLink RX1 27 "OrderedClauses$Store" "atomMadeBy" "[I", Cond.fieldLink RX1 30 "OrderedClauses$Store" "depth" "[I", Cond.methodLink RX1 106 Lib.Math.max.name, Cond.static Lib.Math.max.name, Cond.initialized "java/lang/Math", Cond.code Lib.Math.max.name Lib.Math.max.code 2 (some .int), Cond.fieldLink RX1 33 "OrderedClauses$Store" "fulfilledBy" "[J", Cond.static yX3_valuesOfClause, Cond.code yX3_valuesOfClause cX3_valuesOfClause 7 (some .long), Cond.fieldLink RX3 204 "OrderedClauses" "VALUES_WITH_ATOM" "[J", Cond.constantLong RX3 145 (-1), Cond.methodLink RX3 208 yX3_longAt, Cond.static yX3_longAt, Cond.code yX3_longAt cX3_longAt 2 (some .long)]
def wsX1_bring_r3 : List Cond := [Cond.static yX3_putLong, Cond.code yX3_putLong cX3_putLong 4 none]
def wsX1_bring : List Cond := .code yX1_bring cX1_bring 5 (some .int) :: ((wsX1_bring_r1 ++ (wsX1_bring_r2 ++ wsX1_bring_r3)) ++ wsX10)
def wsJ6_bitCount_0f7a4 : List Cond := .code yJ6_bitCount_0f7a4 cJ6_bitCount_0f7a4 1 (some .int) :: ([.constant RJ6 265 (1431655765), .constant RJ6 266 (858993459), .constant RJ6 267 (252645135)])
def wsX1_nextChoice : List Cond := .code yX1_nextChoice cX1_nextChoice 6 (some .int) :: ([.fieldLink RX1 44 "OrderedClauses$Store" "setting" "I", .fieldLink RX1 41 "OrderedClauses$Store" "steps" "I", .fieldLink RX1 37 "OrderedClauses$Store" "clauses" "I", .fieldLink RX1 15 "OrderedClauses$Store" "literals" "[I", .fieldLink RX1 18 "OrderedClauses$Store" "status" "[I", .static yX3_at, .initialized RX3, .code yX3_at cX3_at 2 (some .int), .methodLink RX1 131 yJ6_bitCount_0f7a4, .static yJ6_bitCount_0f7a4, .initialized RJ6, .code yJ6_bitCount_0f7a4 cJ6_bitCount_0f7a4 1 (some .int), .constant RJ6 265 (1431655765), .constant RJ6 266 (858993459), .constant RJ6 267 (252645135)] ++ wsX10)
def wsX1_resolveWithDone_r1 : List Cond := [Cond.fieldLink RX1 15 "OrderedClauses$Store" "literals" "[I", Cond.fieldLink RX1 37 "OrderedClauses$Store" "clauses" "I", Cond.fieldLink RX1 18 "OrderedClauses$Store" "status" "[I", Cond.constant RX1 94 (-1000003), Cond.static yX3_at, Cond.initialized RX3, Cond.code yX3_at cX3_at 2 (some .int), Cond.methodLink RX1 73 yX1_greatestOf, Cond.instanceMethod yX1_greatestOf, Cond.selects RX1 yX1_greatestOf yX1_greatestOf, Cond.initialized RX1, Cond.code yX1_greatestOf cX1_greatestOf 5 (some .int), Cond.fieldLink RX1 9 "OrderedClauses$Store" "atomOfRank" "[I", Cond.methodLink RX1 80 yX1_isDropped, Cond.instanceMethod yX1_isDropped, Cond.selects RX1 yX1_isDropped yX1_isDropped, Cond.code yX1_isDropped cX1_isDropped 2 (some .boolean), Cond.methodLink RX1 136 yX1_bring, Cond.instanceMethod yX1_bring, Cond.selects RX1 yX1_bring yX1_bring, Cond.code yX1_bring cX1_bring 5 (some .int), Cond.fieldLink RX1 47 "OrderedClauses$Store" "heldAlways" "I", Cond.fieldLink RX1 50 "OrderedClauses$Store" "hadAnotherWithin" "I", Cond.static yX3_holdsAlways]
def wsX1_resolveWithDone_r2 : List Cond := [Cond.code yX3_holdsAlways cX3_holdsAlways 1 (some .boolean), Cond.methodLink RX1 91 yX1_hasAnotherWithin, Cond.instanceMethod yX1_hasAnotherWithin, Cond.selects RX1 yX1_hasAnotherWithin yX1_hasAnotherWithin, Cond.code yX1_hasAnotherWithin cX1_hasAnotherWithin 3 (some .boolean), Cond.static yX3_isWithin, Cond.code yX3_isWithin cX3_isWithin 2 (some .boolean), Cond.methodLink RX1 95 yX1_dropAllAround, Cond.instanceMethod yX1_dropAllAround, Cond.selects RX1 yX1_dropAllAround yX1_dropAllAround, Cond.code yX1_dropAllAround cX1_dropAllAround 3 none, Cond.static yX3_put, Cond.code yX3_put cX3_put 3 none, Cond.methodLink RX1 99 yX1_takeIn, Cond.instanceMethod yX1_takeIn, Cond.selects RX1 yX1_takeIn yX1_takeIn, Cond.code yX1_takeIn cX1_takeIn 7 (some .int), Cond.fieldLink RX1 21 "OrderedClauses$Store" "holdingParent" "[I", Cond.fieldLink RX1 24 "OrderedClauses$Store" "otherParent" "[I", Cond.fieldLink RX1 27 "OrderedClauses$Store" "atomMadeBy" "[I", Cond.fieldLink RX1 30 "OrderedClauses$Store" "depth" "[I", Cond.methodLink RX1 106 Lib.Math.max.name, Cond.static Lib.Math.max.name, Cond.initialized "java/lang/Math"]
def wsX1_resolveWithDone_r3 : List Cond := [Cond.code Lib.Math.max.name Lib.Math.max.code 2 (some .int), Cond.fieldLink RX1 33 "OrderedClauses$Store" "fulfilledBy" "[J", Cond.static yX3_valuesOfClause, Cond.code yX3_valuesOfClause cX3_valuesOfClause 7 (some .long), Cond.fieldLink RX3 204 "OrderedClauses" "VALUES_WITH_ATOM" "[J", Cond.constantLong RX3 145 (-1), Cond.methodLink RX3 208 yX3_longAt, Cond.static yX3_longAt, Cond.code yX3_longAt cX3_longAt 2 (some .long), Cond.static yX3_putLong, Cond.code yX3_putLong cX3_putLong 4 none]
def wsX1_resolveWithDone : List Cond := .code yX1_resolveWithDone cX1_resolveWithDone 10 (some .boolean) :: ((wsX1_resolveWithDone_r1 ++ (wsX1_resolveWithDone_r2 ++ wsX1_resolveWithDone_r3)) ++ wsX10)
def wsX1_takeStep_r1 : List Cond := [Cond.constant RX1 127 (-1000002), Cond.fieldLink RX1 41 "OrderedClauses$Store" "steps" "I", Cond.fieldLink RX1 18 "OrderedClauses$Store" "status" "[I", Cond.constant RX1 94 (-1000003), Cond.methodLink RX1 120 yX1_emptyClause, Cond.instanceMethod yX1_emptyClause, Cond.selects RX1 yX1_emptyClause yX1_emptyClause, Cond.initialized RX1, Cond.code yX1_emptyClause cX1_emptyClause 2 (some .int), Cond.fieldLink RX1 37 "OrderedClauses$Store" "clauses" "I", Cond.fieldLink RX1 15 "OrderedClauses$Store" "literals" "[I", Cond.static yX3_at, Cond.initialized RX3, Cond.code yX3_at cX3_at 2 (some .int), Cond.methodLink RX1 124 yX1_nextChoice, Cond.instanceMethod yX1_nextChoice, Cond.selects RX1 yX1_nextChoice yX1_nextChoice, Cond.code yX1_nextChoice cX1_nextChoice 6 (some .int), Cond.fieldLink RX1 44 "OrderedClauses$Store" "setting" "I", Cond.methodLink RX1 131 yJ6_bitCount_0f7a4, Cond.static yJ6_bitCount_0f7a4, Cond.initialized RJ6, Cond.code yJ6_bitCount_0f7a4 cJ6_bitCount_0f7a4 1 (some .int), Cond.constant RJ6 265 (1431655765)]
def wsX1_takeStep_r2 : List Cond := [Cond.constant RJ6 266 (858993459), Cond.constant RJ6 267 (252645135), Cond.static yX3_put, Cond.code yX3_put cX3_put 3 none, Cond.methodLink RX1 128 yX1_resolveWithDone, Cond.instanceMethod yX1_resolveWithDone, Cond.selects RX1 yX1_resolveWithDone yX1_resolveWithDone, Cond.code yX1_resolveWithDone cX1_resolveWithDone 10 (some .boolean), Cond.methodLink RX1 73 yX1_greatestOf, Cond.instanceMethod yX1_greatestOf, Cond.selects RX1 yX1_greatestOf yX1_greatestOf, Cond.code yX1_greatestOf cX1_greatestOf 5 (some .int), Cond.fieldLink RX1 9 "OrderedClauses$Store" "atomOfRank" "[I", Cond.methodLink RX1 80 yX1_isDropped, Cond.instanceMethod yX1_isDropped, Cond.selects RX1 yX1_isDropped yX1_isDropped, Cond.code yX1_isDropped cX1_isDropped 2 (some .boolean), Cond.methodLink RX1 136 yX1_bring, Cond.instanceMethod yX1_bring, Cond.selects RX1 yX1_bring yX1_bring, Cond.code yX1_bring cX1_bring 5 (some .int), Cond.fieldLink RX1 47 "OrderedClauses$Store" "heldAlways" "I", Cond.fieldLink RX1 50 "OrderedClauses$Store" "hadAnotherWithin" "I", Cond.static yX3_holdsAlways]
def wsX1_takeStep_r3 : List Cond := [Cond.code yX3_holdsAlways cX3_holdsAlways 1 (some .boolean), Cond.methodLink RX1 91 yX1_hasAnotherWithin, Cond.instanceMethod yX1_hasAnotherWithin, Cond.selects RX1 yX1_hasAnotherWithin yX1_hasAnotherWithin, Cond.code yX1_hasAnotherWithin cX1_hasAnotherWithin 3 (some .boolean), Cond.static yX3_isWithin, Cond.code yX3_isWithin cX3_isWithin 2 (some .boolean), Cond.methodLink RX1 95 yX1_dropAllAround, Cond.instanceMethod yX1_dropAllAround, Cond.selects RX1 yX1_dropAllAround yX1_dropAllAround, Cond.code yX1_dropAllAround cX1_dropAllAround 3 none, Cond.methodLink RX1 99 yX1_takeIn, Cond.instanceMethod yX1_takeIn, Cond.selects RX1 yX1_takeIn yX1_takeIn, Cond.code yX1_takeIn cX1_takeIn 7 (some .int), Cond.fieldLink RX1 21 "OrderedClauses$Store" "holdingParent" "[I", Cond.fieldLink RX1 24 "OrderedClauses$Store" "otherParent" "[I", Cond.fieldLink RX1 27 "OrderedClauses$Store" "atomMadeBy" "[I", Cond.fieldLink RX1 30 "OrderedClauses$Store" "depth" "[I", Cond.methodLink RX1 106 Lib.Math.max.name, Cond.static Lib.Math.max.name, Cond.initialized "java/lang/Math", Cond.code Lib.Math.max.name Lib.Math.max.code 2 (some .int), Cond.fieldLink RX1 33 "OrderedClauses$Store" "fulfilledBy" "[J"]
def wsX1_takeStep_r4 : List Cond := [Cond.static yX3_valuesOfClause, Cond.code yX3_valuesOfClause cX3_valuesOfClause 7 (some .long), Cond.fieldLink RX3 204 "OrderedClauses" "VALUES_WITH_ATOM" "[J", Cond.constantLong RX3 145 (-1), Cond.methodLink RX3 208 yX3_longAt, Cond.static yX3_longAt, Cond.code yX3_longAt cX3_longAt 2 (some .long), Cond.static yX3_putLong, Cond.code yX3_putLong cX3_putLong 4 none]
def wsX1_takeStep : List Cond := .code yX1_takeStep cX1_takeStep 2 (some .int) :: ((wsX1_takeStep_r1 ++ (wsX1_takeStep_r2 ++ (wsX1_takeStep_r3 ++ wsX1_takeStep_r4))) ++ wsX10)
def wsX3_setOf : List Cond := .code yX3_setOf cX3_setOf 1 (some .long) :: ([])
def wsX1_treeOf : List Cond := .code yX1_treeOf cX1_treeOf 5 (some .long) :: ([.fieldLink RX1 21 "OrderedClauses$Store" "holdingParent" "[I", .fieldLink RX1 24 "OrderedClauses$Store" "otherParent" "[I", .static yX3_setOf, .initialized RX3, .code yX3_setOf cX3_setOf 1 (some .long), .static yX3_isIn, .code yX3_isIn cX3_isIn 3 (some .boolean), .static yX3_at, .code yX3_at cX3_at 2 (some .int)] ++ wsX10)
def wsX1_mostLiterals : List Cond := .code yX1_mostLiterals cX1_mostLiterals 5 (some .int) :: ([.fieldLink RX1 37 "OrderedClauses$Store" "clauses" "I", .fieldLink RX1 15 "OrderedClauses$Store" "literals" "[I", .methodLink RX1 106 Lib.Math.max.name, .static Lib.Math.max.name, .initialized "java/lang/Math", .code Lib.Math.max.name Lib.Math.max.code 2 (some .int), .static yX3_isIn, .initialized RX3, .code yX3_isIn cX3_isIn 3 (some .boolean), .static yX3_at, .code yX3_at cX3_at 2 (some .int), .methodLink RX1 131 yJ6_bitCount_0f7a4, .static yJ6_bitCount_0f7a4, .initialized RJ6, .code yJ6_bitCount_0f7a4 cJ6_bitCount_0f7a4 1 (some .int), .constant RJ6 265 (1431655765), .constant RJ6 266 (858993459), .constant RJ6 267 (252645135)] ++ wsX10)
def wsX1_toldClauses : List Cond := .code yX1_toldClauses cX1_toldClauses 4 (some .long) :: ([.fieldLink RX1 37 "OrderedClauses$Store" "clauses" "I", .methodLink RX1 142 yX1_wasTold, .instanceMethod yX1_wasTold, .selects RX1 yX1_wasTold yX1_wasTold, .initialized RX1, .code yX1_wasTold cX1_wasTold 2 (some .boolean), .fieldLink RX1 21 "OrderedClauses$Store" "holdingParent" "[I", .static yX3_at, .initialized RX3, .code yX3_at cX3_at 2 (some .int), .static yX3_setOf, .code yX3_setOf cX3_setOf 1 (some .long)] ++ wsX10)
def wsX1_valuesFulfilling : List Cond := .code yX1_valuesFulfilling cX1_valuesFulfilling 6 (some .long) :: ([.constantLong RX1 145 (-1), .fieldLink RX1 37 "OrderedClauses$Store" "clauses" "I", .fieldLink RX1 33 "OrderedClauses$Store" "fulfilledBy" "[J", .static yX3_isIn, .initialized RX3, .code yX3_isIn cX3_isIn 3 (some .boolean), .static yX3_longAt, .code yX3_longAt cX3_longAt 2 (some .long)] ++ wsX10)
def wsX1_clausesBrokenBy : List Cond := .code yX1_clausesBrokenBy cX1_clausesBrokenBy 5 (some .long) :: ([.fieldLink RX1 37 "OrderedClauses$Store" "clauses" "I", .fieldLink RX1 33 "OrderedClauses$Store" "fulfilledBy" "[J", .methodLink RX1 80 yX1_isDropped, .instanceMethod yX1_isDropped, .selects RX1 yX1_isDropped yX1_isDropped, .initialized RX1, .code yX1_isDropped cX1_isDropped 2 (some .boolean), .fieldLink RX1 18 "OrderedClauses$Store" "status" "[I", .static yX3_at, .initialized RX3, .code yX3_at cX3_at 2 (some .int), .static yX3_longAt, .code yX3_longAt cX3_longAt 2 (some .long), .static yX3_isIn, .code yX3_isIn cX3_isIn 3 (some .boolean), .static yX3_setOf, .code yX3_setOf cX3_setOf 1 (some .long)] ++ wsX10)
def wsX1_fewestUnfulfillable : List Cond := .code yX1_fewestUnfulfillable cX1_fewestUnfulfillable 8 (some .long) :: ([.fieldLink RX1 37 "OrderedClauses$Store" "clauses" "I", .constantLong RX1 145 (-1), .static yX3_setOf, .initialized RX3, .code yX3_setOf cX3_setOf 1 (some .long), .methodLink RX1 151 yX1_valuesFulfilling, .instanceMethod yX1_valuesFulfilling, .selects RX1 yX1_valuesFulfilling yX1_valuesFulfilling, .initialized RX1, .code yX1_valuesFulfilling cX1_valuesFulfilling 6 (some .long), .fieldLink RX1 33 "OrderedClauses$Store" "fulfilledBy" "[J", .static yX3_isIn, .code yX3_isIn cX3_isIn 3 (some .boolean), .static yX3_longAt, .code yX3_longAt cX3_longAt 2 (some .long)] ++ wsX10)
def wsX2_init : List Cond := .code yX2_init cX2_init 1 none :: ([.methodLink RX2 3 objectInit, .instanceMethod objectInit, .code objectInit ⟨#[0xb1]⟩ 1 none, .arrayClass .int, .fieldLink RX2 9 "OrderedClauses$Text" "characters" "[I", .fieldLink RX2 15 "OrderedClauses$Text" "length" "I"] ++ wsX20)
def wsX2_add : List Cond := .code yX2_add cX2_add 2 (some .boolean) :: ([.fieldLink RX2 15 "OrderedClauses$Text" "length" "I", .fieldLink RX2 9 "OrderedClauses$Text" "characters" "[I", .static yX3_put, .initialized RX3, .code yX3_put cX3_put 3 none] ++ wsX20)
def wsX2_whereItBreaksOff : List Cond := .code yX2_whereItBreaksOff cX2_whereItBreaksOff 5 (some .int) :: ([.fieldLink RX2 15 "OrderedClauses$Text" "length" "I", .fieldLink RX2 9 "OrderedClauses$Text" "characters" "[I", .static yX3_at, .initialized RX3, .code yX3_at cX3_at 2 (some .int)] ++ wsX20)
def wsX2_startOfClause : List Cond := .code yX2_startOfClause cX2_startOfClause 3 (some .int) :: ([.fieldLink RX2 9 "OrderedClauses$Text" "characters" "[I", .static yX3_at, .initialized RX3, .code yX3_at cX3_at 2 (some .int)] ++ wsX20)
def wsX3_init_r1 : List Cond := [Cond.methodLink RX3 1 objectInit, Cond.instanceMethod objectInit, Cond.code objectInit ⟨#[0xb1]⟩ 1 none, Cond.classLink RX3 7 RX1, Cond.instantiable RX1 13, Cond.initialized RX1, Cond.fieldLink RX3 10 "OrderedClauses" "store" "LOrderedClauses$Store;", Cond.classLink RX3 16 RX0, Cond.instantiable RX0 2, Cond.initialized RX0, Cond.fieldLink RX3 19 "OrderedClauses" "history" "LOrderedClauses$History;", Cond.classLink RX3 23 RX2, Cond.instantiable RX2 2, Cond.initialized RX2, Cond.fieldLink RX3 26 "OrderedClauses" "text" "LOrderedClauses$Text;", Cond.instanceMethod yX1_init, Cond.code yX1_init cX1_init 2 none, Cond.methodLink RX1 3 objectInit, Cond.arrayClass .int, Cond.fieldLink RX1 9 "OrderedClauses$Store" "atomOfRank" "[I", Cond.fieldLink RX1 15 "OrderedClauses$Store" "literals" "[I", Cond.fieldLink RX1 18 "OrderedClauses$Store" "status" "[I", Cond.fieldLink RX1 21 "OrderedClauses$Store" "holdingParent" "[I", Cond.fieldLink RX1 24 "OrderedClauses$Store" "otherParent" "[I"]
def wsX3_init_r2 : List Cond := [Cond.fieldLink RX1 27 "OrderedClauses$Store" "atomMadeBy" "[I", Cond.fieldLink RX1 30 "OrderedClauses$Store" "depth" "[I", Cond.arrayClass .long, Cond.fieldLink RX1 33 "OrderedClauses$Store" "fulfilledBy" "[J", Cond.fieldLink RX1 37 "OrderedClauses$Store" "clauses" "I", Cond.fieldLink RX1 41 "OrderedClauses$Store" "steps" "I", Cond.fieldLink RX1 44 "OrderedClauses$Store" "setting" "I", Cond.fieldLink RX1 47 "OrderedClauses$Store" "heldAlways" "I", Cond.fieldLink RX1 50 "OrderedClauses$Store" "hadAnotherWithin" "I", Cond.static yX3_put, Cond.initialized RX3, Cond.code yX3_put cX3_put 3 none, Cond.instanceMethod yX0_init, Cond.code yX0_init cX0_init 2 none, Cond.methodLink RX0 3 objectInit, Cond.classLink RX0 9 RX1, Cond.fieldLink RX0 11 "OrderedClauses$History" "states" "[LOrderedClauses$Store;", Cond.fieldLink RX0 17 "OrderedClauses$History" "kept" "I", Cond.instanceMethod yX2_init, Cond.code yX2_init cX2_init 1 none, Cond.methodLink RX2 3 objectInit, Cond.fieldLink RX2 9 "OrderedClauses$Text" "characters" "[I", Cond.fieldLink RX2 15 "OrderedClauses$Text" "length" "I"]
def wsX3_init : List Cond := .code yX3_init cX3_init 1 none :: ((wsX3_init_r1 ++ wsX3_init_r2) ++ wsX10 ++ wsX30 ++ wsX00 ++ wsX20)
def wsX3_settle_r1 : List Cond := [Cond.constant RX3 30 (-1000001), Cond.fieldLink RX3 19 "OrderedClauses" "history" "LOrderedClauses$History;", Cond.fieldLink RX3 10 "OrderedClauses" "store" "LOrderedClauses$Store;", Cond.instanceMethod yX0_takeBack, Cond.initialized RX0, Cond.selects RX0 yX0_takeBack yX0_takeBack, Cond.code yX0_takeBack cX0_takeBack 2 none, Cond.fieldLink RX0 17 "OrderedClauses$History" "kept" "I", Cond.methodLink RX0 22 yX0_stateAt, Cond.instanceMethod yX0_stateAt, Cond.selects RX0 yX0_stateAt yX0_stateAt, Cond.code yX0_stateAt cX0_stateAt 2 (some (.object "OrderedClauses$Store")), Cond.fieldLink RX0 11 "OrderedClauses$History" "states" "[LOrderedClauses$Store;", Cond.instanceMethod yX1_copyFrom, Cond.initialized RX1, Cond.selects RX1 yX1_copyFrom yX1_copyFrom, Cond.code yX1_copyFrom cX1_copyFrom 2 none, Cond.fieldLink RX1 9 "OrderedClauses$Store" "atomOfRank" "[I", Cond.fieldLink RX1 15 "OrderedClauses$Store" "literals" "[I", Cond.fieldLink RX1 18 "OrderedClauses$Store" "status" "[I", Cond.fieldLink RX1 21 "OrderedClauses$Store" "holdingParent" "[I", Cond.fieldLink RX1 24 "OrderedClauses$Store" "otherParent" "[I", Cond.fieldLink RX1 27 "OrderedClauses$Store" "atomMadeBy" "[I", Cond.fieldLink RX1 30 "OrderedClauses$Store" "depth" "[I"]
def wsX3_settle_r2 : List Cond := [Cond.fieldLink RX1 33 "OrderedClauses$Store" "fulfilledBy" "[J", Cond.fieldLink RX1 37 "OrderedClauses$Store" "clauses" "I", Cond.fieldLink RX1 41 "OrderedClauses$Store" "steps" "I", Cond.fieldLink RX1 44 "OrderedClauses$Store" "setting" "I", Cond.fieldLink RX1 47 "OrderedClauses$Store" "heldAlways" "I", Cond.fieldLink RX1 50 "OrderedClauses$Store" "hadAnotherWithin" "I", Cond.static yX3_copyRow, Cond.initialized RX3, Cond.code yX3_copyRow cX3_copyRow 2 none, Cond.methodLink RX3 193 Lib.Math.min.name, Cond.static Lib.Math.min.name, Cond.initialized "java/lang/Math", Cond.code Lib.Math.min.name Lib.Math.min.code 2 (some .int), Cond.methodLink RX3 198 arraycopyName, Cond.native arraycopyName, Cond.static arraycopyName, Cond.initialized "java/lang/System", Cond.static yX3_copyLongRow, Cond.code yX3_copyLongRow cX3_copyLongRow 2 none, Cond.instanceMethod yX0_keep, Cond.selects RX0 yX0_keep yX0_keep, Cond.code yX0_keep cX0_keep 1 none, Cond.methodLink RX0 30 yX0_dropOldest, Cond.instanceMethod yX0_dropOldest]
def wsX3_settle_r3 : List Cond := [Cond.selects RX0 yX0_dropOldest yX0_dropOldest, Cond.code yX0_dropOldest cX0_dropOldest 4 none]
def wsX3_settle : List Cond := .code yX3_settle cX3_settle 2 (some .int) :: ((wsX3_settle_r1 ++ (wsX3_settle_r2 ++ wsX3_settle_r3)) ++ wsX30 ++ wsX00 ++ wsX10)
def wsX3_tell_r1 : List Cond := [Cond.constant RX3 30 (-1000001), Cond.fieldLink RX3 19 "OrderedClauses" "history" "LOrderedClauses$History;", Cond.fieldLink RX3 10 "OrderedClauses" "store" "LOrderedClauses$Store;", Cond.instanceMethod yX0_putAside, Cond.initialized RX0, Cond.selects RX0 yX0_putAside yX0_putAside, Cond.code yX0_putAside cX0_putAside 3 none, Cond.fieldLink RX0 17 "OrderedClauses$History" "kept" "I", Cond.methodLink RX0 22 yX0_stateAt, Cond.instanceMethod yX0_stateAt, Cond.selects RX0 yX0_stateAt yX0_stateAt, Cond.code yX0_stateAt cX0_stateAt 2 (some (.object "OrderedClauses$Store")), Cond.fieldLink RX0 11 "OrderedClauses$History" "states" "[LOrderedClauses$Store;", Cond.instanceMethod yX1_copyFrom, Cond.initialized RX1, Cond.selects RX1 yX1_copyFrom yX1_copyFrom, Cond.code yX1_copyFrom cX1_copyFrom 2 none, Cond.fieldLink RX1 9 "OrderedClauses$Store" "atomOfRank" "[I", Cond.fieldLink RX1 15 "OrderedClauses$Store" "literals" "[I", Cond.fieldLink RX1 18 "OrderedClauses$Store" "status" "[I", Cond.fieldLink RX1 21 "OrderedClauses$Store" "holdingParent" "[I", Cond.fieldLink RX1 24 "OrderedClauses$Store" "otherParent" "[I", Cond.fieldLink RX1 27 "OrderedClauses$Store" "atomMadeBy" "[I", Cond.fieldLink RX1 30 "OrderedClauses$Store" "depth" "[I"]
def wsX3_tell_r2 : List Cond := [Cond.fieldLink RX1 33 "OrderedClauses$Store" "fulfilledBy" "[J", Cond.fieldLink RX1 37 "OrderedClauses$Store" "clauses" "I", Cond.fieldLink RX1 41 "OrderedClauses$Store" "steps" "I", Cond.fieldLink RX1 44 "OrderedClauses$Store" "setting" "I", Cond.fieldLink RX1 47 "OrderedClauses$Store" "heldAlways" "I", Cond.fieldLink RX1 50 "OrderedClauses$Store" "hadAnotherWithin" "I", Cond.static yX3_copyRow, Cond.initialized RX3, Cond.code yX3_copyRow cX3_copyRow 2 none, Cond.methodLink RX3 193 Lib.Math.min.name, Cond.static Lib.Math.min.name, Cond.initialized "java/lang/Math", Cond.code Lib.Math.min.name Lib.Math.min.code 2 (some .int), Cond.methodLink RX3 198 arraycopyName, Cond.native arraycopyName, Cond.static arraycopyName, Cond.initialized "java/lang/System", Cond.static yX3_copyLongRow, Cond.code yX3_copyLongRow cX3_copyLongRow 2 none, Cond.instanceMethod yX1_bring, Cond.selects RX1 yX1_bring yX1_bring, Cond.code yX1_bring cX1_bring 5 (some .int), Cond.constant RX1 94 (-1000003), Cond.static yX3_holdsAlways]
def wsX3_tell_r3 : List Cond := [Cond.code yX3_holdsAlways cX3_holdsAlways 1 (some .boolean), Cond.methodLink RX1 91 yX1_hasAnotherWithin, Cond.instanceMethod yX1_hasAnotherWithin, Cond.selects RX1 yX1_hasAnotherWithin yX1_hasAnotherWithin, Cond.code yX1_hasAnotherWithin cX1_hasAnotherWithin 3 (some .boolean), Cond.methodLink RX1 80 yX1_isDropped, Cond.instanceMethod yX1_isDropped, Cond.selects RX1 yX1_isDropped yX1_isDropped, Cond.code yX1_isDropped cX1_isDropped 2 (some .boolean), Cond.static yX3_at, Cond.code yX3_at cX3_at 2 (some .int), Cond.static yX3_isWithin, Cond.code yX3_isWithin cX3_isWithin 2 (some .boolean), Cond.methodLink RX1 95 yX1_dropAllAround, Cond.instanceMethod yX1_dropAllAround, Cond.selects RX1 yX1_dropAllAround yX1_dropAllAround, Cond.code yX1_dropAllAround cX1_dropAllAround 3 none, Cond.static yX3_put, Cond.code yX3_put cX3_put 3 none, Cond.methodLink RX1 99 yX1_takeIn, Cond.instanceMethod yX1_takeIn, Cond.selects RX1 yX1_takeIn yX1_takeIn, Cond.code yX1_takeIn cX1_takeIn 7 (some .int), Cond.methodLink RX1 106 Lib.Math.max.name]
def wsX3_tell_r4 : List Cond := [Cond.static Lib.Math.max.name, Cond.code Lib.Math.max.name Lib.Math.max.code 2 (some .int), Cond.static yX3_valuesOfClause, Cond.code yX3_valuesOfClause cX3_valuesOfClause 7 (some .long), Cond.fieldLink RX3 204 "OrderedClauses" "VALUES_WITH_ATOM" "[J", Cond.constantLong RX3 145 (-1), Cond.methodLink RX3 208 yX3_longAt, Cond.static yX3_longAt, Cond.code yX3_longAt cX3_longAt 2 (some .long), Cond.static yX3_putLong, Cond.code yX3_putLong cX3_putLong 4 none, Cond.methodLink RX3 39 yX3_settle, Cond.instanceMethod yX3_settle, Cond.selects RX3 yX3_settle yX3_settle, Cond.code yX3_settle cX3_settle 2 (some .int), Cond.instanceMethod yX0_takeBack, Cond.selects RX0 yX0_takeBack yX0_takeBack, Cond.code yX0_takeBack cX0_takeBack 2 none, Cond.instanceMethod yX0_keep, Cond.selects RX0 yX0_keep yX0_keep, Cond.code yX0_keep cX0_keep 1 none, Cond.methodLink RX0 30 yX0_dropOldest, Cond.instanceMethod yX0_dropOldest, Cond.selects RX0 yX0_dropOldest yX0_dropOldest]
def wsX3_tell_r5 : List Cond := [Cond.code yX0_dropOldest cX0_dropOldest 4 none]
def wsX3_tell : List Cond := .code yX3_tell cX3_tell 2 (some .int) :: ((wsX3_tell_r1 ++ (wsX3_tell_r2 ++ (wsX3_tell_r3 ++ (wsX3_tell_r4 ++ wsX3_tell_r5)))) ++ wsX30 ++ wsX00 ++ wsX10)
def wsX3_rank_r1 : List Cond := [Cond.constant RX3 30 (-1000001), Cond.fieldLink RX3 19 "OrderedClauses" "history" "LOrderedClauses$History;", Cond.fieldLink RX3 10 "OrderedClauses" "store" "LOrderedClauses$Store;", Cond.instanceMethod yX0_putAside, Cond.initialized RX0, Cond.selects RX0 yX0_putAside yX0_putAside, Cond.code yX0_putAside cX0_putAside 3 none, Cond.fieldLink RX0 17 "OrderedClauses$History" "kept" "I", Cond.methodLink RX0 22 yX0_stateAt, Cond.instanceMethod yX0_stateAt, Cond.selects RX0 yX0_stateAt yX0_stateAt, Cond.code yX0_stateAt cX0_stateAt 2 (some (.object "OrderedClauses$Store")), Cond.fieldLink RX0 11 "OrderedClauses$History" "states" "[LOrderedClauses$Store;", Cond.instanceMethod yX1_copyFrom, Cond.initialized RX1, Cond.selects RX1 yX1_copyFrom yX1_copyFrom, Cond.code yX1_copyFrom cX1_copyFrom 2 none, Cond.fieldLink RX1 9 "OrderedClauses$Store" "atomOfRank" "[I", Cond.fieldLink RX1 15 "OrderedClauses$Store" "literals" "[I", Cond.fieldLink RX1 18 "OrderedClauses$Store" "status" "[I", Cond.fieldLink RX1 21 "OrderedClauses$Store" "holdingParent" "[I", Cond.fieldLink RX1 24 "OrderedClauses$Store" "otherParent" "[I", Cond.fieldLink RX1 27 "OrderedClauses$Store" "atomMadeBy" "[I", Cond.fieldLink RX1 30 "OrderedClauses$Store" "depth" "[I"]
def wsX3_rank_r2 : List Cond := [Cond.fieldLink RX1 33 "OrderedClauses$Store" "fulfilledBy" "[J", Cond.fieldLink RX1 37 "OrderedClauses$Store" "clauses" "I", Cond.fieldLink RX1 41 "OrderedClauses$Store" "steps" "I", Cond.fieldLink RX1 44 "OrderedClauses$Store" "setting" "I", Cond.fieldLink RX1 47 "OrderedClauses$Store" "heldAlways" "I", Cond.fieldLink RX1 50 "OrderedClauses$Store" "hadAnotherWithin" "I", Cond.static yX3_copyRow, Cond.initialized RX3, Cond.code yX3_copyRow cX3_copyRow 2 none, Cond.methodLink RX3 193 Lib.Math.min.name, Cond.static Lib.Math.min.name, Cond.initialized "java/lang/Math", Cond.code Lib.Math.min.name Lib.Math.min.code 2 (some .int), Cond.methodLink RX3 198 arraycopyName, Cond.native arraycopyName, Cond.static arraycopyName, Cond.initialized "java/lang/System", Cond.static yX3_copyLongRow, Cond.code yX3_copyLongRow cX3_copyLongRow 2 none, Cond.instanceMethod yX1_changeRank, Cond.selects RX1 yX1_changeRank yX1_changeRank, Cond.code yX1_changeRank cX1_changeRank 5 (some .int), Cond.methodLink RX1 69 yX1_rankOf, Cond.instanceMethod yX1_rankOf]
def wsX3_rank_r3 : List Cond := [Cond.selects RX1 yX1_rankOf yX1_rankOf, Cond.code yX1_rankOf cX1_rankOf 3 (some .int), Cond.static yX3_at, Cond.code yX3_at cX3_at 2 (some .int), Cond.static yX3_put, Cond.code yX3_put cX3_put 3 none, Cond.methodLink RX3 39 yX3_settle, Cond.instanceMethod yX3_settle, Cond.selects RX3 yX3_settle yX3_settle, Cond.code yX3_settle cX3_settle 2 (some .int), Cond.instanceMethod yX0_takeBack, Cond.selects RX0 yX0_takeBack yX0_takeBack, Cond.code yX0_takeBack cX0_takeBack 2 none, Cond.instanceMethod yX0_keep, Cond.selects RX0 yX0_keep yX0_keep, Cond.code yX0_keep cX0_keep 1 none, Cond.methodLink RX0 30 yX0_dropOldest, Cond.instanceMethod yX0_dropOldest, Cond.selects RX0 yX0_dropOldest yX0_dropOldest, Cond.code yX0_dropOldest cX0_dropOldest 4 none]
def wsX3_rank : List Cond := .code yX3_rank cX3_rank 3 (some .int) :: ((wsX3_rank_r1 ++ (wsX3_rank_r2 ++ wsX3_rank_r3)) ++ wsX30 ++ wsX00 ++ wsX10)
def wsX3_set_r1 : List Cond := [Cond.constant RX3 30 (-1000001), Cond.fieldLink RX3 19 "OrderedClauses" "history" "LOrderedClauses$History;", Cond.fieldLink RX3 10 "OrderedClauses" "store" "LOrderedClauses$Store;", Cond.instanceMethod yX0_putAside, Cond.initialized RX0, Cond.selects RX0 yX0_putAside yX0_putAside, Cond.code yX0_putAside cX0_putAside 3 none, Cond.fieldLink RX0 17 "OrderedClauses$History" "kept" "I", Cond.methodLink RX0 22 yX0_stateAt, Cond.instanceMethod yX0_stateAt, Cond.selects RX0 yX0_stateAt yX0_stateAt, Cond.code yX0_stateAt cX0_stateAt 2 (some (.object "OrderedClauses$Store")), Cond.fieldLink RX0 11 "OrderedClauses$History" "states" "[LOrderedClauses$Store;", Cond.instanceMethod yX1_copyFrom, Cond.initialized RX1, Cond.selects RX1 yX1_copyFrom yX1_copyFrom, Cond.code yX1_copyFrom cX1_copyFrom 2 none, Cond.fieldLink RX1 9 "OrderedClauses$Store" "atomOfRank" "[I", Cond.fieldLink RX1 15 "OrderedClauses$Store" "literals" "[I", Cond.fieldLink RX1 18 "OrderedClauses$Store" "status" "[I", Cond.fieldLink RX1 21 "OrderedClauses$Store" "holdingParent" "[I", Cond.fieldLink RX1 24 "OrderedClauses$Store" "otherParent" "[I", Cond.fieldLink RX1 27 "OrderedClauses$Store" "atomMadeBy" "[I", Cond.fieldLink RX1 30 "OrderedClauses$Store" "depth" "[I"]
def wsX3_set_r2 : List Cond := [Cond.fieldLink RX1 33 "OrderedClauses$Store" "fulfilledBy" "[J", Cond.fieldLink RX1 37 "OrderedClauses$Store" "clauses" "I", Cond.fieldLink RX1 41 "OrderedClauses$Store" "steps" "I", Cond.fieldLink RX1 44 "OrderedClauses$Store" "setting" "I", Cond.fieldLink RX1 47 "OrderedClauses$Store" "heldAlways" "I", Cond.fieldLink RX1 50 "OrderedClauses$Store" "hadAnotherWithin" "I", Cond.static yX3_copyRow, Cond.initialized RX3, Cond.code yX3_copyRow cX3_copyRow 2 none, Cond.methodLink RX3 193 Lib.Math.min.name, Cond.static Lib.Math.min.name, Cond.initialized "java/lang/Math", Cond.code Lib.Math.min.name Lib.Math.min.code 2 (some .int), Cond.methodLink RX3 198 arraycopyName, Cond.native arraycopyName, Cond.static arraycopyName, Cond.initialized "java/lang/System", Cond.static yX3_copyLongRow, Cond.code yX3_copyLongRow cX3_copyLongRow 2 none, Cond.methodLink RX3 39 yX3_settle, Cond.instanceMethod yX3_settle, Cond.selects RX3 yX3_settle yX3_settle, Cond.code yX3_settle cX3_settle 2 (some .int), Cond.instanceMethod yX0_takeBack]
def wsX3_set_r3 : List Cond := [Cond.selects RX0 yX0_takeBack yX0_takeBack, Cond.code yX0_takeBack cX0_takeBack 2 none, Cond.instanceMethod yX0_keep, Cond.selects RX0 yX0_keep yX0_keep, Cond.code yX0_keep cX0_keep 1 none, Cond.methodLink RX0 30 yX0_dropOldest, Cond.instanceMethod yX0_dropOldest, Cond.selects RX0 yX0_dropOldest yX0_dropOldest, Cond.code yX0_dropOldest cX0_dropOldest 4 none]
def wsX3_set : List Cond := .code yX3_set cX3_set 3 (some .int) :: ((wsX3_set_r1 ++ (wsX3_set_r2 ++ wsX3_set_r3)) ++ wsX30 ++ wsX10 ++ wsX00)
def wsX3_step_r1 : List Cond := [Cond.fieldLink RX3 19 "OrderedClauses" "history" "LOrderedClauses$History;", Cond.fieldLink RX3 10 "OrderedClauses" "store" "LOrderedClauses$Store;", Cond.instanceMethod yX0_putAside, Cond.initialized RX0, Cond.selects RX0 yX0_putAside yX0_putAside, Cond.code yX0_putAside cX0_putAside 3 none, Cond.fieldLink RX0 17 "OrderedClauses$History" "kept" "I", Cond.methodLink RX0 22 yX0_stateAt, Cond.instanceMethod yX0_stateAt, Cond.selects RX0 yX0_stateAt yX0_stateAt, Cond.code yX0_stateAt cX0_stateAt 2 (some (.object "OrderedClauses$Store")), Cond.fieldLink RX0 11 "OrderedClauses$History" "states" "[LOrderedClauses$Store;", Cond.instanceMethod yX1_copyFrom, Cond.initialized RX1, Cond.selects RX1 yX1_copyFrom yX1_copyFrom, Cond.code yX1_copyFrom cX1_copyFrom 2 none, Cond.fieldLink RX1 9 "OrderedClauses$Store" "atomOfRank" "[I", Cond.fieldLink RX1 15 "OrderedClauses$Store" "literals" "[I", Cond.fieldLink RX1 18 "OrderedClauses$Store" "status" "[I", Cond.fieldLink RX1 21 "OrderedClauses$Store" "holdingParent" "[I", Cond.fieldLink RX1 24 "OrderedClauses$Store" "otherParent" "[I", Cond.fieldLink RX1 27 "OrderedClauses$Store" "atomMadeBy" "[I", Cond.fieldLink RX1 30 "OrderedClauses$Store" "depth" "[I", Cond.fieldLink RX1 33 "OrderedClauses$Store" "fulfilledBy" "[J"]
def wsX3_step_r2 : List Cond := [Cond.fieldLink RX1 37 "OrderedClauses$Store" "clauses" "I", Cond.fieldLink RX1 41 "OrderedClauses$Store" "steps" "I", Cond.fieldLink RX1 44 "OrderedClauses$Store" "setting" "I", Cond.fieldLink RX1 47 "OrderedClauses$Store" "heldAlways" "I", Cond.fieldLink RX1 50 "OrderedClauses$Store" "hadAnotherWithin" "I", Cond.static yX3_copyRow, Cond.initialized RX3, Cond.code yX3_copyRow cX3_copyRow 2 none, Cond.methodLink RX3 193 Lib.Math.min.name, Cond.static Lib.Math.min.name, Cond.initialized "java/lang/Math", Cond.code Lib.Math.min.name Lib.Math.min.code 2 (some .int), Cond.methodLink RX3 198 arraycopyName, Cond.native arraycopyName, Cond.static arraycopyName, Cond.initialized "java/lang/System", Cond.static yX3_copyLongRow, Cond.code yX3_copyLongRow cX3_copyLongRow 2 none, Cond.instanceMethod yX1_takeStep, Cond.selects RX1 yX1_takeStep yX1_takeStep, Cond.code yX1_takeStep cX1_takeStep 2 (some .int), Cond.constant RX1 127 (-1000002), Cond.constant RX1 94 (-1000003), Cond.methodLink RX1 120 yX1_emptyClause]
def wsX3_step_r3 : List Cond := [Cond.instanceMethod yX1_emptyClause, Cond.selects RX1 yX1_emptyClause yX1_emptyClause, Cond.code yX1_emptyClause cX1_emptyClause 2 (some .int), Cond.static yX3_at, Cond.code yX3_at cX3_at 2 (some .int), Cond.methodLink RX1 124 yX1_nextChoice, Cond.instanceMethod yX1_nextChoice, Cond.selects RX1 yX1_nextChoice yX1_nextChoice, Cond.code yX1_nextChoice cX1_nextChoice 6 (some .int), Cond.methodLink RX1 131 yJ6_bitCount_0f7a4, Cond.static yJ6_bitCount_0f7a4, Cond.initialized RJ6, Cond.code yJ6_bitCount_0f7a4 cJ6_bitCount_0f7a4 1 (some .int), Cond.constant RJ6 265 (1431655765), Cond.constant RJ6 266 (858993459), Cond.constant RJ6 267 (252645135), Cond.static yX3_put, Cond.code yX3_put cX3_put 3 none, Cond.methodLink RX1 128 yX1_resolveWithDone, Cond.instanceMethod yX1_resolveWithDone, Cond.selects RX1 yX1_resolveWithDone yX1_resolveWithDone, Cond.code yX1_resolveWithDone cX1_resolveWithDone 10 (some .boolean), Cond.methodLink RX1 73 yX1_greatestOf, Cond.instanceMethod yX1_greatestOf]
def wsX3_step_r4 : List Cond := [Cond.selects RX1 yX1_greatestOf yX1_greatestOf, Cond.code yX1_greatestOf cX1_greatestOf 5 (some .int), Cond.methodLink RX1 80 yX1_isDropped, Cond.instanceMethod yX1_isDropped, Cond.selects RX1 yX1_isDropped yX1_isDropped, Cond.code yX1_isDropped cX1_isDropped 2 (some .boolean), Cond.methodLink RX1 136 yX1_bring, Cond.instanceMethod yX1_bring, Cond.selects RX1 yX1_bring yX1_bring, Cond.code yX1_bring cX1_bring 5 (some .int), Cond.static yX3_holdsAlways, Cond.code yX3_holdsAlways cX3_holdsAlways 1 (some .boolean), Cond.methodLink RX1 91 yX1_hasAnotherWithin, Cond.instanceMethod yX1_hasAnotherWithin, Cond.selects RX1 yX1_hasAnotherWithin yX1_hasAnotherWithin, Cond.code yX1_hasAnotherWithin cX1_hasAnotherWithin 3 (some .boolean), Cond.static yX3_isWithin, Cond.code yX3_isWithin cX3_isWithin 2 (some .boolean), Cond.methodLink RX1 95 yX1_dropAllAround, Cond.instanceMethod yX1_dropAllAround, Cond.selects RX1 yX1_dropAllAround yX1_dropAllAround, Cond.code yX1_dropAllAround cX1_dropAllAround 3 none, Cond.methodLink RX1 99 yX1_takeIn, Cond.instanceMethod yX1_takeIn]
def wsX3_step_r5 : List Cond := [Cond.selects RX1 yX1_takeIn yX1_takeIn, Cond.code yX1_takeIn cX1_takeIn 7 (some .int), Cond.methodLink RX1 106 Lib.Math.max.name, Cond.static Lib.Math.max.name, Cond.code Lib.Math.max.name Lib.Math.max.code 2 (some .int), Cond.static yX3_valuesOfClause, Cond.code yX3_valuesOfClause cX3_valuesOfClause 7 (some .long), Cond.fieldLink RX3 204 "OrderedClauses" "VALUES_WITH_ATOM" "[J", Cond.constantLong RX3 145 (-1), Cond.methodLink RX3 208 yX3_longAt, Cond.static yX3_longAt, Cond.code yX3_longAt cX3_longAt 2 (some .long), Cond.static yX3_putLong, Cond.code yX3_putLong cX3_putLong 4 none, Cond.methodLink RX3 39 yX3_settle, Cond.instanceMethod yX3_settle, Cond.selects RX3 yX3_settle yX3_settle, Cond.code yX3_settle cX3_settle 2 (some .int), Cond.constant RX3 30 (-1000001), Cond.instanceMethod yX0_takeBack, Cond.selects RX0 yX0_takeBack yX0_takeBack, Cond.code yX0_takeBack cX0_takeBack 2 none, Cond.instanceMethod yX0_keep, Cond.selects RX0 yX0_keep yX0_keep]
def wsX3_step_r6 : List Cond := [Cond.code yX0_keep cX0_keep 1 none, Cond.methodLink RX0 30 yX0_dropOldest, Cond.instanceMethod yX0_dropOldest, Cond.selects RX0 yX0_dropOldest yX0_dropOldest, Cond.code yX0_dropOldest cX0_dropOldest 4 none]
def wsX3_step : List Cond := .code yX3_step cX3_step 1 (some .int) :: ((wsX3_step_r1 ++ (wsX3_step_r2 ++ (wsX3_step_r3 ++ (wsX3_step_r4 ++ (wsX3_step_r5 ++ wsX3_step_r6))))) ++ wsX30 ++ wsX00 ++ wsX10)
def wsX3_run_r1 : List Cond := [Cond.constant RX3 30 (-1000001), Cond.fieldLink RX3 19 "OrderedClauses" "history" "LOrderedClauses$History;", Cond.fieldLink RX3 10 "OrderedClauses" "store" "LOrderedClauses$Store;", Cond.constant RX3 55 (-1000003), Cond.constant RX3 56 (-1000002), Cond.instanceMethod yX0_putAside, Cond.initialized RX0, Cond.selects RX0 yX0_putAside yX0_putAside, Cond.code yX0_putAside cX0_putAside 3 none, Cond.fieldLink RX0 17 "OrderedClauses$History" "kept" "I", Cond.methodLink RX0 22 yX0_stateAt, Cond.instanceMethod yX0_stateAt, Cond.selects RX0 yX0_stateAt yX0_stateAt, Cond.code yX0_stateAt cX0_stateAt 2 (some (.object "OrderedClauses$Store")), Cond.fieldLink RX0 11 "OrderedClauses$History" "states" "[LOrderedClauses$Store;", Cond.instanceMethod yX1_copyFrom, Cond.initialized RX1, Cond.selects RX1 yX1_copyFrom yX1_copyFrom, Cond.code yX1_copyFrom cX1_copyFrom 2 none, Cond.fieldLink RX1 9 "OrderedClauses$Store" "atomOfRank" "[I", Cond.fieldLink RX1 15 "OrderedClauses$Store" "literals" "[I", Cond.fieldLink RX1 18 "OrderedClauses$Store" "status" "[I", Cond.fieldLink RX1 21 "OrderedClauses$Store" "holdingParent" "[I", Cond.fieldLink RX1 24 "OrderedClauses$Store" "otherParent" "[I"]
def wsX3_run_r2 : List Cond := [Cond.fieldLink RX1 27 "OrderedClauses$Store" "atomMadeBy" "[I", Cond.fieldLink RX1 30 "OrderedClauses$Store" "depth" "[I", Cond.fieldLink RX1 33 "OrderedClauses$Store" "fulfilledBy" "[J", Cond.fieldLink RX1 37 "OrderedClauses$Store" "clauses" "I", Cond.fieldLink RX1 41 "OrderedClauses$Store" "steps" "I", Cond.fieldLink RX1 44 "OrderedClauses$Store" "setting" "I", Cond.fieldLink RX1 47 "OrderedClauses$Store" "heldAlways" "I", Cond.fieldLink RX1 50 "OrderedClauses$Store" "hadAnotherWithin" "I", Cond.static yX3_copyRow, Cond.initialized RX3, Cond.code yX3_copyRow cX3_copyRow 2 none, Cond.methodLink RX3 193 Lib.Math.min.name, Cond.static Lib.Math.min.name, Cond.initialized "java/lang/Math", Cond.code Lib.Math.min.name Lib.Math.min.code 2 (some .int), Cond.methodLink RX3 198 arraycopyName, Cond.native arraycopyName, Cond.static arraycopyName, Cond.initialized "java/lang/System", Cond.static yX3_copyLongRow, Cond.code yX3_copyLongRow cX3_copyLongRow 2 none, Cond.instanceMethod yX1_takeStep, Cond.selects RX1 yX1_takeStep yX1_takeStep, Cond.code yX1_takeStep cX1_takeStep 2 (some .int)]
def wsX3_run_r3 : List Cond := [Cond.constant RX1 127 (-1000002), Cond.constant RX1 94 (-1000003), Cond.methodLink RX1 120 yX1_emptyClause, Cond.instanceMethod yX1_emptyClause, Cond.selects RX1 yX1_emptyClause yX1_emptyClause, Cond.code yX1_emptyClause cX1_emptyClause 2 (some .int), Cond.static yX3_at, Cond.code yX3_at cX3_at 2 (some .int), Cond.methodLink RX1 124 yX1_nextChoice, Cond.instanceMethod yX1_nextChoice, Cond.selects RX1 yX1_nextChoice yX1_nextChoice, Cond.code yX1_nextChoice cX1_nextChoice 6 (some .int), Cond.methodLink RX1 131 yJ6_bitCount_0f7a4, Cond.static yJ6_bitCount_0f7a4, Cond.initialized RJ6, Cond.code yJ6_bitCount_0f7a4 cJ6_bitCount_0f7a4 1 (some .int), Cond.constant RJ6 265 (1431655765), Cond.constant RJ6 266 (858993459), Cond.constant RJ6 267 (252645135), Cond.static yX3_put, Cond.code yX3_put cX3_put 3 none, Cond.methodLink RX1 128 yX1_resolveWithDone, Cond.instanceMethod yX1_resolveWithDone, Cond.selects RX1 yX1_resolveWithDone yX1_resolveWithDone]
def wsX3_run_r4 : List Cond := [Cond.code yX1_resolveWithDone cX1_resolveWithDone 10 (some .boolean), Cond.methodLink RX1 73 yX1_greatestOf, Cond.instanceMethod yX1_greatestOf, Cond.selects RX1 yX1_greatestOf yX1_greatestOf, Cond.code yX1_greatestOf cX1_greatestOf 5 (some .int), Cond.methodLink RX1 80 yX1_isDropped, Cond.instanceMethod yX1_isDropped, Cond.selects RX1 yX1_isDropped yX1_isDropped, Cond.code yX1_isDropped cX1_isDropped 2 (some .boolean), Cond.methodLink RX1 136 yX1_bring, Cond.instanceMethod yX1_bring, Cond.selects RX1 yX1_bring yX1_bring, Cond.code yX1_bring cX1_bring 5 (some .int), Cond.static yX3_holdsAlways, Cond.code yX3_holdsAlways cX3_holdsAlways 1 (some .boolean), Cond.methodLink RX1 91 yX1_hasAnotherWithin, Cond.instanceMethod yX1_hasAnotherWithin, Cond.selects RX1 yX1_hasAnotherWithin yX1_hasAnotherWithin, Cond.code yX1_hasAnotherWithin cX1_hasAnotherWithin 3 (some .boolean), Cond.static yX3_isWithin, Cond.code yX3_isWithin cX3_isWithin 2 (some .boolean), Cond.methodLink RX1 95 yX1_dropAllAround, Cond.instanceMethod yX1_dropAllAround, Cond.selects RX1 yX1_dropAllAround yX1_dropAllAround]
def wsX3_run_r5 : List Cond := [Cond.code yX1_dropAllAround cX1_dropAllAround 3 none, Cond.methodLink RX1 99 yX1_takeIn, Cond.instanceMethod yX1_takeIn, Cond.selects RX1 yX1_takeIn yX1_takeIn, Cond.code yX1_takeIn cX1_takeIn 7 (some .int), Cond.methodLink RX1 106 Lib.Math.max.name, Cond.static Lib.Math.max.name, Cond.code Lib.Math.max.name Lib.Math.max.code 2 (some .int), Cond.static yX3_valuesOfClause, Cond.code yX3_valuesOfClause cX3_valuesOfClause 7 (some .long), Cond.fieldLink RX3 204 "OrderedClauses" "VALUES_WITH_ATOM" "[J", Cond.constantLong RX3 145 (-1), Cond.methodLink RX3 208 yX3_longAt, Cond.static yX3_longAt, Cond.code yX3_longAt cX3_longAt 2 (some .long), Cond.static yX3_putLong, Cond.code yX3_putLong cX3_putLong 4 none, Cond.methodLink RX3 39 yX3_settle, Cond.instanceMethod yX3_settle, Cond.selects RX3 yX3_settle yX3_settle, Cond.code yX3_settle cX3_settle 2 (some .int), Cond.instanceMethod yX0_takeBack, Cond.selects RX0 yX0_takeBack yX0_takeBack, Cond.code yX0_takeBack cX0_takeBack 2 none]
def wsX3_run_r6 : List Cond := [Cond.instanceMethod yX0_keep, Cond.selects RX0 yX0_keep yX0_keep, Cond.code yX0_keep cX0_keep 1 none, Cond.methodLink RX0 30 yX0_dropOldest, Cond.instanceMethod yX0_dropOldest, Cond.selects RX0 yX0_dropOldest yX0_dropOldest, Cond.code yX0_dropOldest cX0_dropOldest 4 none]
def wsX3_run : List Cond := .code yX3_run cX3_run 5 (some .int) :: ((wsX3_run_r1 ++ (wsX3_run_r2 ++ (wsX3_run_r3 ++ (wsX3_run_r4 ++ (wsX3_run_r5 ++ wsX3_run_r6))))) ++ wsX30 ++ wsX00 ++ wsX10)
def wsX3_empty_r1 : List Cond := [Cond.fieldLink RX3 19 "OrderedClauses" "history" "LOrderedClauses$History;", Cond.fieldLink RX3 10 "OrderedClauses" "store" "LOrderedClauses$Store;", Cond.instanceMethod yX0_putAside, Cond.initialized RX0, Cond.selects RX0 yX0_putAside yX0_putAside, Cond.code yX0_putAside cX0_putAside 3 none, Cond.fieldLink RX0 17 "OrderedClauses$History" "kept" "I", Cond.methodLink RX0 22 yX0_stateAt, Cond.instanceMethod yX0_stateAt, Cond.selects RX0 yX0_stateAt yX0_stateAt, Cond.code yX0_stateAt cX0_stateAt 2 (some (.object "OrderedClauses$Store")), Cond.fieldLink RX0 11 "OrderedClauses$History" "states" "[LOrderedClauses$Store;", Cond.instanceMethod yX1_copyFrom, Cond.initialized RX1, Cond.selects RX1 yX1_copyFrom yX1_copyFrom, Cond.code yX1_copyFrom cX1_copyFrom 2 none, Cond.fieldLink RX1 9 "OrderedClauses$Store" "atomOfRank" "[I", Cond.fieldLink RX1 15 "OrderedClauses$Store" "literals" "[I", Cond.fieldLink RX1 18 "OrderedClauses$Store" "status" "[I", Cond.fieldLink RX1 21 "OrderedClauses$Store" "holdingParent" "[I", Cond.fieldLink RX1 24 "OrderedClauses$Store" "otherParent" "[I", Cond.fieldLink RX1 27 "OrderedClauses$Store" "atomMadeBy" "[I", Cond.fieldLink RX1 30 "OrderedClauses$Store" "depth" "[I", Cond.fieldLink RX1 33 "OrderedClauses$Store" "fulfilledBy" "[J"]
def wsX3_empty_r2 : List Cond := [Cond.fieldLink RX1 37 "OrderedClauses$Store" "clauses" "I", Cond.fieldLink RX1 41 "OrderedClauses$Store" "steps" "I", Cond.fieldLink RX1 44 "OrderedClauses$Store" "setting" "I", Cond.fieldLink RX1 47 "OrderedClauses$Store" "heldAlways" "I", Cond.fieldLink RX1 50 "OrderedClauses$Store" "hadAnotherWithin" "I", Cond.static yX3_copyRow, Cond.initialized RX3, Cond.code yX3_copyRow cX3_copyRow 2 none, Cond.methodLink RX3 193 Lib.Math.min.name, Cond.static Lib.Math.min.name, Cond.initialized "java/lang/Math", Cond.code Lib.Math.min.name Lib.Math.min.code 2 (some .int), Cond.methodLink RX3 198 arraycopyName, Cond.native arraycopyName, Cond.static arraycopyName, Cond.initialized "java/lang/System", Cond.static yX3_copyLongRow, Cond.code yX3_copyLongRow cX3_copyLongRow 2 none, Cond.methodLink RX3 39 yX3_settle, Cond.instanceMethod yX3_settle, Cond.selects RX3 yX3_settle yX3_settle, Cond.code yX3_settle cX3_settle 2 (some .int), Cond.constant RX3 30 (-1000001), Cond.instanceMethod yX0_takeBack]
def wsX3_empty_r3 : List Cond := [Cond.selects RX0 yX0_takeBack yX0_takeBack, Cond.code yX0_takeBack cX0_takeBack 2 none, Cond.instanceMethod yX0_keep, Cond.selects RX0 yX0_keep yX0_keep, Cond.code yX0_keep cX0_keep 1 none, Cond.methodLink RX0 30 yX0_dropOldest, Cond.instanceMethod yX0_dropOldest, Cond.selects RX0 yX0_dropOldest yX0_dropOldest, Cond.code yX0_dropOldest cX0_dropOldest 4 none]
def wsX3_empty : List Cond := .code yX3_empty cX3_empty 2 (some .int) :: ((wsX3_empty_r1 ++ (wsX3_empty_r2 ++ wsX3_empty_r3)) ++ wsX30 ++ wsX10 ++ wsX00)
def wsX3_foundOrNot : List Cond := .code yX3_foundOrNot cX3_foundOrNot 1 (some .int) :: ([.constant RX3 133 (-1000004)])
def wsX3_clauseOf_r1 : List Cond := [Cond.fieldLink RX3 10 "OrderedClauses" "store" "LOrderedClauses$Store;", Cond.constant RX3 30 (-1000001), Cond.instanceMethod yX1_has, Cond.initialized RX1, Cond.selects RX1 yX1_has yX1_has, Cond.code yX1_has cX1_has 2 (some .boolean), Cond.fieldLink RX1 37 "OrderedClauses$Store" "clauses" "I", Cond.methodLink RX3 71 yX3_at, Cond.static yX3_at, Cond.initialized RX3, Cond.code yX3_at cX3_at 2 (some .int), Cond.instanceMethod yX1_greatestOf, Cond.selects RX1 yX1_greatestOf yX1_greatestOf, Cond.code yX1_greatestOf cX1_greatestOf 5 (some .int), Cond.fieldLink RX1 9 "OrderedClauses$Store" "atomOfRank" "[I", Cond.methodLink RX3 81 yX3_foundOrNot, Cond.static yX3_foundOrNot, Cond.code yX3_foundOrNot cX3_foundOrNot 1 (some .int), Cond.constant RX3 133 (-1000004), Cond.methodLink RX3 93 yJ6_bitCount_0f7a4, Cond.static yJ6_bitCount_0f7a4, Cond.initialized RJ6, Cond.code yJ6_bitCount_0f7a4 cJ6_bitCount_0f7a4 1 (some .int), Cond.constant RJ6 265 (1431655765)]
def wsX3_clauseOf_r2 : List Cond := [Cond.constant RJ6 266 (858993459), Cond.constant RJ6 267 (252645135), Cond.instanceMethod yX1_howManyLessThan, Cond.selects RX1 yX1_howManyLessThan yX1_howManyLessThan, Cond.code yX1_howManyLessThan cX1_howManyLessThan 4 (some .int), Cond.fieldLink RX1 15 "OrderedClauses$Store" "literals" "[I", Cond.methodLink RX1 80 yX1_isDropped, Cond.instanceMethod yX1_isDropped, Cond.selects RX1 yX1_isDropped yX1_isDropped, Cond.code yX1_isDropped cX1_isDropped 2 (some .boolean), Cond.fieldLink RX1 18 "OrderedClauses$Store" "status" "[I", Cond.methodLink RX1 84 yX1_isLess, Cond.instanceMethod yX1_isLess, Cond.selects RX1 yX1_isLess yX1_isLess, Cond.code yX1_isLess cX1_isLess 4 (some .boolean), Cond.methodLink RX1 73 yX1_greatestOf, Cond.static yX3_isIn, Cond.code yX3_isIn cX3_isIn 3 (some .boolean)]
def wsX3_clauseOf : List Cond := .code yX3_clauseOf cX3_clauseOf 3 (some .int) :: ((wsX3_clauseOf_r1 ++ wsX3_clauseOf_r2) ++ wsX30 ++ wsX10)
def wsX3_tree : List Cond := .code yX3_tree cX3_tree 2 (some .long) :: ([.fieldLink RX3 10 "OrderedClauses" "store" "LOrderedClauses$Store;", .constantLong RX3 108 (-1000001), .instanceMethod yX1_has, .initialized RX1, .selects RX1 yX1_has yX1_has, .code yX1_has cX1_has 2 (some .boolean), .fieldLink RX1 37 "OrderedClauses$Store" "clauses" "I", .instanceMethod yX1_treeOf, .selects RX1 yX1_treeOf yX1_treeOf, .code yX1_treeOf cX1_treeOf 5 (some .long), .fieldLink RX1 21 "OrderedClauses$Store" "holdingParent" "[I", .fieldLink RX1 24 "OrderedClauses$Store" "otherParent" "[I", .static yX3_setOf, .initialized RX3, .code yX3_setOf cX3_setOf 1 (some .long), .static yX3_isIn, .code yX3_isIn cX3_isIn 3 (some .boolean), .static yX3_at, .code yX3_at cX3_at 2 (some .int)] ++ wsX30 ++ wsX10)
def wsX3_widest_r1 : List Cond := [Cond.fieldLink RX3 10 "OrderedClauses" "store" "LOrderedClauses$Store;", Cond.constant RX3 30 (-1000001), Cond.instanceMethod yX1_has, Cond.initialized RX1, Cond.selects RX1 yX1_has yX1_has, Cond.code yX1_has cX1_has 2 (some .boolean), Cond.fieldLink RX1 37 "OrderedClauses$Store" "clauses" "I", Cond.instanceMethod yX1_treeOf, Cond.selects RX1 yX1_treeOf yX1_treeOf, Cond.code yX1_treeOf cX1_treeOf 5 (some .long), Cond.fieldLink RX1 21 "OrderedClauses$Store" "holdingParent" "[I", Cond.fieldLink RX1 24 "OrderedClauses$Store" "otherParent" "[I", Cond.static yX3_setOf, Cond.initialized RX3, Cond.code yX3_setOf cX3_setOf 1 (some .long), Cond.static yX3_isIn, Cond.code yX3_isIn cX3_isIn 3 (some .boolean), Cond.static yX3_at, Cond.code yX3_at cX3_at 2 (some .int), Cond.instanceMethod yX1_mostLiterals, Cond.selects RX1 yX1_mostLiterals yX1_mostLiterals, Cond.code yX1_mostLiterals cX1_mostLiterals 5 (some .int), Cond.fieldLink RX1 15 "OrderedClauses$Store" "literals" "[I", Cond.methodLink RX1 106 Lib.Math.max.name]
def wsX3_widest_r2 : List Cond := [Cond.static Lib.Math.max.name, Cond.initialized "java/lang/Math", Cond.code Lib.Math.max.name Lib.Math.max.code 2 (some .int), Cond.methodLink RX1 131 yJ6_bitCount_0f7a4, Cond.static yJ6_bitCount_0f7a4, Cond.initialized RJ6, Cond.code yJ6_bitCount_0f7a4 cJ6_bitCount_0f7a4 1 (some .int), Cond.constant RJ6 265 (1431655765), Cond.constant RJ6 266 (858993459), Cond.constant RJ6 267 (252645135)]
def wsX3_widest : List Cond := .code yX3_widest cX3_widest 2 (some .int) :: ((wsX3_widest_r1 ++ wsX3_widest_r2) ++ wsX30 ++ wsX10)
def wsX3_refutation : List Cond := .code yX3_refutation cX3_refutation 1 (some .int) :: ([.fieldLink RX3 10 "OrderedClauses" "store" "LOrderedClauses$Store;", .instanceMethod yX1_emptyClause, .initialized RX1, .selects RX1 yX1_emptyClause yX1_emptyClause, .code yX1_emptyClause cX1_emptyClause 2 (some .int), .fieldLink RX1 37 "OrderedClauses$Store" "clauses" "I", .fieldLink RX1 15 "OrderedClauses$Store" "literals" "[I", .static yX3_at, .initialized RX3, .code yX3_at cX3_at 2 (some .int), .methodLink RX3 81 yX3_foundOrNot, .static yX3_foundOrNot, .code yX3_foundOrNot cX3_foundOrNot 1 (some .int), .constant RX3 133 (-1000004)] ++ wsX30 ++ wsX10)
def wsJ13_bitCount_95d88 : List Cond := .code yJ13_bitCount_95d88 cJ13_bitCount_95d88 2 (some .int) :: ([.constantLong RJ13 314 (6148914691236517205), .constantLong RJ13 316 (3689348814741910323), .constantLong RJ13 318 (1085102592571150095)])
def wsX3_models_r1 : List Cond := [Cond.fieldLink RX3 10 "OrderedClauses" "store" "LOrderedClauses$Store;", Cond.instanceMethod yX1_toldClauses, Cond.initialized RX1, Cond.selects RX1 yX1_toldClauses yX1_toldClauses, Cond.code yX1_toldClauses cX1_toldClauses 4 (some .long), Cond.fieldLink RX1 37 "OrderedClauses$Store" "clauses" "I", Cond.methodLink RX1 142 yX1_wasTold, Cond.instanceMethod yX1_wasTold, Cond.selects RX1 yX1_wasTold yX1_wasTold, Cond.code yX1_wasTold cX1_wasTold 2 (some .boolean), Cond.fieldLink RX1 21 "OrderedClauses$Store" "holdingParent" "[I", Cond.static yX3_at, Cond.initialized RX3, Cond.code yX3_at cX3_at 2 (some .int), Cond.static yX3_setOf, Cond.code yX3_setOf cX3_setOf 1 (some .long), Cond.instanceMethod yX1_valuesFulfilling, Cond.selects RX1 yX1_valuesFulfilling yX1_valuesFulfilling, Cond.code yX1_valuesFulfilling cX1_valuesFulfilling 6 (some .long), Cond.constantLong RX1 145 (-1), Cond.fieldLink RX1 33 "OrderedClauses$Store" "fulfilledBy" "[J", Cond.static yX3_isIn, Cond.code yX3_isIn cX3_isIn 3 (some .boolean), Cond.static yX3_longAt]
def wsX3_models_r2 : List Cond := [Cond.code yX3_longAt cX3_longAt 2 (some .long), Cond.methodLink RX3 125 yJ13_bitCount_95d88, Cond.static yJ13_bitCount_95d88, Cond.initialized RJ13, Cond.code yJ13_bitCount_95d88 cJ13_bitCount_95d88 2 (some .int), Cond.constantLong RJ13 314 (6148914691236517205), Cond.constantLong RJ13 316 (3689348814741910323), Cond.constantLong RJ13 318 (1085102592571150095)]
def wsX3_models : List Cond := .code yX3_models cX3_models 1 (some .int) :: ((wsX3_models_r1 ++ wsX3_models_r2) ++ wsX30 ++ wsX10)
def wsX3_model_r1 : List Cond := [Cond.constant RX3 30 (-1000001), Cond.fieldLink RX3 10 "OrderedClauses" "store" "LOrderedClauses$Store;", Cond.constant RX3 133 (-1000004), Cond.instanceMethod yX1_toldClauses, Cond.initialized RX1, Cond.selects RX1 yX1_toldClauses yX1_toldClauses, Cond.code yX1_toldClauses cX1_toldClauses 4 (some .long), Cond.fieldLink RX1 37 "OrderedClauses$Store" "clauses" "I", Cond.methodLink RX1 142 yX1_wasTold, Cond.instanceMethod yX1_wasTold, Cond.selects RX1 yX1_wasTold yX1_wasTold, Cond.code yX1_wasTold cX1_wasTold 2 (some .boolean), Cond.fieldLink RX1 21 "OrderedClauses$Store" "holdingParent" "[I", Cond.static yX3_at, Cond.initialized RX3, Cond.code yX3_at cX3_at 2 (some .int), Cond.static yX3_setOf, Cond.code yX3_setOf cX3_setOf 1 (some .long), Cond.instanceMethod yX1_valuesFulfilling, Cond.selects RX1 yX1_valuesFulfilling yX1_valuesFulfilling, Cond.code yX1_valuesFulfilling cX1_valuesFulfilling 6 (some .long), Cond.constantLong RX1 145 (-1), Cond.fieldLink RX1 33 "OrderedClauses$Store" "fulfilledBy" "[J", Cond.static yX3_isIn]
def wsX3_model_r2 : List Cond := [Cond.code yX3_isIn cX3_isIn 3 (some .boolean), Cond.static yX3_longAt, Cond.code yX3_longAt cX3_longAt 2 (some .long), Cond.methodLink RX3 129 yX3_isIn]
def wsX3_model : List Cond := .code yX3_model cX3_model 6 (some .int) :: ((wsX3_model_r1 ++ wsX3_model_r2) ++ wsX30 ++ wsX10)
def wsX3_broken : List Cond := .code yX3_broken cX3_broken 2 (some .long) :: ([.constantLong RX3 108 (-1000001), .fieldLink RX3 10 "OrderedClauses" "store" "LOrderedClauses$Store;", .instanceMethod yX1_clausesBrokenBy, .initialized RX1, .selects RX1 yX1_clausesBrokenBy yX1_clausesBrokenBy, .code yX1_clausesBrokenBy cX1_clausesBrokenBy 5 (some .long), .fieldLink RX1 37 "OrderedClauses$Store" "clauses" "I", .fieldLink RX1 33 "OrderedClauses$Store" "fulfilledBy" "[J", .methodLink RX1 80 yX1_isDropped, .instanceMethod yX1_isDropped, .selects RX1 yX1_isDropped yX1_isDropped, .code yX1_isDropped cX1_isDropped 2 (some .boolean), .fieldLink RX1 18 "OrderedClauses$Store" "status" "[I", .static yX3_at, .initialized RX3, .code yX3_at cX3_at 2 (some .int), .static yX3_longAt, .code yX3_longAt cX3_longAt 2 (some .long), .static yX3_isIn, .code yX3_isIn cX3_isIn 3 (some .boolean), .static yX3_setOf, .code yX3_setOf cX3_setOf 1 (some .long)] ++ wsX30 ++ wsX10)
def wsX3_core_r1 : List Cond := [Cond.fieldLink RX3 10 "OrderedClauses" "store" "LOrderedClauses$Store;", Cond.constantLong RX3 140 (-1000004), Cond.instanceMethod yX1_toldClauses, Cond.initialized RX1, Cond.selects RX1 yX1_toldClauses yX1_toldClauses, Cond.code yX1_toldClauses cX1_toldClauses 4 (some .long), Cond.fieldLink RX1 37 "OrderedClauses$Store" "clauses" "I", Cond.methodLink RX1 142 yX1_wasTold, Cond.instanceMethod yX1_wasTold, Cond.selects RX1 yX1_wasTold yX1_wasTold, Cond.code yX1_wasTold cX1_wasTold 2 (some .boolean), Cond.fieldLink RX1 21 "OrderedClauses$Store" "holdingParent" "[I", Cond.static yX3_at, Cond.initialized RX3, Cond.code yX3_at cX3_at 2 (some .int), Cond.static yX3_setOf, Cond.code yX3_setOf cX3_setOf 1 (some .long), Cond.instanceMethod yX1_valuesFulfilling, Cond.selects RX1 yX1_valuesFulfilling yX1_valuesFulfilling, Cond.code yX1_valuesFulfilling cX1_valuesFulfilling 6 (some .long), Cond.constantLong RX1 145 (-1), Cond.fieldLink RX1 33 "OrderedClauses$Store" "fulfilledBy" "[J", Cond.static yX3_isIn, Cond.code yX3_isIn cX3_isIn 3 (some .boolean)]
def wsX3_core_r2 : List Cond := [Cond.static yX3_longAt, Cond.code yX3_longAt cX3_longAt 2 (some .long), Cond.instanceMethod yX1_fewestUnfulfillable, Cond.selects RX1 yX1_fewestUnfulfillable yX1_fewestUnfulfillable, Cond.code yX1_fewestUnfulfillable cX1_fewestUnfulfillable 8 (some .long), Cond.methodLink RX1 151 yX1_valuesFulfilling]
def wsX3_core : List Cond := .code yX3_core cX3_core 3 (some .long) :: ((wsX3_core_r1 ++ wsX3_core_r2) ++ wsX30 ++ wsX10)
def wsX3_follows_r1 : List Cond := [Cond.constant RX3 30 (-1000001), Cond.fieldLink RX3 10 "OrderedClauses" "store" "LOrderedClauses$Store;", Cond.constantLong RX3 145 (-1), Cond.instanceMethod yX1_toldClauses, Cond.initialized RX1, Cond.selects RX1 yX1_toldClauses yX1_toldClauses, Cond.code yX1_toldClauses cX1_toldClauses 4 (some .long), Cond.fieldLink RX1 37 "OrderedClauses$Store" "clauses" "I", Cond.methodLink RX1 142 yX1_wasTold, Cond.instanceMethod yX1_wasTold, Cond.selects RX1 yX1_wasTold yX1_wasTold, Cond.code yX1_wasTold cX1_wasTold 2 (some .boolean), Cond.fieldLink RX1 21 "OrderedClauses$Store" "holdingParent" "[I", Cond.static yX3_at, Cond.initialized RX3, Cond.code yX3_at cX3_at 2 (some .int), Cond.static yX3_setOf, Cond.code yX3_setOf cX3_setOf 1 (some .long), Cond.instanceMethod yX1_valuesFulfilling, Cond.selects RX1 yX1_valuesFulfilling yX1_valuesFulfilling, Cond.code yX1_valuesFulfilling cX1_valuesFulfilling 6 (some .long), Cond.constantLong RX1 145 (-1), Cond.fieldLink RX1 33 "OrderedClauses$Store" "fulfilledBy" "[J", Cond.static yX3_isIn]
def wsX3_follows_r2 : List Cond := [Cond.code yX3_isIn cX3_isIn 3 (some .boolean), Cond.static yX3_longAt, Cond.code yX3_longAt cX3_longAt 2 (some .long), Cond.methodLink RX3 142 yX3_valuesOfClause, Cond.static yX3_valuesOfClause, Cond.code yX3_valuesOfClause cX3_valuesOfClause 7 (some .long), Cond.fieldLink RX3 204 "OrderedClauses" "VALUES_WITH_ATOM" "[J", Cond.methodLink RX3 208 yX3_longAt]
def wsX3_follows : List Cond := .code yX3_follows cX3_follows 4 (some .int) :: ((wsX3_follows_r1 ++ wsX3_follows_r2) ++ wsX30 ++ wsX10)
def wsX3_floatBitsOf64ths : List Cond := .code yX3_floatBitsOf64ths cX3_floatBitsOf64ths 3 (some .int) :: ([.constant RX3 212 (8388607)])
def wsX3_share : List Cond := .code yX3_share cX3_share 2 (some .int) :: ([.constant RX3 30 (-1000001), .methodLink RX3 142 yX3_valuesOfClause, .static yX3_valuesOfClause, .initialized RX3, .code yX3_valuesOfClause cX3_valuesOfClause 7 (some .long), .fieldLink RX3 204 "OrderedClauses" "VALUES_WITH_ATOM" "[J", .constantLong RX3 145 (-1), .methodLink RX3 208 yX3_longAt, .static yX3_longAt, .code yX3_longAt cX3_longAt 2 (some .long), .methodLink RX3 125 yJ13_bitCount_95d88, .static yJ13_bitCount_95d88, .initialized RJ13, .code yJ13_bitCount_95d88 cJ13_bitCount_95d88 2 (some .int), .constantLong RJ13 314 (6148914691236517205), .constantLong RJ13 316 (3689348814741910323), .constantLong RJ13 318 (1085102592571150095), .methodLink RX3 147 yX3_floatBitsOf64ths, .static yX3_floatBitsOf64ths, .code yX3_floatBitsOf64ths cX3_floatBitsOf64ths 3 (some .int), .constant RX3 212 (8388607)])
def wsX3_count : List Cond := .code yX3_count cX3_count 2 (some .int) :: ([.fieldLink RX3 10 "OrderedClauses" "store" "LOrderedClauses$Store;", .fieldLink RX3 19 "OrderedClauses" "history" "LOrderedClauses$History;", .fieldLink RX3 26 "OrderedClauses" "text" "LOrderedClauses$Text;", .constant RX3 30 (-1000001), .instanceMethod yX1_howMany, .initialized RX1, .selects RX1 yX1_howMany yX1_howMany, .code yX1_howMany cX1_howMany 4 (some .int), .fieldLink RX1 37 "OrderedClauses$Store" "clauses" "I", .fieldLink RX1 18 "OrderedClauses$Store" "status" "[I", .static yX3_at, .initialized RX3, .code yX3_at cX3_at 2 (some .int), .instanceMethod yX1_rankOf, .selects RX1 yX1_rankOf yX1_rankOf, .code yX1_rankOf cX1_rankOf 3 (some .int), .fieldLink RX1 9 "OrderedClauses$Store" "atomOfRank" "[I"] ++ wsX30 ++ wsX10 ++ wsX00 ++ wsX20)
def wsX3_undo_r1 : List Cond := [Cond.fieldLink RX3 19 "OrderedClauses" "history" "LOrderedClauses$History;", Cond.fieldLink RX3 10 "OrderedClauses" "store" "LOrderedClauses$Store;", Cond.constant RX3 56 (-1000002), Cond.instanceMethod yX0_restoreLatest, Cond.initialized RX0, Cond.selects RX0 yX0_restoreLatest yX0_restoreLatest, Cond.code yX0_restoreLatest cX0_restoreLatest 2 (some .boolean), Cond.fieldLink RX0 17 "OrderedClauses$History" "kept" "I", Cond.methodLink RX0 22 yX0_stateAt, Cond.instanceMethod yX0_stateAt, Cond.selects RX0 yX0_stateAt yX0_stateAt, Cond.code yX0_stateAt cX0_stateAt 2 (some (.object "OrderedClauses$Store")), Cond.fieldLink RX0 11 "OrderedClauses$History" "states" "[LOrderedClauses$Store;", Cond.instanceMethod yX1_copyFrom, Cond.initialized RX1, Cond.selects RX1 yX1_copyFrom yX1_copyFrom, Cond.code yX1_copyFrom cX1_copyFrom 2 none, Cond.fieldLink RX1 9 "OrderedClauses$Store" "atomOfRank" "[I", Cond.fieldLink RX1 15 "OrderedClauses$Store" "literals" "[I", Cond.fieldLink RX1 18 "OrderedClauses$Store" "status" "[I", Cond.fieldLink RX1 21 "OrderedClauses$Store" "holdingParent" "[I", Cond.fieldLink RX1 24 "OrderedClauses$Store" "otherParent" "[I", Cond.fieldLink RX1 27 "OrderedClauses$Store" "atomMadeBy" "[I", Cond.fieldLink RX1 30 "OrderedClauses$Store" "depth" "[I"]
def wsX3_undo_r2 : List Cond := [Cond.fieldLink RX1 33 "OrderedClauses$Store" "fulfilledBy" "[J", Cond.fieldLink RX1 37 "OrderedClauses$Store" "clauses" "I", Cond.fieldLink RX1 41 "OrderedClauses$Store" "steps" "I", Cond.fieldLink RX1 44 "OrderedClauses$Store" "setting" "I", Cond.fieldLink RX1 47 "OrderedClauses$Store" "heldAlways" "I", Cond.fieldLink RX1 50 "OrderedClauses$Store" "hadAnotherWithin" "I", Cond.static yX3_copyRow, Cond.initialized RX3, Cond.code yX3_copyRow cX3_copyRow 2 none, Cond.methodLink RX3 193 Lib.Math.min.name, Cond.static Lib.Math.min.name, Cond.initialized "java/lang/Math", Cond.code Lib.Math.min.name Lib.Math.min.code 2 (some .int), Cond.methodLink RX3 198 arraycopyName, Cond.native arraycopyName, Cond.static arraycopyName, Cond.initialized "java/lang/System", Cond.static yX3_copyLongRow, Cond.code yX3_copyLongRow cX3_copyLongRow 2 none]
def wsX3_undo : List Cond := .code yX3_undo cX3_undo 1 (some .int) :: ((wsX3_undo_r1 ++ wsX3_undo_r2) ++ wsX30 ++ wsX00 ++ wsX10)
def wsX3_type : List Cond := .code yX3_type cX3_type 2 (some .int) :: ([.constant RX3 30 (-1000001), .fieldLink RX3 26 "OrderedClauses" "text" "LOrderedClauses$Text;", .constant RX3 55 (-1000003), .instanceMethod yX2_add, .initialized RX2, .selects RX2 yX2_add yX2_add, .code yX2_add cX2_add 2 (some .boolean), .fieldLink RX2 15 "OrderedClauses$Text" "length" "I", .fieldLink RX2 9 "OrderedClauses$Text" "characters" "[I", .static yX3_put, .initialized RX3, .code yX3_put cX3_put 3 none] ++ wsX30 ++ wsX20)
def wsX3_clearText : List Cond := .code yX3_clearText cX3_clearText 2 (some .int) :: ([.fieldLink RX3 26 "OrderedClauses" "text" "LOrderedClauses$Text;"] ++ wsX30 ++ wsX20)
def wsX3_fault : List Cond := .code yX3_fault cX3_fault 4 (some .int) :: ([.constant RX3 30 (-1000001), .fieldLink RX3 26 "OrderedClauses" "text" "LOrderedClauses$Text;", .constant RX3 133 (-1000004), .instanceMethod yX2_whereItBreaksOff, .initialized RX2, .selects RX2 yX2_whereItBreaksOff yX2_whereItBreaksOff, .code yX2_whereItBreaksOff cX2_whereItBreaksOff 5 (some .int), .fieldLink RX2 15 "OrderedClauses$Text" "length" "I", .fieldLink RX2 9 "OrderedClauses$Text" "characters" "[I", .static yX3_at, .initialized RX3, .code yX3_at cX3_at 2 (some .int), .instanceMethod yX2_startOfClause, .selects RX2 yX2_startOfClause yX2_startOfClause, .code yX2_startOfClause cX2_startOfClause 3 (some .int)] ++ wsX30 ++ wsX20)
def wsX3_bringText_r1 : List Cond := [Cond.fieldLink RX3 26 "OrderedClauses" "text" "LOrderedClauses$Text;", Cond.fieldLink RX3 10 "OrderedClauses" "store" "LOrderedClauses$Store;", Cond.constant RX3 55 (-1000003), Cond.methodLink RX3 71 yX3_at, Cond.static yX3_at, Cond.initialized RX3, Cond.code yX3_at cX3_at 2 (some .int), Cond.instanceMethod yX1_bring, Cond.initialized RX1, Cond.selects RX1 yX1_bring yX1_bring, Cond.code yX1_bring cX1_bring 5 (some .int), Cond.fieldLink RX1 47 "OrderedClauses$Store" "heldAlways" "I", Cond.fieldLink RX1 50 "OrderedClauses$Store" "hadAnotherWithin" "I", Cond.fieldLink RX1 37 "OrderedClauses$Store" "clauses" "I", Cond.constant RX1 94 (-1000003), Cond.static yX3_holdsAlways, Cond.code yX3_holdsAlways cX3_holdsAlways 1 (some .boolean), Cond.methodLink RX1 91 yX1_hasAnotherWithin, Cond.instanceMethod yX1_hasAnotherWithin, Cond.selects RX1 yX1_hasAnotherWithin yX1_hasAnotherWithin, Cond.code yX1_hasAnotherWithin cX1_hasAnotherWithin 3 (some .boolean), Cond.fieldLink RX1 15 "OrderedClauses$Store" "literals" "[I", Cond.methodLink RX1 80 yX1_isDropped, Cond.instanceMethod yX1_isDropped]
def wsX3_bringText_r2 : List Cond := [Cond.selects RX1 yX1_isDropped yX1_isDropped, Cond.code yX1_isDropped cX1_isDropped 2 (some .boolean), Cond.fieldLink RX1 18 "OrderedClauses$Store" "status" "[I", Cond.static yX3_isWithin, Cond.code yX3_isWithin cX3_isWithin 2 (some .boolean), Cond.methodLink RX1 95 yX1_dropAllAround, Cond.instanceMethod yX1_dropAllAround, Cond.selects RX1 yX1_dropAllAround yX1_dropAllAround, Cond.code yX1_dropAllAround cX1_dropAllAround 3 none, Cond.static yX3_put, Cond.code yX3_put cX3_put 3 none, Cond.methodLink RX1 99 yX1_takeIn, Cond.instanceMethod yX1_takeIn, Cond.selects RX1 yX1_takeIn yX1_takeIn, Cond.code yX1_takeIn cX1_takeIn 7 (some .int), Cond.fieldLink RX1 21 "OrderedClauses$Store" "holdingParent" "[I", Cond.fieldLink RX1 24 "OrderedClauses$Store" "otherParent" "[I", Cond.fieldLink RX1 27 "OrderedClauses$Store" "atomMadeBy" "[I", Cond.fieldLink RX1 30 "OrderedClauses$Store" "depth" "[I", Cond.methodLink RX1 106 Lib.Math.max.name, Cond.static Lib.Math.max.name, Cond.initialized "java/lang/Math", Cond.code Lib.Math.max.name Lib.Math.max.code 2 (some .int), Cond.fieldLink RX1 33 "OrderedClauses$Store" "fulfilledBy" "[J"]
def wsX3_bringText_r3 : List Cond := [Cond.static yX3_valuesOfClause, Cond.code yX3_valuesOfClause cX3_valuesOfClause 7 (some .long), Cond.fieldLink RX3 204 "OrderedClauses" "VALUES_WITH_ATOM" "[J", Cond.constantLong RX3 145 (-1), Cond.methodLink RX3 208 yX3_longAt, Cond.static yX3_longAt, Cond.code yX3_longAt cX3_longAt 2 (some .long), Cond.static yX3_putLong, Cond.code yX3_putLong cX3_putLong 4 none]
def wsX3_bringText : List Cond := .code yX3_bringText cX3_bringText 7 (some .int) :: ((wsX3_bringText_r1 ++ (wsX3_bringText_r2 ++ wsX3_bringText_r3)) ++ wsX30 ++ wsX20 ++ wsX10)
def wsX3_play_r1 : List Cond := [Cond.fieldLink RX3 26 "OrderedClauses" "text" "LOrderedClauses$Text;", Cond.constant RX3 56 (-1000002), Cond.fieldLink RX3 19 "OrderedClauses" "history" "LOrderedClauses$History;", Cond.fieldLink RX3 10 "OrderedClauses" "store" "LOrderedClauses$Store;", Cond.instanceMethod yX2_whereItBreaksOff, Cond.initialized RX2, Cond.selects RX2 yX2_whereItBreaksOff yX2_whereItBreaksOff, Cond.code yX2_whereItBreaksOff cX2_whereItBreaksOff 5 (some .int), Cond.fieldLink RX2 15 "OrderedClauses$Text" "length" "I", Cond.fieldLink RX2 9 "OrderedClauses$Text" "characters" "[I", Cond.static yX3_at, Cond.initialized RX3, Cond.code yX3_at cX3_at 2 (some .int), Cond.instanceMethod yX0_putAside, Cond.initialized RX0, Cond.selects RX0 yX0_putAside yX0_putAside, Cond.code yX0_putAside cX0_putAside 3 none, Cond.fieldLink RX0 17 "OrderedClauses$History" "kept" "I", Cond.methodLink RX0 22 yX0_stateAt, Cond.instanceMethod yX0_stateAt, Cond.selects RX0 yX0_stateAt yX0_stateAt, Cond.code yX0_stateAt cX0_stateAt 2 (some (.object "OrderedClauses$Store")), Cond.fieldLink RX0 11 "OrderedClauses$History" "states" "[LOrderedClauses$Store;", Cond.instanceMethod yX1_copyFrom]
def wsX3_play_r2 : List Cond := [Cond.initialized RX1, Cond.selects RX1 yX1_copyFrom yX1_copyFrom, Cond.code yX1_copyFrom cX1_copyFrom 2 none, Cond.fieldLink RX1 9 "OrderedClauses$Store" "atomOfRank" "[I", Cond.fieldLink RX1 15 "OrderedClauses$Store" "literals" "[I", Cond.fieldLink RX1 18 "OrderedClauses$Store" "status" "[I", Cond.fieldLink RX1 21 "OrderedClauses$Store" "holdingParent" "[I", Cond.fieldLink RX1 24 "OrderedClauses$Store" "otherParent" "[I", Cond.fieldLink RX1 27 "OrderedClauses$Store" "atomMadeBy" "[I", Cond.fieldLink RX1 30 "OrderedClauses$Store" "depth" "[I", Cond.fieldLink RX1 33 "OrderedClauses$Store" "fulfilledBy" "[J", Cond.fieldLink RX1 37 "OrderedClauses$Store" "clauses" "I", Cond.fieldLink RX1 41 "OrderedClauses$Store" "steps" "I", Cond.fieldLink RX1 44 "OrderedClauses$Store" "setting" "I", Cond.fieldLink RX1 47 "OrderedClauses$Store" "heldAlways" "I", Cond.fieldLink RX1 50 "OrderedClauses$Store" "hadAnotherWithin" "I", Cond.static yX3_copyRow, Cond.code yX3_copyRow cX3_copyRow 2 none, Cond.methodLink RX3 193 Lib.Math.min.name, Cond.static Lib.Math.min.name, Cond.initialized "java/lang/Math", Cond.code Lib.Math.min.name Lib.Math.min.code 2 (some .int), Cond.methodLink RX3 198 arraycopyName, Cond.native arraycopyName]
def wsX3_play_r3 : List Cond := [Cond.static arraycopyName, Cond.initialized "java/lang/System", Cond.static yX3_copyLongRow, Cond.code yX3_copyLongRow cX3_copyLongRow 2 none, Cond.methodLink RX3 181 yX3_bringText, Cond.instanceMethod yX3_bringText, Cond.selects RX3 yX3_bringText yX3_bringText, Cond.code yX3_bringText cX3_bringText 7 (some .int), Cond.constant RX3 55 (-1000003), Cond.methodLink RX3 71 yX3_at, Cond.instanceMethod yX1_bring, Cond.selects RX1 yX1_bring yX1_bring, Cond.code yX1_bring cX1_bring 5 (some .int), Cond.constant RX1 94 (-1000003), Cond.static yX3_holdsAlways, Cond.code yX3_holdsAlways cX3_holdsAlways 1 (some .boolean), Cond.methodLink RX1 91 yX1_hasAnotherWithin, Cond.instanceMethod yX1_hasAnotherWithin, Cond.selects RX1 yX1_hasAnotherWithin yX1_hasAnotherWithin, Cond.code yX1_hasAnotherWithin cX1_hasAnotherWithin 3 (some .boolean), Cond.methodLink RX1 80 yX1_isDropped, Cond.instanceMethod yX1_isDropped, Cond.selects RX1 yX1_isDropped yX1_isDropped, Cond.code yX1_isDropped cX1_isDropped 2 (some .boolean)]
def wsX3_play_r4 : List Cond := [Cond.static yX3_isWithin, Cond.code yX3_isWithin cX3_isWithin 2 (some .boolean), Cond.methodLink RX1 95 yX1_dropAllAround, Cond.instanceMethod yX1_dropAllAround, Cond.selects RX1 yX1_dropAllAround yX1_dropAllAround, Cond.code yX1_dropAllAround cX1_dropAllAround 3 none, Cond.static yX3_put, Cond.code yX3_put cX3_put 3 none, Cond.methodLink RX1 99 yX1_takeIn, Cond.instanceMethod yX1_takeIn, Cond.selects RX1 yX1_takeIn yX1_takeIn, Cond.code yX1_takeIn cX1_takeIn 7 (some .int), Cond.methodLink RX1 106 Lib.Math.max.name, Cond.static Lib.Math.max.name, Cond.code Lib.Math.max.name Lib.Math.max.code 2 (some .int), Cond.static yX3_valuesOfClause, Cond.code yX3_valuesOfClause cX3_valuesOfClause 7 (some .long), Cond.fieldLink RX3 204 "OrderedClauses" "VALUES_WITH_ATOM" "[J", Cond.constantLong RX3 145 (-1), Cond.methodLink RX3 208 yX3_longAt, Cond.static yX3_longAt, Cond.code yX3_longAt cX3_longAt 2 (some .long), Cond.static yX3_putLong, Cond.code yX3_putLong cX3_putLong 4 none]
def wsX3_play_r5 : List Cond := [Cond.methodLink RX3 39 yX3_settle, Cond.instanceMethod yX3_settle, Cond.selects RX3 yX3_settle yX3_settle, Cond.code yX3_settle cX3_settle 2 (some .int), Cond.constant RX3 30 (-1000001), Cond.instanceMethod yX0_takeBack, Cond.selects RX0 yX0_takeBack yX0_takeBack, Cond.code yX0_takeBack cX0_takeBack 2 none, Cond.instanceMethod yX0_keep, Cond.selects RX0 yX0_keep yX0_keep, Cond.code yX0_keep cX0_keep 1 none, Cond.methodLink RX0 30 yX0_dropOldest, Cond.instanceMethod yX0_dropOldest, Cond.selects RX0 yX0_dropOldest yX0_dropOldest, Cond.code yX0_dropOldest cX0_dropOldest 4 none]
def wsX3_play : List Cond := .code yX3_play cX3_play 1 (some .int) :: ((wsX3_play_r1 ++ (wsX3_play_r2 ++ (wsX3_play_r3 ++ (wsX3_play_r4 ++ wsX3_play_r5)))) ++ wsX30 ++ wsX20 ++ wsX00 ++ wsX10)
def wsX4_init : List Cond := .code yX4_init cX4_init 2 none :: ([.methodLink RX4 1 objectInit, .instanceMethod objectInit, .code objectInit ⟨#[0xb1]⟩ 1 none, .arrayClass .int, .fieldLink RX4 7 "OrderedClausesModel" "s" "[I", .fieldLink RX4 13 "OrderedClausesModel" "begun" "[I", .fieldLink RX4 16 "OrderedClausesModel" "past" "[I", .fieldLink RX4 19 "OrderedClausesModel" "text" "[I"] ++ wsX40)
def wsX4_in : List Cond := .code yX4_in cX4_in 3 (some .boolean) :: ([])
def wsX4_begins : List Cond := .code yX4_begins cX4_begins 2 none :: ([.fieldLink RX4 13 "OrderedClausesModel" "begun" "[I", .fieldLink RX4 7 "OrderedClausesModel" "s" "[I"] ++ wsX40)
def wsX4_returns : List Cond := .code yX4_returns cX4_returns 2 none :: ([.fieldLink RX4 7 "OrderedClausesModel" "s" "[I", .fieldLink RX4 13 "OrderedClausesModel" "begun" "[I"] ++ wsX40)
def wsX4_acted : List Cond := .code yX4_acted cX4_acted 3 (some .int) :: ([.constant RX4 22 (-1000001), .fieldLink RX4 26 "OrderedClausesModel" "states" "I", .fieldLink RX4 16 "OrderedClausesModel" "past" "[I", .fieldLink RX4 13 "OrderedClausesModel" "begun" "[I", .methodLink RX4 23 yX4_returns, .instanceMethod yX4_returns, .selects RX4 yX4_returns yX4_returns, .initialized RX4, .code yX4_returns cX4_returns 2 none, .fieldLink RX4 7 "OrderedClausesModel" "s" "[I"] ++ wsX40)
def wsX4_of : List Cond := .code yX4_of cX4_of 3 (some .int) :: ([.fieldLink RX4 7 "OrderedClausesModel" "s" "[I"] ++ wsX40)
def wsX4_puts : List Cond := .code yX4_puts cX4_puts 4 none :: ([.fieldLink RX4 7 "OrderedClausesModel" "s" "[I"] ++ wsX40)
def wsX4_isClause : List Cond := .code yX4_isClause cX4_isClause 2 (some .boolean) :: ([.fieldLink RX4 7 "OrderedClausesModel" "s" "[I", .methodLink RX4 30 yX4_in, .static yX4_in, .initialized RX4, .code yX4_in cX4_in 3 (some .boolean)] ++ wsX40)
def wsX4_isKept : List Cond := .code yX4_isKept cX4_isKept 2 (some .boolean) :: ([.methodLink RX4 34 yX4_of, .instanceMethod yX4_of, .selects RX4 yX4_of yX4_of, .initialized RX4, .code yX4_of cX4_of 3 (some .int), .fieldLink RX4 7 "OrderedClausesModel" "s" "[I"] ++ wsX40)
def wsX4_has : List Cond := .code yX4_has cX4_has 2 (some .boolean) :: ([])
def wsX4_ones : List Cond := .code yX4_ones cX4_ones 3 (some .int) :: ([])
def wsX4_keyOf : List Cond := .code yX4_keyOf cX4_keyOf 2 (some .int) :: ([.fieldLink RX4 7 "OrderedClausesModel" "s" "[I"] ++ wsX40)
def wsX4_greatest : List Cond := .code yX4_greatest cX4_greatest 4 (some .int) :: ([.methodLink RX4 38 yX4_has, .static yX4_has, .initialized RX4, .code yX4_has cX4_has 2 (some .boolean), .methodLink RX4 42 yX4_keyOf, .instanceMethod yX4_keyOf, .selects RX4 yX4_keyOf yX4_keyOf, .code yX4_keyOf cX4_keyOf 2 (some .int), .fieldLink RX4 7 "OrderedClausesModel" "s" "[I"] ++ wsX40)
def wsX4_isLess : List Cond := .code yX4_isLess cX4_isLess 4 (some .boolean) :: ([.methodLink RX4 46 yX4_greatest, .instanceMethod yX4_greatest, .selects RX4 yX4_greatest yX4_greatest, .initialized RX4, .code yX4_greatest cX4_greatest 4 (some .int), .methodLink RX4 38 yX4_has, .static yX4_has, .code yX4_has cX4_has 2 (some .boolean), .methodLink RX4 42 yX4_keyOf, .instanceMethod yX4_keyOf, .selects RX4 yX4_keyOf yX4_keyOf, .code yX4_keyOf cX4_keyOf 2 (some .int), .fieldLink RX4 7 "OrderedClausesModel" "s" "[I"] ++ wsX40)
def wsX4_holdsAlways : List Cond := .code yX4_holdsAlways cX4_holdsAlways 3 (some .boolean) :: ([])
def wsX4_hasWithin : List Cond := .code yX4_hasWithin cX4_hasWithin 4 (some .boolean) :: ([.fieldLink RX4 7 "OrderedClausesModel" "s" "[I", .methodLink RX4 49 yX4_isKept, .instanceMethod yX4_isKept, .selects RX4 yX4_isKept yX4_isKept, .initialized RX4, .code yX4_isKept cX4_isKept 2 (some .boolean), .methodLink RX4 34 yX4_of, .instanceMethod yX4_of, .selects RX4 yX4_of yX4_of, .code yX4_of cX4_of 3 (some .int)] ++ wsX40)
def wsX4_comes : List Cond := .code yX4_comes cX4_comes 8 (some .int) :: ([.fieldLink RX4 7 "OrderedClausesModel" "s" "[I", .constant RX4 59 (-1000003), .methodLink RX4 53 yX4_holdsAlways, .static yX4_holdsAlways, .initialized RX4, .code yX4_holdsAlways cX4_holdsAlways 3 (some .boolean), .methodLink RX4 56 yX4_hasWithin, .instanceMethod yX4_hasWithin, .selects RX4 yX4_hasWithin yX4_hasWithin, .code yX4_hasWithin cX4_hasWithin 4 (some .boolean), .methodLink RX4 49 yX4_isKept, .instanceMethod yX4_isKept, .selects RX4 yX4_isKept yX4_isKept, .code yX4_isKept cX4_isKept 2 (some .boolean), .methodLink RX4 34 yX4_of, .instanceMethod yX4_of, .selects RX4 yX4_of yX4_of, .code yX4_of cX4_of 3 (some .int), .methodLink RX4 60 yX4_puts, .instanceMethod yX4_puts, .selects RX4 yX4_puts yX4_puts, .code yX4_puts cX4_puts 4 none] ++ wsX40)
def wsX4_empties : List Cond := .code yX4_empties cX4_empties 3 (some .int) :: ([.fieldLink RX4 7 "OrderedClausesModel" "s" "[I", .methodLink RX4 34 yX4_of, .instanceMethod yX4_of, .selects RX4 yX4_of yX4_of, .initialized RX4, .code yX4_of cX4_of 3 (some .int)] ++ wsX40)
def wsX4_chosen : List Cond := .code yX4_chosen cX4_chosen 5 (some .int) :: ([.fieldLink RX4 7 "OrderedClausesModel" "s" "[I", .methodLink RX4 34 yX4_of, .instanceMethod yX4_of, .selects RX4 yX4_of yX4_of, .initialized RX4, .code yX4_of cX4_of 3 (some .int), .methodLink RX4 64 yX4_ones, .static yX4_ones, .code yX4_ones cX4_ones 3 (some .int), .methodLink RX4 67 yX4_empties, .instanceMethod yX4_empties, .selects RX4 yX4_empties yX4_empties, .code yX4_empties cX4_empties 3 (some .int)] ++ wsX40)
def wsX4_resolves_r1 : List Cond := [Cond.methodLink RX4 34 yX4_of, Cond.instanceMethod yX4_of, Cond.selects RX4 yX4_of yX4_of, Cond.initialized RX4, Cond.code yX4_of cX4_of 3 (some .int), Cond.fieldLink RX4 7 "OrderedClausesModel" "s" "[I", Cond.methodLink RX4 46 yX4_greatest, Cond.instanceMethod yX4_greatest, Cond.selects RX4 yX4_greatest yX4_greatest, Cond.code yX4_greatest cX4_greatest 4 (some .int), Cond.methodLink RX4 38 yX4_has, Cond.static yX4_has, Cond.code yX4_has cX4_has 2 (some .boolean), Cond.methodLink RX4 42 yX4_keyOf, Cond.instanceMethod yX4_keyOf, Cond.selects RX4 yX4_keyOf yX4_keyOf, Cond.code yX4_keyOf cX4_keyOf 2 (some .int), Cond.methodLink RX4 71 yX4_comes, Cond.instanceMethod yX4_comes, Cond.selects RX4 yX4_comes yX4_comes, Cond.code yX4_comes cX4_comes 8 (some .int), Cond.constant RX4 59 (-1000003), Cond.methodLink RX4 53 yX4_holdsAlways, Cond.static yX4_holdsAlways]
def wsX4_resolves_r2 : List Cond := [Cond.code yX4_holdsAlways cX4_holdsAlways 3 (some .boolean), Cond.methodLink RX4 56 yX4_hasWithin, Cond.instanceMethod yX4_hasWithin, Cond.selects RX4 yX4_hasWithin yX4_hasWithin, Cond.code yX4_hasWithin cX4_hasWithin 4 (some .boolean), Cond.methodLink RX4 49 yX4_isKept, Cond.instanceMethod yX4_isKept, Cond.selects RX4 yX4_isKept yX4_isKept, Cond.code yX4_isKept cX4_isKept 2 (some .boolean), Cond.methodLink RX4 60 yX4_puts, Cond.instanceMethod yX4_puts, Cond.selects RX4 yX4_puts yX4_puts, Cond.code yX4_puts cX4_puts 4 none]
def wsX4_resolves : List Cond := .code yX4_resolves cX4_resolves 6 (some .int) :: ((wsX4_resolves_r1 ++ wsX4_resolves_r2) ++ wsX40)
def wsX4_arePartners : List Cond := .code yX4_arePartners cX4_arePartners 4 (some .boolean) :: ([.methodLink RX4 34 yX4_of, .instanceMethod yX4_of, .selects RX4 yX4_of yX4_of, .initialized RX4, .code yX4_of cX4_of 3 (some .int), .fieldLink RX4 7 "OrderedClausesModel" "s" "[I", .methodLink RX4 46 yX4_greatest, .instanceMethod yX4_greatest, .selects RX4 yX4_greatest yX4_greatest, .code yX4_greatest cX4_greatest 4 (some .int), .methodLink RX4 38 yX4_has, .static yX4_has, .code yX4_has cX4_has 2 (some .boolean), .methodLink RX4 42 yX4_keyOf, .instanceMethod yX4_keyOf, .selects RX4 yX4_keyOf yX4_keyOf, .code yX4_keyOf cX4_keyOf 2 (some .int)] ++ wsX40)
def wsX4_steps_r1 : List Cond := [Cond.constant RX4 78 (-1000002), Cond.fieldLink RX4 7 "OrderedClausesModel" "s" "[I", Cond.constant RX4 59 (-1000003), Cond.methodLink RX4 75 yX4_chosen, Cond.instanceMethod yX4_chosen, Cond.selects RX4 yX4_chosen yX4_chosen, Cond.initialized RX4, Cond.code yX4_chosen cX4_chosen 5 (some .int), Cond.methodLink RX4 34 yX4_of, Cond.instanceMethod yX4_of, Cond.selects RX4 yX4_of yX4_of, Cond.code yX4_of cX4_of 3 (some .int), Cond.methodLink RX4 64 yX4_ones, Cond.static yX4_ones, Cond.code yX4_ones cX4_ones 3 (some .int), Cond.methodLink RX4 67 yX4_empties, Cond.instanceMethod yX4_empties, Cond.selects RX4 yX4_empties yX4_empties, Cond.code yX4_empties cX4_empties 3 (some .int), Cond.methodLink RX4 60 yX4_puts, Cond.instanceMethod yX4_puts, Cond.selects RX4 yX4_puts yX4_puts, Cond.code yX4_puts cX4_puts 4 none, Cond.methodLink RX4 49 yX4_isKept]
def wsX4_steps_r2 : List Cond := [Cond.instanceMethod yX4_isKept, Cond.selects RX4 yX4_isKept yX4_isKept, Cond.code yX4_isKept cX4_isKept 2 (some .boolean), Cond.methodLink RX4 79 yX4_arePartners, Cond.instanceMethod yX4_arePartners, Cond.selects RX4 yX4_arePartners yX4_arePartners, Cond.code yX4_arePartners cX4_arePartners 4 (some .boolean), Cond.methodLink RX4 46 yX4_greatest, Cond.instanceMethod yX4_greatest, Cond.selects RX4 yX4_greatest yX4_greatest, Cond.code yX4_greatest cX4_greatest 4 (some .int), Cond.methodLink RX4 38 yX4_has, Cond.static yX4_has, Cond.code yX4_has cX4_has 2 (some .boolean), Cond.methodLink RX4 42 yX4_keyOf, Cond.instanceMethod yX4_keyOf, Cond.selects RX4 yX4_keyOf yX4_keyOf, Cond.code yX4_keyOf cX4_keyOf 2 (some .int), Cond.methodLink RX4 82 yX4_resolves, Cond.instanceMethod yX4_resolves, Cond.selects RX4 yX4_resolves yX4_resolves, Cond.code yX4_resolves cX4_resolves 6 (some .int), Cond.methodLink RX4 71 yX4_comes, Cond.instanceMethod yX4_comes]
def wsX4_steps_r3 : List Cond := [Cond.selects RX4 yX4_comes yX4_comes, Cond.code yX4_comes cX4_comes 8 (some .int), Cond.methodLink RX4 53 yX4_holdsAlways, Cond.static yX4_holdsAlways, Cond.code yX4_holdsAlways cX4_holdsAlways 3 (some .boolean), Cond.methodLink RX4 56 yX4_hasWithin, Cond.instanceMethod yX4_hasWithin, Cond.selects RX4 yX4_hasWithin yX4_hasWithin, Cond.code yX4_hasWithin cX4_hasWithin 4 (some .boolean)]
def wsX4_steps : List Cond := .code yX4_steps cX4_steps 5 (some .int) :: ((wsX4_steps_r1 ++ (wsX4_steps_r2 ++ wsX4_steps_r3)) ++ wsX40)
def wsX4_runs_r1 : List Cond := [Cond.constant RX4 59 (-1000003), Cond.constant RX4 78 (-1000002), Cond.methodLink RX4 85 yX4_steps, Cond.instanceMethod yX4_steps, Cond.selects RX4 yX4_steps yX4_steps, Cond.initialized RX4, Cond.code yX4_steps cX4_steps 5 (some .int), Cond.fieldLink RX4 7 "OrderedClausesModel" "s" "[I", Cond.methodLink RX4 75 yX4_chosen, Cond.instanceMethod yX4_chosen, Cond.selects RX4 yX4_chosen yX4_chosen, Cond.code yX4_chosen cX4_chosen 5 (some .int), Cond.methodLink RX4 34 yX4_of, Cond.instanceMethod yX4_of, Cond.selects RX4 yX4_of yX4_of, Cond.code yX4_of cX4_of 3 (some .int), Cond.methodLink RX4 64 yX4_ones, Cond.static yX4_ones, Cond.code yX4_ones cX4_ones 3 (some .int), Cond.methodLink RX4 67 yX4_empties, Cond.instanceMethod yX4_empties, Cond.selects RX4 yX4_empties yX4_empties, Cond.code yX4_empties cX4_empties 3 (some .int), Cond.methodLink RX4 60 yX4_puts]
def wsX4_runs_r2 : List Cond := [Cond.instanceMethod yX4_puts, Cond.selects RX4 yX4_puts yX4_puts, Cond.code yX4_puts cX4_puts 4 none, Cond.methodLink RX4 49 yX4_isKept, Cond.instanceMethod yX4_isKept, Cond.selects RX4 yX4_isKept yX4_isKept, Cond.code yX4_isKept cX4_isKept 2 (some .boolean), Cond.methodLink RX4 79 yX4_arePartners, Cond.instanceMethod yX4_arePartners, Cond.selects RX4 yX4_arePartners yX4_arePartners, Cond.code yX4_arePartners cX4_arePartners 4 (some .boolean), Cond.methodLink RX4 46 yX4_greatest, Cond.instanceMethod yX4_greatest, Cond.selects RX4 yX4_greatest yX4_greatest, Cond.code yX4_greatest cX4_greatest 4 (some .int), Cond.methodLink RX4 38 yX4_has, Cond.static yX4_has, Cond.code yX4_has cX4_has 2 (some .boolean), Cond.methodLink RX4 42 yX4_keyOf, Cond.instanceMethod yX4_keyOf, Cond.selects RX4 yX4_keyOf yX4_keyOf, Cond.code yX4_keyOf cX4_keyOf 2 (some .int), Cond.methodLink RX4 82 yX4_resolves, Cond.instanceMethod yX4_resolves]
def wsX4_runs_r3 : List Cond := [Cond.selects RX4 yX4_resolves yX4_resolves, Cond.code yX4_resolves cX4_resolves 6 (some .int), Cond.methodLink RX4 71 yX4_comes, Cond.instanceMethod yX4_comes, Cond.selects RX4 yX4_comes yX4_comes, Cond.code yX4_comes cX4_comes 8 (some .int), Cond.methodLink RX4 53 yX4_holdsAlways, Cond.static yX4_holdsAlways, Cond.code yX4_holdsAlways cX4_holdsAlways 3 (some .boolean), Cond.methodLink RX4 56 yX4_hasWithin, Cond.instanceMethod yX4_hasWithin, Cond.selects RX4 yX4_hasWithin yX4_hasWithin, Cond.code yX4_hasWithin cX4_hasWithin 4 (some .boolean)]
def wsX4_runs : List Cond := .code yX4_runs cX4_runs 4 (some .int) :: ((wsX4_runs_r1 ++ (wsX4_runs_r2 ++ wsX4_runs_r3)) ++ wsX40)
def wsX4_ranks : List Cond := .code yX4_ranks cX4_ranks 5 (some .int) :: ([.fieldLink RX4 7 "OrderedClausesModel" "s" "[I", .methodLink RX4 34 yX4_of, .instanceMethod yX4_of, .selects RX4 yX4_of yX4_of, .initialized RX4, .code yX4_of cX4_of 3 (some .int), .methodLink RX4 60 yX4_puts, .instanceMethod yX4_puts, .selects RX4 yX4_puts yX4_puts, .code yX4_puts cX4_puts 4 none] ++ wsX40)
def wsX4_clears : List Cond := .code yX4_clears cX4_clears 3 (some .int) :: ([.fieldLink RX4 7 "OrderedClausesModel" "s" "[I"] ++ wsX40)
def wsX4_tell_r1 : List Cond := [Cond.constant RX4 22 (-1000001), Cond.methodLink RX4 88 yX4_begins, Cond.instanceMethod yX4_begins, Cond.selects RX4 yX4_begins yX4_begins, Cond.initialized RX4, Cond.code yX4_begins cX4_begins 2 none, Cond.fieldLink RX4 13 "OrderedClausesModel" "begun" "[I", Cond.fieldLink RX4 7 "OrderedClausesModel" "s" "[I", Cond.methodLink RX4 30 yX4_in, Cond.static yX4_in, Cond.code yX4_in cX4_in 3 (some .boolean), Cond.methodLink RX4 71 yX4_comes, Cond.instanceMethod yX4_comes, Cond.selects RX4 yX4_comes yX4_comes, Cond.code yX4_comes cX4_comes 8 (some .int), Cond.constant RX4 59 (-1000003), Cond.methodLink RX4 53 yX4_holdsAlways, Cond.static yX4_holdsAlways, Cond.code yX4_holdsAlways cX4_holdsAlways 3 (some .boolean), Cond.methodLink RX4 56 yX4_hasWithin, Cond.instanceMethod yX4_hasWithin, Cond.selects RX4 yX4_hasWithin yX4_hasWithin, Cond.code yX4_hasWithin cX4_hasWithin 4 (some .boolean), Cond.methodLink RX4 49 yX4_isKept]
def wsX4_tell_r2 : List Cond := [Cond.instanceMethod yX4_isKept, Cond.selects RX4 yX4_isKept yX4_isKept, Cond.code yX4_isKept cX4_isKept 2 (some .boolean), Cond.methodLink RX4 34 yX4_of, Cond.instanceMethod yX4_of, Cond.selects RX4 yX4_of yX4_of, Cond.code yX4_of cX4_of 3 (some .int), Cond.methodLink RX4 60 yX4_puts, Cond.instanceMethod yX4_puts, Cond.selects RX4 yX4_puts yX4_puts, Cond.code yX4_puts cX4_puts 4 none, Cond.methodLink RX4 91 yX4_acted, Cond.instanceMethod yX4_acted, Cond.selects RX4 yX4_acted yX4_acted, Cond.code yX4_acted cX4_acted 3 (some .int), Cond.fieldLink RX4 26 "OrderedClausesModel" "states" "I", Cond.fieldLink RX4 16 "OrderedClausesModel" "past" "[I", Cond.methodLink RX4 23 yX4_returns, Cond.instanceMethod yX4_returns, Cond.selects RX4 yX4_returns yX4_returns, Cond.code yX4_returns cX4_returns 2 none]
def wsX4_tell : List Cond := .code yX4_tell cX4_tell 2 (some .int) :: ((wsX4_tell_r1 ++ wsX4_tell_r2) ++ wsX40)
def wsX4_rank_r1 : List Cond := [Cond.constant RX4 22 (-1000001), Cond.methodLink RX4 88 yX4_begins, Cond.instanceMethod yX4_begins, Cond.selects RX4 yX4_begins yX4_begins, Cond.initialized RX4, Cond.code yX4_begins cX4_begins 2 none, Cond.fieldLink RX4 13 "OrderedClausesModel" "begun" "[I", Cond.fieldLink RX4 7 "OrderedClausesModel" "s" "[I", Cond.methodLink RX4 30 yX4_in, Cond.static yX4_in, Cond.code yX4_in cX4_in 3 (some .boolean), Cond.methodLink RX4 94 yX4_ranks, Cond.instanceMethod yX4_ranks, Cond.selects RX4 yX4_ranks yX4_ranks, Cond.code yX4_ranks cX4_ranks 5 (some .int), Cond.methodLink RX4 34 yX4_of, Cond.instanceMethod yX4_of, Cond.selects RX4 yX4_of yX4_of, Cond.code yX4_of cX4_of 3 (some .int), Cond.methodLink RX4 60 yX4_puts, Cond.instanceMethod yX4_puts, Cond.selects RX4 yX4_puts yX4_puts, Cond.code yX4_puts cX4_puts 4 none, Cond.methodLink RX4 91 yX4_acted]
def wsX4_rank_r2 : List Cond := [Cond.instanceMethod yX4_acted, Cond.selects RX4 yX4_acted yX4_acted, Cond.code yX4_acted cX4_acted 3 (some .int), Cond.fieldLink RX4 26 "OrderedClausesModel" "states" "I", Cond.fieldLink RX4 16 "OrderedClausesModel" "past" "[I", Cond.methodLink RX4 23 yX4_returns, Cond.instanceMethod yX4_returns, Cond.selects RX4 yX4_returns yX4_returns, Cond.code yX4_returns cX4_returns 2 none]
def wsX4_rank : List Cond := .code yX4_rank cX4_rank 3 (some .int) :: ((wsX4_rank_r1 ++ wsX4_rank_r2) ++ wsX40)
def wsX4_set : List Cond := .code yX4_set cX4_set 3 (some .int) :: ([.fieldLink RX4 7 "OrderedClausesModel" "s" "[I", .constant RX4 22 (-1000001), .methodLink RX4 88 yX4_begins, .instanceMethod yX4_begins, .selects RX4 yX4_begins yX4_begins, .initialized RX4, .code yX4_begins cX4_begins 2 none, .fieldLink RX4 13 "OrderedClausesModel" "begun" "[I", .methodLink RX4 30 yX4_in, .static yX4_in, .code yX4_in cX4_in 3 (some .boolean), .methodLink RX4 91 yX4_acted, .instanceMethod yX4_acted, .selects RX4 yX4_acted yX4_acted, .code yX4_acted cX4_acted 3 (some .int), .fieldLink RX4 26 "OrderedClausesModel" "states" "I", .fieldLink RX4 16 "OrderedClausesModel" "past" "[I", .methodLink RX4 23 yX4_returns, .instanceMethod yX4_returns, .selects RX4 yX4_returns yX4_returns, .code yX4_returns cX4_returns 2 none] ++ wsX40)
def wsX4_step_r1 : List Cond := [Cond.methodLink RX4 88 yX4_begins, Cond.instanceMethod yX4_begins, Cond.selects RX4 yX4_begins yX4_begins, Cond.initialized RX4, Cond.code yX4_begins cX4_begins 2 none, Cond.fieldLink RX4 13 "OrderedClausesModel" "begun" "[I", Cond.fieldLink RX4 7 "OrderedClausesModel" "s" "[I", Cond.methodLink RX4 85 yX4_steps, Cond.instanceMethod yX4_steps, Cond.selects RX4 yX4_steps yX4_steps, Cond.code yX4_steps cX4_steps 5 (some .int), Cond.constant RX4 78 (-1000002), Cond.constant RX4 59 (-1000003), Cond.methodLink RX4 75 yX4_chosen, Cond.instanceMethod yX4_chosen, Cond.selects RX4 yX4_chosen yX4_chosen, Cond.code yX4_chosen cX4_chosen 5 (some .int), Cond.methodLink RX4 34 yX4_of, Cond.instanceMethod yX4_of, Cond.selects RX4 yX4_of yX4_of, Cond.code yX4_of cX4_of 3 (some .int), Cond.methodLink RX4 64 yX4_ones, Cond.static yX4_ones, Cond.code yX4_ones cX4_ones 3 (some .int)]
def wsX4_step_r2 : List Cond := [Cond.methodLink RX4 67 yX4_empties, Cond.instanceMethod yX4_empties, Cond.selects RX4 yX4_empties yX4_empties, Cond.code yX4_empties cX4_empties 3 (some .int), Cond.methodLink RX4 60 yX4_puts, Cond.instanceMethod yX4_puts, Cond.selects RX4 yX4_puts yX4_puts, Cond.code yX4_puts cX4_puts 4 none, Cond.methodLink RX4 49 yX4_isKept, Cond.instanceMethod yX4_isKept, Cond.selects RX4 yX4_isKept yX4_isKept, Cond.code yX4_isKept cX4_isKept 2 (some .boolean), Cond.methodLink RX4 79 yX4_arePartners, Cond.instanceMethod yX4_arePartners, Cond.selects RX4 yX4_arePartners yX4_arePartners, Cond.code yX4_arePartners cX4_arePartners 4 (some .boolean), Cond.methodLink RX4 46 yX4_greatest, Cond.instanceMethod yX4_greatest, Cond.selects RX4 yX4_greatest yX4_greatest, Cond.code yX4_greatest cX4_greatest 4 (some .int), Cond.methodLink RX4 38 yX4_has, Cond.static yX4_has, Cond.code yX4_has cX4_has 2 (some .boolean), Cond.methodLink RX4 42 yX4_keyOf]
def wsX4_step_r3 : List Cond := [Cond.instanceMethod yX4_keyOf, Cond.selects RX4 yX4_keyOf yX4_keyOf, Cond.code yX4_keyOf cX4_keyOf 2 (some .int), Cond.methodLink RX4 82 yX4_resolves, Cond.instanceMethod yX4_resolves, Cond.selects RX4 yX4_resolves yX4_resolves, Cond.code yX4_resolves cX4_resolves 6 (some .int), Cond.methodLink RX4 71 yX4_comes, Cond.instanceMethod yX4_comes, Cond.selects RX4 yX4_comes yX4_comes, Cond.code yX4_comes cX4_comes 8 (some .int), Cond.methodLink RX4 53 yX4_holdsAlways, Cond.static yX4_holdsAlways, Cond.code yX4_holdsAlways cX4_holdsAlways 3 (some .boolean), Cond.methodLink RX4 56 yX4_hasWithin, Cond.instanceMethod yX4_hasWithin, Cond.selects RX4 yX4_hasWithin yX4_hasWithin, Cond.code yX4_hasWithin cX4_hasWithin 4 (some .boolean), Cond.methodLink RX4 91 yX4_acted, Cond.instanceMethod yX4_acted, Cond.selects RX4 yX4_acted yX4_acted, Cond.code yX4_acted cX4_acted 3 (some .int), Cond.constant RX4 22 (-1000001), Cond.fieldLink RX4 26 "OrderedClausesModel" "states" "I"]
def wsX4_step_r4 : List Cond := [Cond.fieldLink RX4 16 "OrderedClausesModel" "past" "[I", Cond.methodLink RX4 23 yX4_returns, Cond.instanceMethod yX4_returns, Cond.selects RX4 yX4_returns yX4_returns, Cond.code yX4_returns cX4_returns 2 none]
def wsX4_step : List Cond := .code yX4_step cX4_step 1 (some .int) :: ((wsX4_step_r1 ++ (wsX4_step_r2 ++ (wsX4_step_r3 ++ wsX4_step_r4))) ++ wsX40)
def wsX4_run_r1 : List Cond := [Cond.constant RX4 22 (-1000001), Cond.methodLink RX4 88 yX4_begins, Cond.instanceMethod yX4_begins, Cond.selects RX4 yX4_begins yX4_begins, Cond.initialized RX4, Cond.code yX4_begins cX4_begins 2 none, Cond.fieldLink RX4 13 "OrderedClausesModel" "begun" "[I", Cond.fieldLink RX4 7 "OrderedClausesModel" "s" "[I", Cond.methodLink RX4 30 yX4_in, Cond.static yX4_in, Cond.code yX4_in cX4_in 3 (some .boolean), Cond.methodLink RX4 97 yX4_runs, Cond.instanceMethod yX4_runs, Cond.selects RX4 yX4_runs yX4_runs, Cond.code yX4_runs cX4_runs 4 (some .int), Cond.constant RX4 59 (-1000003), Cond.constant RX4 78 (-1000002), Cond.methodLink RX4 85 yX4_steps, Cond.instanceMethod yX4_steps, Cond.selects RX4 yX4_steps yX4_steps, Cond.code yX4_steps cX4_steps 5 (some .int), Cond.methodLink RX4 75 yX4_chosen, Cond.instanceMethod yX4_chosen, Cond.selects RX4 yX4_chosen yX4_chosen]
def wsX4_run_r2 : List Cond := [Cond.code yX4_chosen cX4_chosen 5 (some .int), Cond.methodLink RX4 34 yX4_of, Cond.instanceMethod yX4_of, Cond.selects RX4 yX4_of yX4_of, Cond.code yX4_of cX4_of 3 (some .int), Cond.methodLink RX4 64 yX4_ones, Cond.static yX4_ones, Cond.code yX4_ones cX4_ones 3 (some .int), Cond.methodLink RX4 67 yX4_empties, Cond.instanceMethod yX4_empties, Cond.selects RX4 yX4_empties yX4_empties, Cond.code yX4_empties cX4_empties 3 (some .int), Cond.methodLink RX4 60 yX4_puts, Cond.instanceMethod yX4_puts, Cond.selects RX4 yX4_puts yX4_puts, Cond.code yX4_puts cX4_puts 4 none, Cond.methodLink RX4 49 yX4_isKept, Cond.instanceMethod yX4_isKept, Cond.selects RX4 yX4_isKept yX4_isKept, Cond.code yX4_isKept cX4_isKept 2 (some .boolean), Cond.methodLink RX4 79 yX4_arePartners, Cond.instanceMethod yX4_arePartners, Cond.selects RX4 yX4_arePartners yX4_arePartners, Cond.code yX4_arePartners cX4_arePartners 4 (some .boolean)]
def wsX4_run_r3 : List Cond := [Cond.methodLink RX4 46 yX4_greatest, Cond.instanceMethod yX4_greatest, Cond.selects RX4 yX4_greatest yX4_greatest, Cond.code yX4_greatest cX4_greatest 4 (some .int), Cond.methodLink RX4 38 yX4_has, Cond.static yX4_has, Cond.code yX4_has cX4_has 2 (some .boolean), Cond.methodLink RX4 42 yX4_keyOf, Cond.instanceMethod yX4_keyOf, Cond.selects RX4 yX4_keyOf yX4_keyOf, Cond.code yX4_keyOf cX4_keyOf 2 (some .int), Cond.methodLink RX4 82 yX4_resolves, Cond.instanceMethod yX4_resolves, Cond.selects RX4 yX4_resolves yX4_resolves, Cond.code yX4_resolves cX4_resolves 6 (some .int), Cond.methodLink RX4 71 yX4_comes, Cond.instanceMethod yX4_comes, Cond.selects RX4 yX4_comes yX4_comes, Cond.code yX4_comes cX4_comes 8 (some .int), Cond.methodLink RX4 53 yX4_holdsAlways, Cond.static yX4_holdsAlways, Cond.code yX4_holdsAlways cX4_holdsAlways 3 (some .boolean), Cond.methodLink RX4 56 yX4_hasWithin, Cond.instanceMethod yX4_hasWithin]
def wsX4_run_r4 : List Cond := [Cond.selects RX4 yX4_hasWithin yX4_hasWithin, Cond.code yX4_hasWithin cX4_hasWithin 4 (some .boolean), Cond.methodLink RX4 91 yX4_acted, Cond.instanceMethod yX4_acted, Cond.selects RX4 yX4_acted yX4_acted, Cond.code yX4_acted cX4_acted 3 (some .int), Cond.fieldLink RX4 26 "OrderedClausesModel" "states" "I", Cond.fieldLink RX4 16 "OrderedClausesModel" "past" "[I", Cond.methodLink RX4 23 yX4_returns, Cond.instanceMethod yX4_returns, Cond.selects RX4 yX4_returns yX4_returns, Cond.code yX4_returns cX4_returns 2 none]
def wsX4_run : List Cond := .code yX4_run cX4_run 2 (some .int) :: ((wsX4_run_r1 ++ (wsX4_run_r2 ++ (wsX4_run_r3 ++ wsX4_run_r4))) ++ wsX40)
def wsX4_empty : List Cond := .code yX4_empty cX4_empty 1 (some .int) :: ([.methodLink RX4 88 yX4_begins, .instanceMethod yX4_begins, .selects RX4 yX4_begins yX4_begins, .initialized RX4, .code yX4_begins cX4_begins 2 none, .fieldLink RX4 13 "OrderedClausesModel" "begun" "[I", .fieldLink RX4 7 "OrderedClausesModel" "s" "[I", .methodLink RX4 100 yX4_clears, .instanceMethod yX4_clears, .selects RX4 yX4_clears yX4_clears, .code yX4_clears cX4_clears 3 (some .int), .methodLink RX4 91 yX4_acted, .instanceMethod yX4_acted, .selects RX4 yX4_acted yX4_acted, .code yX4_acted cX4_acted 3 (some .int), .constant RX4 22 (-1000001), .fieldLink RX4 26 "OrderedClausesModel" "states" "I", .fieldLink RX4 16 "OrderedClausesModel" "past" "[I", .methodLink RX4 23 yX4_returns, .instanceMethod yX4_returns, .selects RX4 yX4_returns yX4_returns, .code yX4_returns cX4_returns 2 none] ++ wsX40)
def wsX4_lessOnes_r1 : List Cond := [Cond.fieldLink RX4 7 "OrderedClausesModel" "s" "[I", Cond.methodLink RX4 49 yX4_isKept, Cond.instanceMethod yX4_isKept, Cond.selects RX4 yX4_isKept yX4_isKept, Cond.initialized RX4, Cond.code yX4_isKept cX4_isKept 2 (some .boolean), Cond.methodLink RX4 34 yX4_of, Cond.instanceMethod yX4_of, Cond.selects RX4 yX4_of yX4_of, Cond.code yX4_of cX4_of 3 (some .int), Cond.methodLink RX4 103 yX4_isLess, Cond.instanceMethod yX4_isLess, Cond.selects RX4 yX4_isLess yX4_isLess, Cond.code yX4_isLess cX4_isLess 4 (some .boolean), Cond.methodLink RX4 46 yX4_greatest, Cond.instanceMethod yX4_greatest, Cond.selects RX4 yX4_greatest yX4_greatest, Cond.code yX4_greatest cX4_greatest 4 (some .int), Cond.methodLink RX4 38 yX4_has, Cond.static yX4_has, Cond.code yX4_has cX4_has 2 (some .boolean), Cond.methodLink RX4 42 yX4_keyOf, Cond.instanceMethod yX4_keyOf, Cond.selects RX4 yX4_keyOf yX4_keyOf]
def wsX4_lessOnes_r2 : List Cond := [Cond.code yX4_keyOf cX4_keyOf 2 (some .int)]
def wsX4_lessOnes : List Cond := .code yX4_lessOnes cX4_lessOnes 4 (some .int) :: ((wsX4_lessOnes_r1 ++ wsX4_lessOnes_r2) ++ wsX40)
def wsX4_parentOf : List Cond := .code yX4_parentOf cX4_parentOf 3 (some .int) :: ([.constant RX4 106 (-1000004), .methodLink RX4 34 yX4_of, .instanceMethod yX4_of, .selects RX4 yX4_of yX4_of, .initialized RX4, .code yX4_of cX4_of 3 (some .int), .fieldLink RX4 7 "OrderedClausesModel" "s" "[I"] ++ wsX40)
def wsX4_clauseOf_r1 : List Cond := [Cond.constant RX4 22 (-1000001), Cond.constant RX4 106 (-1000004), Cond.methodLink RX4 107 yX4_isClause, Cond.instanceMethod yX4_isClause, Cond.selects RX4 yX4_isClause yX4_isClause, Cond.initialized RX4, Cond.code yX4_isClause cX4_isClause 2 (some .boolean), Cond.fieldLink RX4 7 "OrderedClausesModel" "s" "[I", Cond.methodLink RX4 30 yX4_in, Cond.static yX4_in, Cond.code yX4_in cX4_in 3 (some .boolean), Cond.methodLink RX4 34 yX4_of, Cond.instanceMethod yX4_of, Cond.selects RX4 yX4_of yX4_of, Cond.code yX4_of cX4_of 3 (some .int), Cond.methodLink RX4 46 yX4_greatest, Cond.instanceMethod yX4_greatest, Cond.selects RX4 yX4_greatest yX4_greatest, Cond.code yX4_greatest cX4_greatest 4 (some .int), Cond.methodLink RX4 38 yX4_has, Cond.static yX4_has, Cond.code yX4_has cX4_has 2 (some .boolean), Cond.methodLink RX4 42 yX4_keyOf, Cond.instanceMethod yX4_keyOf]
def wsX4_clauseOf_r2 : List Cond := [Cond.selects RX4 yX4_keyOf yX4_keyOf, Cond.code yX4_keyOf cX4_keyOf 2 (some .int), Cond.methodLink RX4 110 yX4_parentOf, Cond.instanceMethod yX4_parentOf, Cond.selects RX4 yX4_parentOf yX4_parentOf, Cond.code yX4_parentOf cX4_parentOf 3 (some .int), Cond.methodLink RX4 64 yX4_ones, Cond.static yX4_ones, Cond.code yX4_ones cX4_ones 3 (some .int), Cond.methodLink RX4 113 yX4_lessOnes, Cond.instanceMethod yX4_lessOnes, Cond.selects RX4 yX4_lessOnes yX4_lessOnes, Cond.code yX4_lessOnes cX4_lessOnes 4 (some .int), Cond.methodLink RX4 49 yX4_isKept, Cond.instanceMethod yX4_isKept, Cond.selects RX4 yX4_isKept yX4_isKept, Cond.code yX4_isKept cX4_isKept 2 (some .boolean), Cond.methodLink RX4 103 yX4_isLess, Cond.instanceMethod yX4_isLess, Cond.selects RX4 yX4_isLess yX4_isLess, Cond.code yX4_isLess cX4_isLess 4 (some .boolean)]
def wsX4_clauseOf : List Cond := .code yX4_clauseOf cX4_clauseOf 3 (some .int) :: ((wsX4_clauseOf_r1 ++ wsX4_clauseOf_r2) ++ wsX40)
def wsX4_isIn : List Cond := .code yX4_isIn cX4_isIn 3 (some .boolean) :: ([])
def wsX4_treeOf : List Cond := .code yX4_treeOf cX4_treeOf 5 (some .long) :: ([.methodLink RX4 116 yX4_isIn, .static yX4_isIn, .initialized RX4, .code yX4_isIn cX4_isIn 3 (some .boolean), .methodLink RX4 34 yX4_of, .instanceMethod yX4_of, .selects RX4 yX4_of yX4_of, .code yX4_of cX4_of 3 (some .int), .fieldLink RX4 7 "OrderedClausesModel" "s" "[I"] ++ wsX40)
def wsX4_tree : List Cond := .code yX4_tree cX4_tree 2 (some .long) :: ([.constantLong RX4 124 (-1000001), .methodLink RX4 107 yX4_isClause, .instanceMethod yX4_isClause, .selects RX4 yX4_isClause yX4_isClause, .initialized RX4, .code yX4_isClause cX4_isClause 2 (some .boolean), .fieldLink RX4 7 "OrderedClausesModel" "s" "[I", .methodLink RX4 30 yX4_in, .static yX4_in, .code yX4_in cX4_in 3 (some .boolean), .methodLink RX4 120 yX4_treeOf, .instanceMethod yX4_treeOf, .selects RX4 yX4_treeOf yX4_treeOf, .code yX4_treeOf cX4_treeOf 5 (some .long), .methodLink RX4 116 yX4_isIn, .static yX4_isIn, .code yX4_isIn cX4_isIn 3 (some .boolean), .methodLink RX4 34 yX4_of, .instanceMethod yX4_of, .selects RX4 yX4_of yX4_of, .code yX4_of cX4_of 3 (some .int)] ++ wsX40)
def wsX4_widest : List Cond := .code yX4_widest cX4_widest 7 (some .int) :: ([.constant RX4 22 (-1000001), .methodLink RX4 107 yX4_isClause, .instanceMethod yX4_isClause, .selects RX4 yX4_isClause yX4_isClause, .initialized RX4, .code yX4_isClause cX4_isClause 2 (some .boolean), .fieldLink RX4 7 "OrderedClausesModel" "s" "[I", .methodLink RX4 30 yX4_in, .static yX4_in, .code yX4_in cX4_in 3 (some .boolean), .methodLink RX4 120 yX4_treeOf, .instanceMethod yX4_treeOf, .selects RX4 yX4_treeOf yX4_treeOf, .code yX4_treeOf cX4_treeOf 5 (some .long), .methodLink RX4 116 yX4_isIn, .static yX4_isIn, .code yX4_isIn cX4_isIn 3 (some .boolean), .methodLink RX4 34 yX4_of, .instanceMethod yX4_of, .selects RX4 yX4_of yX4_of, .code yX4_of cX4_of 3 (some .int), .methodLink RX4 64 yX4_ones, .static yX4_ones, .code yX4_ones cX4_ones 3 (some .int)] ++ wsX40)
def wsX4_refutation : List Cond := .code yX4_refutation cX4_refutation 2 (some .int) :: ([.constant RX4 106 (-1000004), .methodLink RX4 67 yX4_empties, .instanceMethod yX4_empties, .selects RX4 yX4_empties yX4_empties, .initialized RX4, .code yX4_empties cX4_empties 3 (some .int), .fieldLink RX4 7 "OrderedClausesModel" "s" "[I", .methodLink RX4 34 yX4_of, .instanceMethod yX4_of, .selects RX4 yX4_of yX4_of, .code yX4_of cX4_of 3 (some .int)] ++ wsX40)
def wsX4_isFulfilled : List Cond := .code yX4_isFulfilled cX4_isFulfilled 4 (some .boolean) :: ([.methodLink RX4 38 yX4_has, .static yX4_has, .initialized RX4, .code yX4_has cX4_has 2 (some .boolean)])
def wsX4_fulfils : List Cond := .code yX4_fulfils cX4_fulfils 6 (some .boolean) :: ([.fieldLink RX4 7 "OrderedClausesModel" "s" "[I", .methodLink RX4 116 yX4_isIn, .static yX4_isIn, .initialized RX4, .code yX4_isIn cX4_isIn 3 (some .boolean), .methodLink RX4 34 yX4_of, .instanceMethod yX4_of, .selects RX4 yX4_of yX4_of, .code yX4_of cX4_of 3 (some .int), .methodLink RX4 126 yX4_isFulfilled, .static yX4_isFulfilled, .code yX4_isFulfilled cX4_isFulfilled 4 (some .boolean), .methodLink RX4 38 yX4_has, .static yX4_has, .code yX4_has cX4_has 2 (some .boolean)] ++ wsX40)
def wsX4_toldOnes : List Cond := .code yX4_toldOnes cX4_toldOnes 4 (some .long) :: ([.fieldLink RX4 7 "OrderedClausesModel" "s" "[I", .methodLink RX4 34 yX4_of, .instanceMethod yX4_of, .selects RX4 yX4_of yX4_of, .initialized RX4, .code yX4_of cX4_of 3 (some .int)] ++ wsX40)
def wsX4_modelsOf : List Cond := .code yX4_modelsOf cX4_modelsOf 5 (some .int) :: ([.methodLink RX4 129 yX4_fulfils, .instanceMethod yX4_fulfils, .selects RX4 yX4_fulfils yX4_fulfils, .initialized RX4, .code yX4_fulfils cX4_fulfils 6 (some .boolean), .fieldLink RX4 7 "OrderedClausesModel" "s" "[I", .methodLink RX4 116 yX4_isIn, .static yX4_isIn, .code yX4_isIn cX4_isIn 3 (some .boolean), .methodLink RX4 34 yX4_of, .instanceMethod yX4_of, .selects RX4 yX4_of yX4_of, .code yX4_of cX4_of 3 (some .int), .methodLink RX4 126 yX4_isFulfilled, .static yX4_isFulfilled, .code yX4_isFulfilled cX4_isFulfilled 4 (some .boolean), .methodLink RX4 38 yX4_has, .static yX4_has, .code yX4_has cX4_has 2 (some .boolean)] ++ wsX40)
def wsX4_models_r1 : List Cond := [Cond.methodLink RX4 133 yX4_toldOnes, Cond.instanceMethod yX4_toldOnes, Cond.selects RX4 yX4_toldOnes yX4_toldOnes, Cond.initialized RX4, Cond.code yX4_toldOnes cX4_toldOnes 4 (some .long), Cond.fieldLink RX4 7 "OrderedClausesModel" "s" "[I", Cond.methodLink RX4 34 yX4_of, Cond.instanceMethod yX4_of, Cond.selects RX4 yX4_of yX4_of, Cond.code yX4_of cX4_of 3 (some .int), Cond.methodLink RX4 137 yX4_modelsOf, Cond.instanceMethod yX4_modelsOf, Cond.selects RX4 yX4_modelsOf yX4_modelsOf, Cond.code yX4_modelsOf cX4_modelsOf 5 (some .int), Cond.methodLink RX4 129 yX4_fulfils, Cond.instanceMethod yX4_fulfils, Cond.selects RX4 yX4_fulfils yX4_fulfils, Cond.code yX4_fulfils cX4_fulfils 6 (some .boolean), Cond.methodLink RX4 116 yX4_isIn, Cond.static yX4_isIn, Cond.code yX4_isIn cX4_isIn 3 (some .boolean), Cond.methodLink RX4 126 yX4_isFulfilled, Cond.static yX4_isFulfilled, Cond.code yX4_isFulfilled cX4_isFulfilled 4 (some .boolean)]
def wsX4_models_r2 : List Cond := [Cond.methodLink RX4 38 yX4_has, Cond.static yX4_has, Cond.code yX4_has cX4_has 2 (some .boolean)]
def wsX4_models : List Cond := .code yX4_models cX4_models 1 (some .int) :: ((wsX4_models_r1 ++ wsX4_models_r2) ++ wsX40)
def wsX4_model_r1 : List Cond := [Cond.constant RX4 22 (-1000001), Cond.constant RX4 106 (-1000004), Cond.methodLink RX4 133 yX4_toldOnes, Cond.instanceMethod yX4_toldOnes, Cond.selects RX4 yX4_toldOnes yX4_toldOnes, Cond.initialized RX4, Cond.code yX4_toldOnes cX4_toldOnes 4 (some .long), Cond.fieldLink RX4 7 "OrderedClausesModel" "s" "[I", Cond.methodLink RX4 34 yX4_of, Cond.instanceMethod yX4_of, Cond.selects RX4 yX4_of yX4_of, Cond.code yX4_of cX4_of 3 (some .int), Cond.methodLink RX4 129 yX4_fulfils, Cond.instanceMethod yX4_fulfils, Cond.selects RX4 yX4_fulfils yX4_fulfils, Cond.code yX4_fulfils cX4_fulfils 6 (some .boolean), Cond.methodLink RX4 116 yX4_isIn, Cond.static yX4_isIn, Cond.code yX4_isIn cX4_isIn 3 (some .boolean), Cond.methodLink RX4 126 yX4_isFulfilled, Cond.static yX4_isFulfilled, Cond.code yX4_isFulfilled cX4_isFulfilled 4 (some .boolean), Cond.methodLink RX4 38 yX4_has, Cond.static yX4_has]
def wsX4_model_r2 : List Cond := [Cond.code yX4_has cX4_has 2 (some .boolean)]
def wsX4_model : List Cond := .code yX4_model cX4_model 7 (some .int) :: ((wsX4_model_r1 ++ wsX4_model_r2) ++ wsX40)
def wsX4_broken : List Cond := .code yX4_broken cX4_broken 5 (some .long) :: ([.constantLong RX4 124 (-1000001), .fieldLink RX4 7 "OrderedClausesModel" "s" "[I", .methodLink RX4 30 yX4_in, .static yX4_in, .initialized RX4, .code yX4_in cX4_in 3 (some .boolean), .methodLink RX4 49 yX4_isKept, .instanceMethod yX4_isKept, .selects RX4 yX4_isKept yX4_isKept, .code yX4_isKept cX4_isKept 2 (some .boolean), .methodLink RX4 34 yX4_of, .instanceMethod yX4_of, .selects RX4 yX4_of yX4_of, .code yX4_of cX4_of 3 (some .int), .methodLink RX4 126 yX4_isFulfilled, .static yX4_isFulfilled, .code yX4_isFulfilled cX4_isFulfilled 4 (some .boolean), .methodLink RX4 38 yX4_has, .static yX4_has, .code yX4_has cX4_has 2 (some .boolean)] ++ wsX40)
def wsX4_core_r1 : List Cond := [Cond.constantLong RX4 141 (-1000004), Cond.fieldLink RX4 7 "OrderedClausesModel" "s" "[I", Cond.constantLong RX4 143 (-1), Cond.methodLink RX4 133 yX4_toldOnes, Cond.instanceMethod yX4_toldOnes, Cond.selects RX4 yX4_toldOnes yX4_toldOnes, Cond.initialized RX4, Cond.code yX4_toldOnes cX4_toldOnes 4 (some .long), Cond.methodLink RX4 34 yX4_of, Cond.instanceMethod yX4_of, Cond.selects RX4 yX4_of yX4_of, Cond.code yX4_of cX4_of 3 (some .int), Cond.methodLink RX4 137 yX4_modelsOf, Cond.instanceMethod yX4_modelsOf, Cond.selects RX4 yX4_modelsOf yX4_modelsOf, Cond.code yX4_modelsOf cX4_modelsOf 5 (some .int), Cond.methodLink RX4 129 yX4_fulfils, Cond.instanceMethod yX4_fulfils, Cond.selects RX4 yX4_fulfils yX4_fulfils, Cond.code yX4_fulfils cX4_fulfils 6 (some .boolean), Cond.methodLink RX4 116 yX4_isIn, Cond.static yX4_isIn, Cond.code yX4_isIn cX4_isIn 3 (some .boolean), Cond.methodLink RX4 126 yX4_isFulfilled]
def wsX4_core_r2 : List Cond := [Cond.static yX4_isFulfilled, Cond.code yX4_isFulfilled cX4_isFulfilled 4 (some .boolean), Cond.methodLink RX4 38 yX4_has, Cond.static yX4_has, Cond.code yX4_has cX4_has 2 (some .boolean)]
def wsX4_core : List Cond := .code yX4_core cX4_core 6 (some .long) :: ((wsX4_core_r1 ++ wsX4_core_r2) ++ wsX40)
def wsX4_follows_r1 : List Cond := [Cond.constant RX4 22 (-1000001), Cond.methodLink RX4 30 yX4_in, Cond.static yX4_in, Cond.initialized RX4, Cond.code yX4_in cX4_in 3 (some .boolean), Cond.methodLink RX4 133 yX4_toldOnes, Cond.instanceMethod yX4_toldOnes, Cond.selects RX4 yX4_toldOnes yX4_toldOnes, Cond.code yX4_toldOnes cX4_toldOnes 4 (some .long), Cond.fieldLink RX4 7 "OrderedClausesModel" "s" "[I", Cond.methodLink RX4 34 yX4_of, Cond.instanceMethod yX4_of, Cond.selects RX4 yX4_of yX4_of, Cond.code yX4_of cX4_of 3 (some .int), Cond.methodLink RX4 129 yX4_fulfils, Cond.instanceMethod yX4_fulfils, Cond.selects RX4 yX4_fulfils yX4_fulfils, Cond.code yX4_fulfils cX4_fulfils 6 (some .boolean), Cond.methodLink RX4 116 yX4_isIn, Cond.static yX4_isIn, Cond.code yX4_isIn cX4_isIn 3 (some .boolean), Cond.methodLink RX4 126 yX4_isFulfilled, Cond.static yX4_isFulfilled, Cond.code yX4_isFulfilled cX4_isFulfilled 4 (some .boolean)]
def wsX4_follows_r2 : List Cond := [Cond.methodLink RX4 38 yX4_has, Cond.static yX4_has, Cond.code yX4_has cX4_has 2 (some .boolean)]
def wsX4_follows : List Cond := .code yX4_follows cX4_follows 6 (some .int) :: ((wsX4_follows_r1 ++ wsX4_follows_r2) ++ wsX40)
def wsJxf58ca_isNaN_12338 : List Cond := .code yJxf58ca_isNaN_12338 cJxf58ca_isNaN_12338 1 (some .boolean) :: ([])
def wsJxf58ca_floatToIntBits_5c35a : List Cond := .code yJxf58ca_floatToIntBits_5c35a cJxf58ca_floatToIntBits_5c35a 1 (some .int) :: ([.methodLink RJxf58ca 74 ⟨"java/lang/Float", "floatToRawIntBits", "(F)I"⟩, .native ⟨"java/lang/Float", "floatToRawIntBits", "(F)I"⟩, .static ⟨"java/lang/Float", "floatToRawIntBits", "(F)I"⟩, .initialized "java/lang/Float", .constant RJxf58ca 77 (2143289344), .methodLink RJxf58ca 59 yJxf58ca_isNaN_12338, .static yJxf58ca_isNaN_12338, .initialized RJxf58ca, .code yJxf58ca_isNaN_12338 cJxf58ca_isNaN_12338 1 (some .boolean)])
def wsX4_share : List Cond := .code yX4_share cX4_share 4 (some .int) :: ([.constant RX4 22 (-1000001), .constantFloat RX4 145 (1115684864), .methodLink RX4 30 yX4_in, .static yX4_in, .initialized RX4, .code yX4_in cX4_in 3 (some .boolean), .methodLink RX4 126 yX4_isFulfilled, .static yX4_isFulfilled, .code yX4_isFulfilled cX4_isFulfilled 4 (some .boolean), .methodLink RX4 38 yX4_has, .static yX4_has, .code yX4_has cX4_has 2 (some .boolean), .methodLink RX4 146 yJxf58ca_floatToIntBits_5c35a, .static yJxf58ca_floatToIntBits_5c35a, .initialized RJxf58ca, .code yJxf58ca_floatToIntBits_5c35a cJxf58ca_floatToIntBits_5c35a 1 (some .int), .methodLink RJxf58ca 74 ⟨"java/lang/Float", "floatToRawIntBits", "(F)I"⟩, .native ⟨"java/lang/Float", "floatToRawIntBits", "(F)I"⟩, .static ⟨"java/lang/Float", "floatToRawIntBits", "(F)I"⟩, .initialized "java/lang/Float", .constant RJxf58ca 77 (2143289344), .methodLink RJxf58ca 59 yJxf58ca_isNaN_12338, .static yJxf58ca_isNaN_12338, .code yJxf58ca_isNaN_12338 cJxf58ca_isNaN_12338 1 (some .boolean)])
def wsX4_withStatus : List Cond := .code yX4_withStatus cX4_withStatus 4 (some .int) :: ([.fieldLink RX4 7 "OrderedClausesModel" "s" "[I", .methodLink RX4 34 yX4_of, .instanceMethod yX4_of, .selects RX4 yX4_of yX4_of, .initialized RX4, .code yX4_of cX4_of 3 (some .int)] ++ wsX40)
def wsX4_count : List Cond := .code yX4_count cX4_count 2 (some .int) :: ([.fieldLink RX4 7 "OrderedClausesModel" "s" "[I", .fieldLink RX4 26 "OrderedClausesModel" "states" "I", .fieldLink RX4 155 "OrderedClausesModel" "length" "I", .constant RX4 22 (-1000001), .methodLink RX4 152 yX4_withStatus, .instanceMethod yX4_withStatus, .selects RX4 yX4_withStatus yX4_withStatus, .initialized RX4, .code yX4_withStatus cX4_withStatus 4 (some .int), .methodLink RX4 34 yX4_of, .instanceMethod yX4_of, .selects RX4 yX4_of yX4_of, .code yX4_of cX4_of 3 (some .int), .methodLink RX4 30 yX4_in, .static yX4_in, .code yX4_in cX4_in 3 (some .boolean)] ++ wsX40)
def wsX4_undo : List Cond := .code yX4_undo cX4_undo 2 (some .int) :: ([.fieldLink RX4 26 "OrderedClausesModel" "states" "I", .constant RX4 78 (-1000002), .fieldLink RX4 7 "OrderedClausesModel" "s" "[I", .fieldLink RX4 16 "OrderedClausesModel" "past" "[I"] ++ wsX40)
def wsX4_type : List Cond := .code yX4_type cX4_type 2 (some .int) :: ([.constant RX4 22 (-1000001), .fieldLink RX4 155 "OrderedClausesModel" "length" "I", .constant RX4 59 (-1000003), .fieldLink RX4 19 "OrderedClausesModel" "text" "[I", .methodLink RX4 30 yX4_in, .static yX4_in, .initialized RX4, .code yX4_in cX4_in 3 (some .boolean)] ++ wsX40)
def wsX4_clearText : List Cond := .code yX4_clearText cX4_clearText 2 (some .int) :: ([.fieldLink RX4 155 "OrderedClausesModel" "length" "I"] ++ wsX40)
def wsX4_here : List Cond := .code yX4_here cX4_here 1 (some .int) :: ([.fieldLink RX4 158 "OrderedClausesModel" "at" "I", .fieldLink RX4 155 "OrderedClausesModel" "length" "I", .fieldLink RX4 19 "OrderedClausesModel" "text" "[I"] ++ wsX40)
def wsX4_reads : List Cond := .code yX4_reads cX4_reads 2 (some .boolean) :: ([.fieldLink RX4 161 "OrderedClausesModel" "read" "I", .fieldLink RX4 158 "OrderedClausesModel" "at" "I", .methodLink RX4 164 yX4_here, .instanceMethod yX4_here, .selects RX4 yX4_here yX4_here, .initialized RX4, .code yX4_here cX4_here 1 (some .int), .fieldLink RX4 155 "OrderedClausesModel" "length" "I", .fieldLink RX4 19 "OrderedClausesModel" "text" "[I", .methodLink RX4 30 yX4_in, .static yX4_in, .code yX4_in cX4_in 3 (some .boolean)] ++ wsX40)
def wsX4_brokenAt : List Cond := .code yX4_brokenAt cX4_brokenAt 2 (some .int) :: ([.fieldLink RX4 158 "OrderedClausesModel" "at" "I", .fieldLink RX4 155 "OrderedClausesModel" "length" "I", .methodLink RX4 167 yX4_reads, .instanceMethod yX4_reads, .selects RX4 yX4_reads yX4_reads, .initialized RX4, .code yX4_reads cX4_reads 2 (some .boolean), .fieldLink RX4 161 "OrderedClausesModel" "read" "I", .methodLink RX4 164 yX4_here, .instanceMethod yX4_here, .selects RX4 yX4_here yX4_here, .code yX4_here cX4_here 1 (some .int), .fieldLink RX4 19 "OrderedClausesModel" "text" "[I", .methodLink RX4 30 yX4_in, .static yX4_in, .code yX4_in cX4_in 3 (some .boolean)] ++ wsX40)
def wsX4_fault : List Cond := .code yX4_fault cX4_fault 3 (some .int) :: ([.constant RX4 22 (-1000001), .constant RX4 106 (-1000004), .fieldLink RX4 158 "OrderedClausesModel" "at" "I", .methodLink RX4 30 yX4_in, .static yX4_in, .initialized RX4, .code yX4_in cX4_in 3 (some .boolean), .methodLink RX4 171 yX4_brokenAt, .instanceMethod yX4_brokenAt, .selects RX4 yX4_brokenAt yX4_brokenAt, .code yX4_brokenAt cX4_brokenAt 2 (some .int), .fieldLink RX4 155 "OrderedClausesModel" "length" "I", .methodLink RX4 167 yX4_reads, .instanceMethod yX4_reads, .selects RX4 yX4_reads yX4_reads, .code yX4_reads cX4_reads 2 (some .boolean), .fieldLink RX4 161 "OrderedClausesModel" "read" "I", .methodLink RX4 164 yX4_here, .instanceMethod yX4_here, .selects RX4 yX4_here yX4_here, .code yX4_here cX4_here 1 (some .int), .fieldLink RX4 19 "OrderedClausesModel" "text" "[I"] ++ wsX40)
def wsX4_plays_r1 : List Cond := [Cond.fieldLink RX4 158 "OrderedClausesModel" "at" "I", Cond.fieldLink RX4 155 "OrderedClausesModel" "length" "I", Cond.fieldLink RX4 161 "OrderedClausesModel" "read" "I", Cond.constant RX4 59 (-1000003), Cond.methodLink RX4 167 yX4_reads, Cond.instanceMethod yX4_reads, Cond.selects RX4 yX4_reads yX4_reads, Cond.initialized RX4, Cond.code yX4_reads cX4_reads 2 (some .boolean), Cond.methodLink RX4 164 yX4_here, Cond.instanceMethod yX4_here, Cond.selects RX4 yX4_here yX4_here, Cond.code yX4_here cX4_here 1 (some .int), Cond.fieldLink RX4 19 "OrderedClausesModel" "text" "[I", Cond.methodLink RX4 30 yX4_in, Cond.static yX4_in, Cond.code yX4_in cX4_in 3 (some .boolean), Cond.methodLink RX4 71 yX4_comes, Cond.instanceMethod yX4_comes, Cond.selects RX4 yX4_comes yX4_comes, Cond.code yX4_comes cX4_comes 8 (some .int), Cond.fieldLink RX4 7 "OrderedClausesModel" "s" "[I", Cond.methodLink RX4 53 yX4_holdsAlways, Cond.static yX4_holdsAlways]
def wsX4_plays_r2 : List Cond := [Cond.code yX4_holdsAlways cX4_holdsAlways 3 (some .boolean), Cond.methodLink RX4 56 yX4_hasWithin, Cond.instanceMethod yX4_hasWithin, Cond.selects RX4 yX4_hasWithin yX4_hasWithin, Cond.code yX4_hasWithin cX4_hasWithin 4 (some .boolean), Cond.methodLink RX4 49 yX4_isKept, Cond.instanceMethod yX4_isKept, Cond.selects RX4 yX4_isKept yX4_isKept, Cond.code yX4_isKept cX4_isKept 2 (some .boolean), Cond.methodLink RX4 34 yX4_of, Cond.instanceMethod yX4_of, Cond.selects RX4 yX4_of yX4_of, Cond.code yX4_of cX4_of 3 (some .int), Cond.methodLink RX4 60 yX4_puts, Cond.instanceMethod yX4_puts, Cond.selects RX4 yX4_puts yX4_puts, Cond.code yX4_puts cX4_puts 4 none]
def wsX4_plays : List Cond := .code yX4_plays cX4_plays 3 (some .int) :: ((wsX4_plays_r1 ++ wsX4_plays_r2) ++ wsX40)
def wsX4_play_r1 : List Cond := [Cond.constant RX4 78 (-1000002), Cond.methodLink RX4 171 yX4_brokenAt, Cond.instanceMethod yX4_brokenAt, Cond.selects RX4 yX4_brokenAt yX4_brokenAt, Cond.initialized RX4, Cond.code yX4_brokenAt cX4_brokenAt 2 (some .int), Cond.fieldLink RX4 158 "OrderedClausesModel" "at" "I", Cond.fieldLink RX4 155 "OrderedClausesModel" "length" "I", Cond.methodLink RX4 167 yX4_reads, Cond.instanceMethod yX4_reads, Cond.selects RX4 yX4_reads yX4_reads, Cond.code yX4_reads cX4_reads 2 (some .boolean), Cond.fieldLink RX4 161 "OrderedClausesModel" "read" "I", Cond.methodLink RX4 164 yX4_here, Cond.instanceMethod yX4_here, Cond.selects RX4 yX4_here yX4_here, Cond.code yX4_here cX4_here 1 (some .int), Cond.fieldLink RX4 19 "OrderedClausesModel" "text" "[I", Cond.methodLink RX4 30 yX4_in, Cond.static yX4_in, Cond.code yX4_in cX4_in 3 (some .boolean), Cond.methodLink RX4 88 yX4_begins, Cond.instanceMethod yX4_begins, Cond.selects RX4 yX4_begins yX4_begins]
def wsX4_play_r2 : List Cond := [Cond.code yX4_begins cX4_begins 2 none, Cond.fieldLink RX4 13 "OrderedClausesModel" "begun" "[I", Cond.fieldLink RX4 7 "OrderedClausesModel" "s" "[I", Cond.methodLink RX4 174 yX4_plays, Cond.instanceMethod yX4_plays, Cond.selects RX4 yX4_plays yX4_plays, Cond.code yX4_plays cX4_plays 3 (some .int), Cond.constant RX4 59 (-1000003), Cond.methodLink RX4 71 yX4_comes, Cond.instanceMethod yX4_comes, Cond.selects RX4 yX4_comes yX4_comes, Cond.code yX4_comes cX4_comes 8 (some .int), Cond.methodLink RX4 53 yX4_holdsAlways, Cond.static yX4_holdsAlways, Cond.code yX4_holdsAlways cX4_holdsAlways 3 (some .boolean), Cond.methodLink RX4 56 yX4_hasWithin, Cond.instanceMethod yX4_hasWithin, Cond.selects RX4 yX4_hasWithin yX4_hasWithin, Cond.code yX4_hasWithin cX4_hasWithin 4 (some .boolean), Cond.methodLink RX4 49 yX4_isKept, Cond.instanceMethod yX4_isKept, Cond.selects RX4 yX4_isKept yX4_isKept, Cond.code yX4_isKept cX4_isKept 2 (some .boolean), Cond.methodLink RX4 34 yX4_of]
def wsX4_play_r3 : List Cond := [Cond.instanceMethod yX4_of, Cond.selects RX4 yX4_of yX4_of, Cond.code yX4_of cX4_of 3 (some .int), Cond.methodLink RX4 60 yX4_puts, Cond.instanceMethod yX4_puts, Cond.selects RX4 yX4_puts yX4_puts, Cond.code yX4_puts cX4_puts 4 none, Cond.methodLink RX4 91 yX4_acted, Cond.instanceMethod yX4_acted, Cond.selects RX4 yX4_acted yX4_acted, Cond.code yX4_acted cX4_acted 3 (some .int), Cond.constant RX4 22 (-1000001), Cond.fieldLink RX4 26 "OrderedClausesModel" "states" "I", Cond.fieldLink RX4 16 "OrderedClausesModel" "past" "[I", Cond.methodLink RX4 23 yX4_returns, Cond.instanceMethod yX4_returns, Cond.selects RX4 yX4_returns yX4_returns, Cond.code yX4_returns cX4_returns 2 none]
def wsX4_play : List Cond := .code yX4_play cX4_play 1 (some .int) :: ((wsX4_play_r1 ++ (wsX4_play_r2 ++ wsX4_play_r3)) ++ wsX40)
def wsJ9_max_7cf53 : List Cond := .code yJ9_max_7cf53 cJ9_max_7cf53 2 (some .int) :: ([])
def wsJ9_min_7cf53 : List Cond := .code yJ9_min_7cf53 cJ9_min_7cf53 2 (some .int) :: ([])
def wsL_law_r1 : List Cond := [Cond.classLink RL 7 RX3, Cond.instantiable RX3 3, Cond.initialized RX3, Cond.classLink RL 10 RX4, Cond.instantiable RX4 8, Cond.initialized RX4, Cond.methodLink RL 9 yX3_init, Cond.instanceMethod yX3_init, Cond.code yX3_init cX3_init 1 none, Cond.methodLink RX3 1 objectInit, Cond.instanceMethod objectInit, Cond.code objectInit ⟨#[0xb1]⟩ 1 none, Cond.classLink RX3 7 RX1, Cond.instantiable RX1 13, Cond.initialized RX1, Cond.fieldLink RX3 10 "OrderedClauses" "store" "LOrderedClauses$Store;", Cond.classLink RX3 16 RX0, Cond.instantiable RX0 2, Cond.initialized RX0, Cond.fieldLink RX3 19 "OrderedClauses" "history" "LOrderedClauses$History;", Cond.classLink RX3 23 RX2, Cond.instantiable RX2 2, Cond.initialized RX2, Cond.fieldLink RX3 26 "OrderedClauses" "text" "LOrderedClauses$Text;"]
def wsL_law_r2 : List Cond := [Cond.instanceMethod yX1_init, Cond.code yX1_init cX1_init 2 none, Cond.methodLink RX1 3 objectInit, Cond.arrayClass .int, Cond.fieldLink RX1 9 "OrderedClauses$Store" "atomOfRank" "[I", Cond.fieldLink RX1 15 "OrderedClauses$Store" "literals" "[I", Cond.fieldLink RX1 18 "OrderedClauses$Store" "status" "[I", Cond.fieldLink RX1 21 "OrderedClauses$Store" "holdingParent" "[I", Cond.fieldLink RX1 24 "OrderedClauses$Store" "otherParent" "[I", Cond.fieldLink RX1 27 "OrderedClauses$Store" "atomMadeBy" "[I", Cond.fieldLink RX1 30 "OrderedClauses$Store" "depth" "[I", Cond.arrayClass .long, Cond.fieldLink RX1 33 "OrderedClauses$Store" "fulfilledBy" "[J", Cond.fieldLink RX1 37 "OrderedClauses$Store" "clauses" "I", Cond.fieldLink RX1 41 "OrderedClauses$Store" "steps" "I", Cond.fieldLink RX1 44 "OrderedClauses$Store" "setting" "I", Cond.fieldLink RX1 47 "OrderedClauses$Store" "heldAlways" "I", Cond.fieldLink RX1 50 "OrderedClauses$Store" "hadAnotherWithin" "I", Cond.static yX3_put, Cond.code yX3_put cX3_put 3 none, Cond.instanceMethod yX0_init, Cond.code yX0_init cX0_init 2 none, Cond.methodLink RX0 3 objectInit, Cond.classLink RX0 9 RX1]
def wsL_law_r3 : List Cond := [Cond.fieldLink RX0 11 "OrderedClauses$History" "states" "[LOrderedClauses$Store;", Cond.fieldLink RX0 17 "OrderedClauses$History" "kept" "I", Cond.instanceMethod yX2_init, Cond.code yX2_init cX2_init 1 none, Cond.methodLink RX2 3 objectInit, Cond.fieldLink RX2 9 "OrderedClauses$Text" "characters" "[I", Cond.fieldLink RX2 15 "OrderedClauses$Text" "length" "I", Cond.methodLink RL 12 yX4_init, Cond.instanceMethod yX4_init, Cond.code yX4_init cX4_init 2 none, Cond.methodLink RX4 1 objectInit, Cond.fieldLink RX4 7 "OrderedClausesModel" "s" "[I", Cond.fieldLink RX4 13 "OrderedClausesModel" "begun" "[I", Cond.fieldLink RX4 16 "OrderedClausesModel" "past" "[I", Cond.fieldLink RX4 19 "OrderedClausesModel" "text" "[I", Cond.methodLink RL 13 yX3_tell, Cond.instanceMethod yX3_tell, Cond.selects RX3 yX3_tell yX3_tell, Cond.code yX3_tell cX3_tell 2 (some .int), Cond.constant RX3 30 (-1000001), Cond.instanceMethod yX0_putAside, Cond.selects RX0 yX0_putAside yX0_putAside, Cond.code yX0_putAside cX0_putAside 3 none, Cond.methodLink RX0 22 yX0_stateAt]
def wsL_law_r4 : List Cond := [Cond.instanceMethod yX0_stateAt, Cond.selects RX0 yX0_stateAt yX0_stateAt, Cond.code yX0_stateAt cX0_stateAt 2 (some (.object "OrderedClauses$Store")), Cond.instanceMethod yX1_copyFrom, Cond.selects RX1 yX1_copyFrom yX1_copyFrom, Cond.code yX1_copyFrom cX1_copyFrom 2 none, Cond.static yX3_copyRow, Cond.code yX3_copyRow cX3_copyRow 2 none, Cond.methodLink RX3 193 Lib.Math.min.name, Cond.static Lib.Math.min.name, Cond.initialized "java/lang/Math", Cond.code Lib.Math.min.name Lib.Math.min.code 2 (some .int), Cond.methodLink RX3 198 arraycopyName, Cond.native arraycopyName, Cond.static arraycopyName, Cond.initialized "java/lang/System", Cond.static yX3_copyLongRow, Cond.code yX3_copyLongRow cX3_copyLongRow 2 none, Cond.instanceMethod yX1_bring, Cond.selects RX1 yX1_bring yX1_bring, Cond.code yX1_bring cX1_bring 5 (some .int), Cond.constant RX1 94 (-1000003), Cond.static yX3_holdsAlways, Cond.code yX3_holdsAlways cX3_holdsAlways 1 (some .boolean)]
def wsL_law_r5 : List Cond := [Cond.methodLink RX1 91 yX1_hasAnotherWithin, Cond.instanceMethod yX1_hasAnotherWithin, Cond.selects RX1 yX1_hasAnotherWithin yX1_hasAnotherWithin, Cond.code yX1_hasAnotherWithin cX1_hasAnotherWithin 3 (some .boolean), Cond.methodLink RX1 80 yX1_isDropped, Cond.instanceMethod yX1_isDropped, Cond.selects RX1 yX1_isDropped yX1_isDropped, Cond.code yX1_isDropped cX1_isDropped 2 (some .boolean), Cond.static yX3_at, Cond.code yX3_at cX3_at 2 (some .int), Cond.static yX3_isWithin, Cond.code yX3_isWithin cX3_isWithin 2 (some .boolean), Cond.methodLink RX1 95 yX1_dropAllAround, Cond.instanceMethod yX1_dropAllAround, Cond.selects RX1 yX1_dropAllAround yX1_dropAllAround, Cond.code yX1_dropAllAround cX1_dropAllAround 3 none, Cond.methodLink RX1 99 yX1_takeIn, Cond.instanceMethod yX1_takeIn, Cond.selects RX1 yX1_takeIn yX1_takeIn, Cond.code yX1_takeIn cX1_takeIn 7 (some .int), Cond.methodLink RX1 106 Lib.Math.max.name, Cond.static Lib.Math.max.name, Cond.code Lib.Math.max.name Lib.Math.max.code 2 (some .int), Cond.static yX3_valuesOfClause]
def wsL_law_r6 : List Cond := [Cond.code yX3_valuesOfClause cX3_valuesOfClause 7 (some .long), Cond.fieldLink RX3 204 "OrderedClauses" "VALUES_WITH_ATOM" "[J", Cond.constantLong RX3 145 (-1), Cond.methodLink RX3 208 yX3_longAt, Cond.static yX3_longAt, Cond.code yX3_longAt cX3_longAt 2 (some .long), Cond.static yX3_putLong, Cond.code yX3_putLong cX3_putLong 4 none, Cond.methodLink RX3 39 yX3_settle, Cond.instanceMethod yX3_settle, Cond.selects RX3 yX3_settle yX3_settle, Cond.code yX3_settle cX3_settle 2 (some .int), Cond.instanceMethod yX0_takeBack, Cond.selects RX0 yX0_takeBack yX0_takeBack, Cond.code yX0_takeBack cX0_takeBack 2 none, Cond.instanceMethod yX0_keep, Cond.selects RX0 yX0_keep yX0_keep, Cond.code yX0_keep cX0_keep 1 none, Cond.methodLink RX0 30 yX0_dropOldest, Cond.instanceMethod yX0_dropOldest, Cond.selects RX0 yX0_dropOldest yX0_dropOldest, Cond.code yX0_dropOldest cX0_dropOldest 4 none, Cond.methodLink RL 17 yX4_tell, Cond.instanceMethod yX4_tell]
def wsL_law_r7 : List Cond := [Cond.selects RX4 yX4_tell yX4_tell, Cond.code yX4_tell cX4_tell 2 (some .int), Cond.constant RX4 22 (-1000001), Cond.methodLink RX4 88 yX4_begins, Cond.instanceMethod yX4_begins, Cond.selects RX4 yX4_begins yX4_begins, Cond.code yX4_begins cX4_begins 2 none, Cond.methodLink RX4 30 yX4_in, Cond.static yX4_in, Cond.code yX4_in cX4_in 3 (some .boolean), Cond.methodLink RX4 71 yX4_comes, Cond.instanceMethod yX4_comes, Cond.selects RX4 yX4_comes yX4_comes, Cond.code yX4_comes cX4_comes 8 (some .int), Cond.constant RX4 59 (-1000003), Cond.methodLink RX4 53 yX4_holdsAlways, Cond.static yX4_holdsAlways, Cond.code yX4_holdsAlways cX4_holdsAlways 3 (some .boolean), Cond.methodLink RX4 56 yX4_hasWithin, Cond.instanceMethod yX4_hasWithin, Cond.selects RX4 yX4_hasWithin yX4_hasWithin, Cond.code yX4_hasWithin cX4_hasWithin 4 (some .boolean), Cond.methodLink RX4 49 yX4_isKept, Cond.instanceMethod yX4_isKept]
def wsL_law_r8 : List Cond := [Cond.selects RX4 yX4_isKept yX4_isKept, Cond.code yX4_isKept cX4_isKept 2 (some .boolean), Cond.methodLink RX4 34 yX4_of, Cond.instanceMethod yX4_of, Cond.selects RX4 yX4_of yX4_of, Cond.code yX4_of cX4_of 3 (some .int), Cond.methodLink RX4 60 yX4_puts, Cond.instanceMethod yX4_puts, Cond.selects RX4 yX4_puts yX4_puts, Cond.code yX4_puts cX4_puts 4 none, Cond.methodLink RX4 91 yX4_acted, Cond.instanceMethod yX4_acted, Cond.selects RX4 yX4_acted yX4_acted, Cond.code yX4_acted cX4_acted 3 (some .int), Cond.fieldLink RX4 26 "OrderedClausesModel" "states" "I", Cond.methodLink RX4 23 yX4_returns, Cond.instanceMethod yX4_returns, Cond.selects RX4 yX4_returns yX4_returns, Cond.code yX4_returns cX4_returns 2 none, Cond.methodLink RL 18 yX3_rank, Cond.instanceMethod yX3_rank, Cond.selects RX3 yX3_rank yX3_rank, Cond.code yX3_rank cX3_rank 3 (some .int), Cond.instanceMethod yX1_changeRank]
def wsL_law_r9 : List Cond := [Cond.selects RX1 yX1_changeRank yX1_changeRank, Cond.code yX1_changeRank cX1_changeRank 5 (some .int), Cond.methodLink RX1 69 yX1_rankOf, Cond.instanceMethod yX1_rankOf, Cond.selects RX1 yX1_rankOf yX1_rankOf, Cond.code yX1_rankOf cX1_rankOf 3 (some .int), Cond.methodLink RL 22 yX4_rank, Cond.instanceMethod yX4_rank, Cond.selects RX4 yX4_rank yX4_rank, Cond.code yX4_rank cX4_rank 3 (some .int), Cond.methodLink RX4 94 yX4_ranks, Cond.instanceMethod yX4_ranks, Cond.selects RX4 yX4_ranks yX4_ranks, Cond.code yX4_ranks cX4_ranks 5 (some .int), Cond.methodLink RL 23 yX3_set, Cond.instanceMethod yX3_set, Cond.selects RX3 yX3_set yX3_set, Cond.code yX3_set cX3_set 3 (some .int), Cond.methodLink RL 26 yX4_set, Cond.instanceMethod yX4_set, Cond.selects RX4 yX4_set yX4_set, Cond.code yX4_set cX4_set 3 (some .int), Cond.methodLink RL 27 yX3_step, Cond.instanceMethod yX3_step]
def wsL_law_r10 : List Cond := [Cond.selects RX3 yX3_step yX3_step, Cond.code yX3_step cX3_step 1 (some .int), Cond.instanceMethod yX1_takeStep, Cond.selects RX1 yX1_takeStep yX1_takeStep, Cond.code yX1_takeStep cX1_takeStep 2 (some .int), Cond.constant RX1 127 (-1000002), Cond.methodLink RX1 120 yX1_emptyClause, Cond.instanceMethod yX1_emptyClause, Cond.selects RX1 yX1_emptyClause yX1_emptyClause, Cond.code yX1_emptyClause cX1_emptyClause 2 (some .int), Cond.methodLink RX1 124 yX1_nextChoice, Cond.instanceMethod yX1_nextChoice, Cond.selects RX1 yX1_nextChoice yX1_nextChoice, Cond.code yX1_nextChoice cX1_nextChoice 6 (some .int), Cond.methodLink RX1 131 yJ6_bitCount_0f7a4, Cond.static yJ6_bitCount_0f7a4, Cond.initialized RJ6, Cond.code yJ6_bitCount_0f7a4 cJ6_bitCount_0f7a4 1 (some .int), Cond.constant RJ6 265 (1431655765), Cond.constant RJ6 266 (858993459), Cond.constant RJ6 267 (252645135), Cond.methodLink RX1 128 yX1_resolveWithDone, Cond.instanceMethod yX1_resolveWithDone, Cond.selects RX1 yX1_resolveWithDone yX1_resolveWithDone]
def wsL_law_r11 : List Cond := [Cond.code yX1_resolveWithDone cX1_resolveWithDone 10 (some .boolean), Cond.methodLink RX1 73 yX1_greatestOf, Cond.instanceMethod yX1_greatestOf, Cond.selects RX1 yX1_greatestOf yX1_greatestOf, Cond.code yX1_greatestOf cX1_greatestOf 5 (some .int), Cond.methodLink RX1 136 yX1_bring, Cond.methodLink RL 31 yX4_step, Cond.instanceMethod yX4_step, Cond.selects RX4 yX4_step yX4_step, Cond.code yX4_step cX4_step 1 (some .int), Cond.methodLink RX4 85 yX4_steps, Cond.instanceMethod yX4_steps, Cond.selects RX4 yX4_steps yX4_steps, Cond.code yX4_steps cX4_steps 5 (some .int), Cond.constant RX4 78 (-1000002), Cond.methodLink RX4 75 yX4_chosen, Cond.instanceMethod yX4_chosen, Cond.selects RX4 yX4_chosen yX4_chosen, Cond.code yX4_chosen cX4_chosen 5 (some .int), Cond.methodLink RX4 64 yX4_ones, Cond.static yX4_ones, Cond.code yX4_ones cX4_ones 3 (some .int), Cond.methodLink RX4 67 yX4_empties, Cond.instanceMethod yX4_empties]
def wsL_law_r12 : List Cond := [Cond.selects RX4 yX4_empties yX4_empties, Cond.code yX4_empties cX4_empties 3 (some .int), Cond.methodLink RX4 79 yX4_arePartners, Cond.instanceMethod yX4_arePartners, Cond.selects RX4 yX4_arePartners yX4_arePartners, Cond.code yX4_arePartners cX4_arePartners 4 (some .boolean), Cond.methodLink RX4 46 yX4_greatest, Cond.instanceMethod yX4_greatest, Cond.selects RX4 yX4_greatest yX4_greatest, Cond.code yX4_greatest cX4_greatest 4 (some .int), Cond.methodLink RX4 38 yX4_has, Cond.static yX4_has, Cond.code yX4_has cX4_has 2 (some .boolean), Cond.methodLink RX4 42 yX4_keyOf, Cond.instanceMethod yX4_keyOf, Cond.selects RX4 yX4_keyOf yX4_keyOf, Cond.code yX4_keyOf cX4_keyOf 2 (some .int), Cond.methodLink RX4 82 yX4_resolves, Cond.instanceMethod yX4_resolves, Cond.selects RX4 yX4_resolves yX4_resolves, Cond.code yX4_resolves cX4_resolves 6 (some .int), Cond.methodLink RL 32 yX3_run, Cond.instanceMethod yX3_run, Cond.selects RX3 yX3_run yX3_run]
def wsL_law_r13 : List Cond := [Cond.code yX3_run cX3_run 5 (some .int), Cond.constant RX3 55 (-1000003), Cond.constant RX3 56 (-1000002), Cond.methodLink RL 35 yX4_run, Cond.instanceMethod yX4_run, Cond.selects RX4 yX4_run yX4_run, Cond.code yX4_run cX4_run 2 (some .int), Cond.methodLink RX4 97 yX4_runs, Cond.instanceMethod yX4_runs, Cond.selects RX4 yX4_runs yX4_runs, Cond.code yX4_runs cX4_runs 4 (some .int), Cond.methodLink RL 36 yX3_empty, Cond.instanceMethod yX3_empty, Cond.selects RX3 yX3_empty yX3_empty, Cond.code yX3_empty cX3_empty 2 (some .int), Cond.methodLink RL 39 yX4_empty, Cond.instanceMethod yX4_empty, Cond.selects RX4 yX4_empty yX4_empty, Cond.code yX4_empty cX4_empty 1 (some .int), Cond.methodLink RX4 100 yX4_clears, Cond.instanceMethod yX4_clears, Cond.selects RX4 yX4_clears yX4_clears, Cond.code yX4_clears cX4_clears 3 (some .int), Cond.methodLink RL 40 yX3_clauseOf]
def wsL_law_r14 : List Cond := [Cond.instanceMethod yX3_clauseOf, Cond.selects RX3 yX3_clauseOf yX3_clauseOf, Cond.code yX3_clauseOf cX3_clauseOf 3 (some .int), Cond.instanceMethod yX1_has, Cond.selects RX1 yX1_has yX1_has, Cond.code yX1_has cX1_has 2 (some .boolean), Cond.methodLink RX3 71 yX3_at, Cond.methodLink RX3 81 yX3_foundOrNot, Cond.static yX3_foundOrNot, Cond.code yX3_foundOrNot cX3_foundOrNot 1 (some .int), Cond.constant RX3 133 (-1000004), Cond.methodLink RX3 93 yJ6_bitCount_0f7a4, Cond.instanceMethod yX1_howManyLessThan, Cond.selects RX1 yX1_howManyLessThan yX1_howManyLessThan, Cond.code yX1_howManyLessThan cX1_howManyLessThan 4 (some .int), Cond.methodLink RX1 84 yX1_isLess, Cond.instanceMethod yX1_isLess, Cond.selects RX1 yX1_isLess yX1_isLess, Cond.code yX1_isLess cX1_isLess 4 (some .boolean), Cond.static yX3_isIn, Cond.code yX3_isIn cX3_isIn 3 (some .boolean), Cond.methodLink RL 43 yX4_clauseOf, Cond.instanceMethod yX4_clauseOf, Cond.selects RX4 yX4_clauseOf yX4_clauseOf]
def wsL_law_r15 : List Cond := [Cond.code yX4_clauseOf cX4_clauseOf 3 (some .int), Cond.constant RX4 106 (-1000004), Cond.methodLink RX4 107 yX4_isClause, Cond.instanceMethod yX4_isClause, Cond.selects RX4 yX4_isClause yX4_isClause, Cond.code yX4_isClause cX4_isClause 2 (some .boolean), Cond.methodLink RX4 110 yX4_parentOf, Cond.instanceMethod yX4_parentOf, Cond.selects RX4 yX4_parentOf yX4_parentOf, Cond.code yX4_parentOf cX4_parentOf 3 (some .int), Cond.methodLink RX4 113 yX4_lessOnes, Cond.instanceMethod yX4_lessOnes, Cond.selects RX4 yX4_lessOnes yX4_lessOnes, Cond.code yX4_lessOnes cX4_lessOnes 4 (some .int), Cond.methodLink RX4 103 yX4_isLess, Cond.instanceMethod yX4_isLess, Cond.selects RX4 yX4_isLess yX4_isLess, Cond.code yX4_isLess cX4_isLess 4 (some .boolean), Cond.methodLink RL 44 yX3_tree, Cond.instanceMethod yX3_tree, Cond.selects RX3 yX3_tree yX3_tree, Cond.code yX3_tree cX3_tree 2 (some .long), Cond.constantLong RX3 108 (-1000001), Cond.instanceMethod yX1_treeOf]
def wsL_law_r16 : List Cond := [Cond.selects RX1 yX1_treeOf yX1_treeOf, Cond.code yX1_treeOf cX1_treeOf 5 (some .long), Cond.static yX3_setOf, Cond.code yX3_setOf cX3_setOf 1 (some .long), Cond.methodLink RL 48 yX4_tree, Cond.instanceMethod yX4_tree, Cond.selects RX4 yX4_tree yX4_tree, Cond.code yX4_tree cX4_tree 2 (some .long), Cond.constantLong RX4 124 (-1000001), Cond.methodLink RX4 120 yX4_treeOf, Cond.instanceMethod yX4_treeOf, Cond.selects RX4 yX4_treeOf yX4_treeOf, Cond.code yX4_treeOf cX4_treeOf 5 (some .long), Cond.methodLink RX4 116 yX4_isIn, Cond.static yX4_isIn, Cond.code yX4_isIn cX4_isIn 3 (some .boolean), Cond.methodLink RL 49 yX3_widest, Cond.instanceMethod yX3_widest, Cond.selects RX3 yX3_widest yX3_widest, Cond.code yX3_widest cX3_widest 2 (some .int), Cond.instanceMethod yX1_mostLiterals, Cond.selects RX1 yX1_mostLiterals yX1_mostLiterals, Cond.code yX1_mostLiterals cX1_mostLiterals 5 (some .int), Cond.methodLink RL 52 yX4_widest]
def wsL_law_r17 : List Cond := [Cond.instanceMethod yX4_widest, Cond.selects RX4 yX4_widest yX4_widest, Cond.code yX4_widest cX4_widest 7 (some .int), Cond.methodLink RL 53 yX3_refutation, Cond.instanceMethod yX3_refutation, Cond.selects RX3 yX3_refutation yX3_refutation, Cond.code yX3_refutation cX3_refutation 1 (some .int), Cond.methodLink RL 56 yX4_refutation, Cond.instanceMethod yX4_refutation, Cond.selects RX4 yX4_refutation yX4_refutation, Cond.code yX4_refutation cX4_refutation 2 (some .int), Cond.methodLink RL 57 yX3_models, Cond.instanceMethod yX3_models, Cond.selects RX3 yX3_models yX3_models, Cond.code yX3_models cX3_models 1 (some .int), Cond.instanceMethod yX1_toldClauses, Cond.selects RX1 yX1_toldClauses yX1_toldClauses, Cond.code yX1_toldClauses cX1_toldClauses 4 (some .long), Cond.methodLink RX1 142 yX1_wasTold, Cond.instanceMethod yX1_wasTold, Cond.selects RX1 yX1_wasTold yX1_wasTold, Cond.code yX1_wasTold cX1_wasTold 2 (some .boolean), Cond.instanceMethod yX1_valuesFulfilling, Cond.selects RX1 yX1_valuesFulfilling yX1_valuesFulfilling]
def wsL_law_r18 : List Cond := [Cond.code yX1_valuesFulfilling cX1_valuesFulfilling 6 (some .long), Cond.constantLong RX1 145 (-1), Cond.methodLink RX3 125 yJ13_bitCount_95d88, Cond.static yJ13_bitCount_95d88, Cond.initialized RJ13, Cond.code yJ13_bitCount_95d88 cJ13_bitCount_95d88 2 (some .int), Cond.constantLong RJ13 314 (6148914691236517205), Cond.constantLong RJ13 316 (3689348814741910323), Cond.constantLong RJ13 318 (1085102592571150095), Cond.methodLink RL 60 yX4_models, Cond.instanceMethod yX4_models, Cond.selects RX4 yX4_models yX4_models, Cond.code yX4_models cX4_models 1 (some .int), Cond.methodLink RX4 133 yX4_toldOnes, Cond.instanceMethod yX4_toldOnes, Cond.selects RX4 yX4_toldOnes yX4_toldOnes, Cond.code yX4_toldOnes cX4_toldOnes 4 (some .long), Cond.methodLink RX4 137 yX4_modelsOf, Cond.instanceMethod yX4_modelsOf, Cond.selects RX4 yX4_modelsOf yX4_modelsOf, Cond.code yX4_modelsOf cX4_modelsOf 5 (some .int), Cond.methodLink RX4 129 yX4_fulfils, Cond.instanceMethod yX4_fulfils, Cond.selects RX4 yX4_fulfils yX4_fulfils]
def wsL_law_r19 : List Cond := [Cond.code yX4_fulfils cX4_fulfils 6 (some .boolean), Cond.methodLink RX4 126 yX4_isFulfilled, Cond.static yX4_isFulfilled, Cond.code yX4_isFulfilled cX4_isFulfilled 4 (some .boolean), Cond.methodLink RL 61 yX3_model, Cond.instanceMethod yX3_model, Cond.selects RX3 yX3_model yX3_model, Cond.code yX3_model cX3_model 6 (some .int), Cond.methodLink RX3 129 yX3_isIn, Cond.methodLink RL 64 yX4_model, Cond.instanceMethod yX4_model, Cond.selects RX4 yX4_model yX4_model, Cond.code yX4_model cX4_model 7 (some .int), Cond.methodLink RL 65 yX3_broken, Cond.instanceMethod yX3_broken, Cond.selects RX3 yX3_broken yX3_broken, Cond.code yX3_broken cX3_broken 2 (some .long), Cond.instanceMethod yX1_clausesBrokenBy, Cond.selects RX1 yX1_clausesBrokenBy yX1_clausesBrokenBy, Cond.code yX1_clausesBrokenBy cX1_clausesBrokenBy 5 (some .long), Cond.methodLink RL 68 yX4_broken, Cond.instanceMethod yX4_broken, Cond.selects RX4 yX4_broken yX4_broken, Cond.code yX4_broken cX4_broken 5 (some .long)]
def wsL_law_r20 : List Cond := [Cond.methodLink RL 69 yX3_core, Cond.instanceMethod yX3_core, Cond.selects RX3 yX3_core yX3_core, Cond.code yX3_core cX3_core 3 (some .long), Cond.constantLong RX3 140 (-1000004), Cond.instanceMethod yX1_fewestUnfulfillable, Cond.selects RX1 yX1_fewestUnfulfillable yX1_fewestUnfulfillable, Cond.code yX1_fewestUnfulfillable cX1_fewestUnfulfillable 8 (some .long), Cond.methodLink RX1 151 yX1_valuesFulfilling, Cond.methodLink RL 73 yX4_core, Cond.instanceMethod yX4_core, Cond.selects RX4 yX4_core yX4_core, Cond.code yX4_core cX4_core 6 (some .long), Cond.constantLong RX4 141 (-1000004), Cond.constantLong RX4 143 (-1), Cond.methodLink RL 74 yX3_follows, Cond.instanceMethod yX3_follows, Cond.selects RX3 yX3_follows yX3_follows, Cond.code yX3_follows cX3_follows 4 (some .int), Cond.methodLink RX3 142 yX3_valuesOfClause, Cond.methodLink RL 77 yX4_follows, Cond.instanceMethod yX4_follows, Cond.selects RX4 yX4_follows yX4_follows, Cond.code yX4_follows cX4_follows 6 (some .int)]
def wsL_law_r21 : List Cond := [Cond.methodLink RL 78 yX3_share, Cond.instanceMethod yX3_share, Cond.selects RX3 yX3_share yX3_share, Cond.code yX3_share cX3_share 2 (some .int), Cond.methodLink RX3 147 yX3_floatBitsOf64ths, Cond.static yX3_floatBitsOf64ths, Cond.code yX3_floatBitsOf64ths cX3_floatBitsOf64ths 3 (some .int), Cond.constant RX3 212 (8388607), Cond.methodLink RL 81 yX4_share, Cond.instanceMethod yX4_share, Cond.selects RX4 yX4_share yX4_share, Cond.code yX4_share cX4_share 4 (some .int), Cond.constantFloat RX4 145 (1115684864), Cond.methodLink RX4 146 yJxf58ca_floatToIntBits_5c35a, Cond.static yJxf58ca_floatToIntBits_5c35a, Cond.initialized RJxf58ca, Cond.code yJxf58ca_floatToIntBits_5c35a cJxf58ca_floatToIntBits_5c35a 1 (some .int), Cond.methodLink RJxf58ca 74 ⟨"java/lang/Float", "floatToRawIntBits", "(F)I"⟩, Cond.native ⟨"java/lang/Float", "floatToRawIntBits", "(F)I"⟩, Cond.static ⟨"java/lang/Float", "floatToRawIntBits", "(F)I"⟩, Cond.initialized "java/lang/Float", Cond.constant RJxf58ca 77 (2143289344), Cond.methodLink RJxf58ca 59 yJxf58ca_isNaN_12338, Cond.static yJxf58ca_isNaN_12338]
def wsL_law_r22 : List Cond := [Cond.code yJxf58ca_isNaN_12338 cJxf58ca_isNaN_12338 1 (some .boolean), Cond.methodLink RL 82 yX3_count, Cond.instanceMethod yX3_count, Cond.selects RX3 yX3_count yX3_count, Cond.code yX3_count cX3_count 2 (some .int), Cond.instanceMethod yX1_howMany, Cond.selects RX1 yX1_howMany yX1_howMany, Cond.code yX1_howMany cX1_howMany 4 (some .int), Cond.methodLink RL 85 yX4_count, Cond.instanceMethod yX4_count, Cond.selects RX4 yX4_count yX4_count, Cond.code yX4_count cX4_count 2 (some .int), Cond.fieldLink RX4 155 "OrderedClausesModel" "length" "I", Cond.methodLink RX4 152 yX4_withStatus, Cond.instanceMethod yX4_withStatus, Cond.selects RX4 yX4_withStatus yX4_withStatus, Cond.code yX4_withStatus cX4_withStatus 4 (some .int), Cond.methodLink RL 86 yX3_undo, Cond.instanceMethod yX3_undo, Cond.selects RX3 yX3_undo yX3_undo, Cond.code yX3_undo cX3_undo 1 (some .int), Cond.instanceMethod yX0_restoreLatest, Cond.selects RX0 yX0_restoreLatest yX0_restoreLatest, Cond.code yX0_restoreLatest cX0_restoreLatest 2 (some .boolean)]
def wsL_law_r23 : List Cond := [Cond.methodLink RL 89 yX4_undo, Cond.instanceMethod yX4_undo, Cond.selects RX4 yX4_undo yX4_undo, Cond.code yX4_undo cX4_undo 2 (some .int), Cond.methodLink RL 90 yX3_type, Cond.instanceMethod yX3_type, Cond.selects RX3 yX3_type yX3_type, Cond.code yX3_type cX3_type 2 (some .int), Cond.instanceMethod yX2_add, Cond.selects RX2 yX2_add yX2_add, Cond.code yX2_add cX2_add 2 (some .boolean), Cond.methodLink RL 93 yX4_type, Cond.instanceMethod yX4_type, Cond.selects RX4 yX4_type yX4_type, Cond.code yX4_type cX4_type 2 (some .int), Cond.methodLink RL 94 yX3_clearText, Cond.instanceMethod yX3_clearText, Cond.selects RX3 yX3_clearText yX3_clearText, Cond.code yX3_clearText cX3_clearText 2 (some .int), Cond.methodLink RL 97 yX4_clearText, Cond.instanceMethod yX4_clearText, Cond.selects RX4 yX4_clearText yX4_clearText, Cond.code yX4_clearText cX4_clearText 2 (some .int), Cond.methodLink RL 98 yX3_fault]
def wsL_law_r24 : List Cond := [Cond.instanceMethod yX3_fault, Cond.selects RX3 yX3_fault yX3_fault, Cond.code yX3_fault cX3_fault 4 (some .int), Cond.instanceMethod yX2_whereItBreaksOff, Cond.selects RX2 yX2_whereItBreaksOff yX2_whereItBreaksOff, Cond.code yX2_whereItBreaksOff cX2_whereItBreaksOff 5 (some .int), Cond.instanceMethod yX2_startOfClause, Cond.selects RX2 yX2_startOfClause yX2_startOfClause, Cond.code yX2_startOfClause cX2_startOfClause 3 (some .int), Cond.methodLink RL 101 yX4_fault, Cond.instanceMethod yX4_fault, Cond.selects RX4 yX4_fault yX4_fault, Cond.code yX4_fault cX4_fault 3 (some .int), Cond.fieldLink RX4 158 "OrderedClausesModel" "at" "I", Cond.methodLink RX4 171 yX4_brokenAt, Cond.instanceMethod yX4_brokenAt, Cond.selects RX4 yX4_brokenAt yX4_brokenAt, Cond.code yX4_brokenAt cX4_brokenAt 2 (some .int), Cond.methodLink RX4 167 yX4_reads, Cond.instanceMethod yX4_reads, Cond.selects RX4 yX4_reads yX4_reads, Cond.code yX4_reads cX4_reads 2 (some .boolean), Cond.fieldLink RX4 161 "OrderedClausesModel" "read" "I", Cond.methodLink RX4 164 yX4_here]
def wsL_law_r25 : List Cond := [Cond.instanceMethod yX4_here, Cond.selects RX4 yX4_here yX4_here, Cond.code yX4_here cX4_here 1 (some .int), Cond.methodLink RL 102 yX3_play, Cond.instanceMethod yX3_play, Cond.selects RX3 yX3_play yX3_play, Cond.code yX3_play cX3_play 1 (some .int), Cond.methodLink RX3 181 yX3_bringText, Cond.instanceMethod yX3_bringText, Cond.selects RX3 yX3_bringText yX3_bringText, Cond.code yX3_bringText cX3_bringText 7 (some .int), Cond.methodLink RL 105 yX4_play, Cond.instanceMethod yX4_play, Cond.selects RX4 yX4_play yX4_play, Cond.code yX4_play cX4_play 1 (some .int), Cond.methodLink RX4 174 yX4_plays, Cond.instanceMethod yX4_plays, Cond.selects RX4 yX4_plays yX4_plays, Cond.code yX4_plays cX4_plays 3 (some .int)]
def wsL_law : List Cond := (wsL_law_r1 ++ (wsL_law_r2 ++ (wsL_law_r3 ++ (wsL_law_r4 ++ (wsL_law_r5 ++ (wsL_law_r6 ++ (wsL_law_r7 ++ (wsL_law_r8 ++ (wsL_law_r9 ++ (wsL_law_r10 ++ (wsL_law_r11 ++ (wsL_law_r12 ++ (wsL_law_r13 ++ (wsL_law_r14 ++ (wsL_law_r15 ++ (wsL_law_r16 ++ (wsL_law_r17 ++ (wsL_law_r18 ++ (wsL_law_r19 ++ (wsL_law_r20 ++ (wsL_law_r21 ++ (wsL_law_r22 ++ (wsL_law_r23 ++ (wsL_law_r24 ++ wsL_law_r25)))))))))))))))))))))))) ++ wsX30 ++ wsX40 ++ wsX10 ++ wsX00 ++ wsX20 ++ ([] : List Cond)
set_option maxRecDepth 20000 in
theorem ggX0_init_X1_init : GoodIn wsX0_init wsX1_init := goodIn_r _ [10, 11, 2, 3, 12, 13, 14, 15, 16, 17, 18, 19, 20, 21, 22, 23, 24, 25, 26, 27, 28, 29, 32, 33, 34, 35, 36, 37, 38, 39, 40, 41, 42, 43, 44] (by decide +kernel) (by decide +kernel)
set_option maxRecDepth 20000 in
theorem gX0_init_X1_init_n21 : GoodIn wsX0_init (wsX1_init) := ggX0_init_X1_init
theorem dX0_init_0 : decode cX0_init 0 = .ok (.aload_n 0, 1) := by decide +kernel
theorem dX0_init_1 : decode cX0_init 1 = .ok (.invokespecial 3, 3) := by decide +kernel
theorem dX0_init_4 : decode cX0_init 4 = .ok (.aload_n 0, 1) := by decide +kernel
theorem dX0_init_5 : decode cX0_init 5 = .ok (.iconst 5, 1) := by decide +kernel
theorem dX0_init_6 : decode cX0_init 6 = .ok (.anewarray 9, 3) := by decide +kernel
theorem dX0_init_9 : decode cX0_init 9 = .ok (.putfield 11, 3) := by decide +kernel
theorem dX0_init_12 : decode cX0_init 12 = .ok (.aload_n 0, 1) := by decide +kernel
theorem dX0_init_13 : decode cX0_init 13 = .ok (.iconst 0, 1) := by decide +kernel
theorem dX0_init_14 : decode cX0_init 14 = .ok (.putfield 17, 3) := by decide +kernel
theorem dX0_init_17 : decode cX0_init 17 = .ok (.iconst 0, 1) := by decide +kernel
theorem dX0_init_18 : decode cX0_init 18 = .ok (.istore_n 1, 1) := by decide +kernel
theorem dX0_init_19 : decode cX0_init 19 = .ok (.iload_n 1, 1) := by decide +kernel
theorem dX0_init_20 : decode cX0_init 20 = .ok (.aload_n 0, 1) := by decide +kernel
theorem dX0_init_21 : decode cX0_init 21 = .ok (.getfield 11, 3) := by decide +kernel
theorem dX0_init_24 : decode cX0_init 24 = .ok (.arraylength, 1) := by decide +kernel
theorem dX0_init_25 : decode cX0_init 25 = .ok (.if_icmp .ge 22, 3) := by decide +kernel
theorem dX0_init_28 : decode cX0_init 28 = .ok (.aload_n 0, 1) := by decide +kernel
theorem dX0_init_29 : decode cX0_init 29 = .ok (.getfield 11, 3) := by decide +kernel
theorem dX0_init_32 : decode cX0_init 32 = .ok (.iload_n 1, 1) := by decide +kernel
theorem dX0_init_33 : decode cX0_init 33 = .ok (.new 9, 3) := by decide +kernel
theorem dX0_init_36 : decode cX0_init 36 = .ok (.dup, 1) := by decide +kernel
theorem dX0_init_37 : decode cX0_init 37 = .ok (.invokespecial 21, 3) := by decide +kernel
theorem dX0_init_40 : decode cX0_init 40 = .ok (.aastore, 1) := by decide +kernel
theorem dX0_init_41 : decode cX0_init 41 = .ok (.iinc 1 1, 3) := by decide +kernel
theorem dX0_init_44 : decode cX0_init 44 = .ok (.goto (-25), 3) := by decide +kernel
theorem dX0_init_47 : decode cX0_init 47 = .ok (.return_, 1) := by decide +kernel
theorem dX0_stateAt_0 : decode cX0_stateAt 0 = .ok (.iload_n 1, 1) := by decide +kernel
theorem dX0_stateAt_1 : decode cX0_stateAt 1 = .ok (.ifCond .lt 21, 3) := by decide +kernel
theorem dX0_stateAt_4 : decode cX0_stateAt 4 = .ok (.iload_n 1, 1) := by decide +kernel
theorem dX0_stateAt_5 : decode cX0_stateAt 5 = .ok (.aload_n 0, 1) := by decide +kernel
theorem dX0_stateAt_6 : decode cX0_stateAt 6 = .ok (.getfield 11, 3) := by decide +kernel
theorem dX0_stateAt_9 : decode cX0_stateAt 9 = .ok (.arraylength, 1) := by decide +kernel
theorem dX0_stateAt_10 : decode cX0_stateAt 10 = .ok (.if_icmp .ge 12, 3) := by decide +kernel
theorem dX0_stateAt_13 : decode cX0_stateAt 13 = .ok (.aload_n 0, 1) := by decide +kernel
theorem dX0_stateAt_14 : decode cX0_stateAt 14 = .ok (.getfield 11, 3) := by decide +kernel
theorem dX0_stateAt_17 : decode cX0_stateAt 17 = .ok (.iload_n 1, 1) := by decide +kernel
theorem dX0_stateAt_18 : decode cX0_stateAt 18 = .ok (.aaload, 1) := by decide +kernel
theorem dX0_stateAt_19 : decode cX0_stateAt 19 = .ok (.goto 4, 3) := by decide +kernel
theorem dX0_stateAt_22 : decode cX0_stateAt 22 = .ok (.aconst_null, 1) := by decide +kernel
theorem dX0_stateAt_23 : decode cX0_stateAt 23 = .ok (.areturn, 1) := by decide +kernel
set_option maxRecDepth 20000 in
theorem ggX0_putAside_X0_stateAt : GoodIn wsX0_putAside wsX0_stateAt := goodIn_r _ [6, 7, 38, 39] (by decide +kernel) (by decide +kernel)
set_option maxRecDepth 20000 in
theorem gX0_putAside_X0_stateAt : GoodIn wsX0_putAside (wsV RX0 22 RX0 yX0_stateAt wsX0_stateAt) := goodIn_app (goodIn_of _ (by decide +kernel)) ggX0_putAside_X0_stateAt
set_option maxRecDepth 20000 in
theorem ggX0_putAside_X1_copyFrom : GoodIn wsX0_putAside wsX1_copyFrom := goodIn_r _ [11, 12, 13, 14, 15, 16, 17, 18, 19, 20, 21, 22, 23, 24, 25, 26, 27, 28, 29, 30, 31, 32, 33, 34, 35, 36, 37, 40, 41, 42, 43, 44, 45, 46, 47, 48, 49, 50, 51, 52] (by decide +kernel) (by decide +kernel)
set_option maxRecDepth 20000 in
theorem gX0_putAside_X1_copyFrom_n26 : GoodIn wsX0_putAside (wsX1_copyFrom) := ggX0_putAside_X1_copyFrom
theorem dX0_putAside_0 : decode cX0_putAside 0 = .ok (.aload_n 0, 1) := by decide +kernel
theorem dX0_putAside_1 : decode cX0_putAside 1 = .ok (.aload_n 0, 1) := by decide +kernel
theorem dX0_putAside_2 : decode cX0_putAside 2 = .ok (.getfield 17, 3) := by decide +kernel
theorem dX0_putAside_5 : decode cX0_putAside 5 = .ok (.invokevirtual 22, 3) := by decide +kernel
theorem dX0_putAside_8 : decode cX0_putAside 8 = .ok (.astore_n 2, 1) := by decide +kernel
theorem dX0_putAside_9 : decode cX0_putAside 9 = .ok (.aload_n 2, 1) := by decide +kernel
theorem dX0_putAside_10 : decode cX0_putAside 10 = .ok (.ifnull 8, 3) := by decide +kernel
theorem dX0_putAside_13 : decode cX0_putAside 13 = .ok (.aload_n 2, 1) := by decide +kernel
theorem dX0_putAside_14 : decode cX0_putAside 14 = .ok (.aload_n 1, 1) := by decide +kernel
theorem dX0_putAside_15 : decode cX0_putAside 15 = .ok (.invokevirtual 26, 3) := by decide +kernel
theorem dX0_putAside_18 : decode cX0_putAside 18 = .ok (.return_, 1) := by decide +kernel
set_option maxRecDepth 20000 in
theorem ggX0_takeBack_X0_stateAt : GoodIn wsX0_takeBack wsX0_stateAt := goodIn_r _ [6, 7, 38, 39] (by decide +kernel) (by decide +kernel)
set_option maxRecDepth 20000 in
theorem gX0_takeBack_X0_stateAt : GoodIn wsX0_takeBack (wsV RX0 22 RX0 yX0_stateAt wsX0_stateAt) := goodIn_app (goodIn_of _ (by decide +kernel)) ggX0_takeBack_X0_stateAt
set_option maxRecDepth 20000 in
theorem ggX0_takeBack_X1_copyFrom : GoodIn wsX0_takeBack wsX1_copyFrom := goodIn_r _ [11, 12, 13, 14, 15, 16, 17, 18, 19, 20, 21, 22, 23, 24, 25, 26, 27, 28, 29, 30, 31, 32, 33, 34, 35, 36, 37, 40, 41, 42, 43, 44, 45, 46, 47, 48, 49, 50, 51, 52] (by decide +kernel) (by decide +kernel)
set_option maxRecDepth 20000 in
theorem gX0_takeBack_X1_copyFrom_n26 : GoodIn wsX0_takeBack (wsX1_copyFrom) := ggX0_takeBack_X1_copyFrom
theorem dX0_takeBack_0 : decode cX0_takeBack 0 = .ok (.aload_n 1, 1) := by decide +kernel
theorem dX0_takeBack_1 : decode cX0_takeBack 1 = .ok (.aload_n 0, 1) := by decide +kernel
theorem dX0_takeBack_2 : decode cX0_takeBack 2 = .ok (.aload_n 0, 1) := by decide +kernel
theorem dX0_takeBack_3 : decode cX0_takeBack 3 = .ok (.getfield 17, 3) := by decide +kernel
theorem dX0_takeBack_6 : decode cX0_takeBack 6 = .ok (.invokevirtual 22, 3) := by decide +kernel
theorem dX0_takeBack_9 : decode cX0_takeBack 9 = .ok (.invokevirtual 26, 3) := by decide +kernel
theorem dX0_takeBack_12 : decode cX0_takeBack 12 = .ok (.return_, 1) := by decide +kernel
set_option maxRecDepth 20000 in
theorem ggX0_keep_X0_dropOldest : GoodIn wsX0_keep wsX0_dropOldest := goodIn_r _ [6, 7, 8, 9, 10, 5, 11, 12, 13] (by decide +kernel) (by decide +kernel)
set_option maxRecDepth 20000 in
theorem gX0_keep_X0_dropOldest : GoodIn wsX0_keep (wsV RX0 30 RX0 yX0_dropOldest wsX0_dropOldest) := goodIn_app (goodIn_of _ (by decide +kernel)) ggX0_keep_X0_dropOldest
theorem dX0_keep_0 : decode cX0_keep 0 = .ok (.aload_n 0, 1) := by decide +kernel
theorem dX0_keep_1 : decode cX0_keep 1 = .ok (.getfield 17, 3) := by decide +kernel
theorem dX0_keep_4 : decode cX0_keep 4 = .ok (.iconst 4, 1) := by decide +kernel
theorem dX0_keep_5 : decode cX0_keep 5 = .ok (.if_icmp .ge 16, 3) := by decide +kernel
theorem dX0_keep_8 : decode cX0_keep 8 = .ok (.aload_n 0, 1) := by decide +kernel
theorem dX0_keep_9 : decode cX0_keep 9 = .ok (.dup, 1) := by decide +kernel
theorem dX0_keep_10 : decode cX0_keep 10 = .ok (.getfield 17, 3) := by decide +kernel
theorem dX0_keep_13 : decode cX0_keep 13 = .ok (.iconst 1, 1) := by decide +kernel
theorem dX0_keep_14 : decode cX0_keep 14 = .ok (.iadd, 1) := by decide +kernel
theorem dX0_keep_15 : decode cX0_keep 15 = .ok (.putfield 17, 3) := by decide +kernel
theorem dX0_keep_18 : decode cX0_keep 18 = .ok (.goto 7, 3) := by decide +kernel
theorem dX0_keep_21 : decode cX0_keep 21 = .ok (.aload_n 0, 1) := by decide +kernel
theorem dX0_keep_22 : decode cX0_keep 22 = .ok (.invokevirtual 30, 3) := by decide +kernel
theorem dX0_keep_25 : decode cX0_keep 25 = .ok (.return_, 1) := by decide +kernel
set_option maxRecDepth 20000 in
theorem ggX0_dropOldest_X0_stateAt : GoodIn wsX0_dropOldest wsX0_stateAt := goodIn_r _ [6, 1, 7, 8] (by decide +kernel) (by decide +kernel)
set_option maxRecDepth 20000 in
theorem gX0_dropOldest_X0_stateAt : GoodIn wsX0_dropOldest (wsV RX0 22 RX0 yX0_stateAt wsX0_stateAt) := goodIn_app (goodIn_of _ (by decide +kernel)) ggX0_dropOldest_X0_stateAt
theorem dX0_dropOldest_0 : decode cX0_dropOldest 0 = .ok (.aload_n 0, 1) := by decide +kernel
theorem dX0_dropOldest_1 : decode cX0_dropOldest 1 = .ok (.iconst 0, 1) := by decide +kernel
theorem dX0_dropOldest_2 : decode cX0_dropOldest 2 = .ok (.invokevirtual 22, 3) := by decide +kernel
theorem dX0_dropOldest_5 : decode cX0_dropOldest 5 = .ok (.astore_n 1, 1) := by decide +kernel
theorem dX0_dropOldest_6 : decode cX0_dropOldest 6 = .ok (.aload_n 0, 1) := by decide +kernel
theorem dX0_dropOldest_7 : decode cX0_dropOldest 7 = .ok (.getfield 11, 3) := by decide +kernel
theorem dX0_dropOldest_10 : decode cX0_dropOldest 10 = .ok (.arraylength, 1) := by decide +kernel
theorem dX0_dropOldest_11 : decode cX0_dropOldest 11 = .ok (.iconst 1, 1) := by decide +kernel
theorem dX0_dropOldest_12 : decode cX0_dropOldest 12 = .ok (.isub, 1) := by decide +kernel
theorem dX0_dropOldest_13 : decode cX0_dropOldest 13 = .ok (.istore_n 2, 1) := by decide +kernel
theorem dX0_dropOldest_14 : decode cX0_dropOldest 14 = .ok (.iconst 0, 1) := by decide +kernel
theorem dX0_dropOldest_15 : decode cX0_dropOldest 15 = .ok (.istore_n 3, 1) := by decide +kernel
theorem dX0_dropOldest_16 : decode cX0_dropOldest 16 = .ok (.iload_n 3, 1) := by decide +kernel
theorem dX0_dropOldest_17 : decode cX0_dropOldest 17 = .ok (.iload_n 2, 1) := by decide +kernel
theorem dX0_dropOldest_18 : decode cX0_dropOldest 18 = .ok (.if_icmp .ge 22, 3) := by decide +kernel
theorem dX0_dropOldest_21 : decode cX0_dropOldest 21 = .ok (.aload_n 0, 1) := by decide +kernel
theorem dX0_dropOldest_22 : decode cX0_dropOldest 22 = .ok (.getfield 11, 3) := by decide +kernel
theorem dX0_dropOldest_25 : decode cX0_dropOldest 25 = .ok (.iload_n 3, 1) := by decide +kernel
theorem dX0_dropOldest_26 : decode cX0_dropOldest 26 = .ok (.aload_n 0, 1) := by decide +kernel
theorem dX0_dropOldest_27 : decode cX0_dropOldest 27 = .ok (.iload_n 3, 1) := by decide +kernel
theorem dX0_dropOldest_28 : decode cX0_dropOldest 28 = .ok (.iconst 1, 1) := by decide +kernel
theorem dX0_dropOldest_29 : decode cX0_dropOldest 29 = .ok (.iadd, 1) := by decide +kernel
theorem dX0_dropOldest_30 : decode cX0_dropOldest 30 = .ok (.invokevirtual 22, 3) := by decide +kernel
theorem dX0_dropOldest_33 : decode cX0_dropOldest 33 = .ok (.aastore, 1) := by decide +kernel
theorem dX0_dropOldest_34 : decode cX0_dropOldest 34 = .ok (.iinc 3 1, 3) := by decide +kernel
theorem dX0_dropOldest_37 : decode cX0_dropOldest 37 = .ok (.goto (-21), 3) := by decide +kernel
theorem dX0_dropOldest_40 : decode cX0_dropOldest 40 = .ok (.iload_n 2, 1) := by decide +kernel
theorem dX0_dropOldest_41 : decode cX0_dropOldest 41 = .ok (.ifCond .lt 10, 3) := by decide +kernel
theorem dX0_dropOldest_44 : decode cX0_dropOldest 44 = .ok (.aload_n 0, 1) := by decide +kernel
theorem dX0_dropOldest_45 : decode cX0_dropOldest 45 = .ok (.getfield 11, 3) := by decide +kernel
theorem dX0_dropOldest_48 : decode cX0_dropOldest 48 = .ok (.iload_n 2, 1) := by decide +kernel
theorem dX0_dropOldest_49 : decode cX0_dropOldest 49 = .ok (.aload_n 1, 1) := by decide +kernel
theorem dX0_dropOldest_50 : decode cX0_dropOldest 50 = .ok (.aastore, 1) := by decide +kernel
theorem dX0_dropOldest_51 : decode cX0_dropOldest 51 = .ok (.return_, 1) := by decide +kernel
set_option maxRecDepth 20000 in
theorem ggX0_restoreLatest_X0_stateAt : GoodIn wsX0_restoreLatest wsX0_stateAt := goodIn_r _ [6, 7, 38, 39] (by decide +kernel) (by decide +kernel)
set_option maxRecDepth 20000 in
theorem gX0_restoreLatest_X0_stateAt : GoodIn wsX0_restoreLatest (wsV RX0 22 RX0 yX0_stateAt wsX0_stateAt) := goodIn_app (goodIn_of _ (by decide +kernel)) ggX0_restoreLatest_X0_stateAt
set_option maxRecDepth 20000 in
theorem ggX0_restoreLatest_X1_copyFrom : GoodIn wsX0_restoreLatest wsX1_copyFrom := goodIn_r _ [11, 12, 13, 14, 15, 16, 17, 18, 19, 20, 21, 22, 23, 24, 25, 26, 27, 28, 29, 30, 31, 32, 33, 34, 35, 36, 37, 40, 41, 42, 43, 44, 45, 46, 47, 48, 49, 50, 51, 52] (by decide +kernel) (by decide +kernel)
set_option maxRecDepth 20000 in
theorem gX0_restoreLatest_X1_copyFrom_n26 : GoodIn wsX0_restoreLatest (wsX1_copyFrom) := ggX0_restoreLatest_X1_copyFrom
theorem dX0_restoreLatest_0 : decode cX0_restoreLatest 0 = .ok (.aload_n 0, 1) := by decide +kernel
theorem dX0_restoreLatest_1 : decode cX0_restoreLatest 1 = .ok (.getfield 17, 3) := by decide +kernel
theorem dX0_restoreLatest_4 : decode cX0_restoreLatest 4 = .ok (.ifCond .gt 5, 3) := by decide +kernel
theorem dX0_restoreLatest_7 : decode cX0_restoreLatest 7 = .ok (.iconst 0, 1) := by decide +kernel
theorem dX0_restoreLatest_8 : decode cX0_restoreLatest 8 = .ok (.ireturn, 1) := by decide +kernel
theorem dX0_restoreLatest_9 : decode cX0_restoreLatest 9 = .ok (.aload_n 0, 1) := by decide +kernel
theorem dX0_restoreLatest_10 : decode cX0_restoreLatest 10 = .ok (.dup, 1) := by decide +kernel
theorem dX0_restoreLatest_11 : decode cX0_restoreLatest 11 = .ok (.getfield 17, 3) := by decide +kernel
theorem dX0_restoreLatest_14 : decode cX0_restoreLatest 14 = .ok (.iconst 1, 1) := by decide +kernel
theorem dX0_restoreLatest_15 : decode cX0_restoreLatest 15 = .ok (.isub, 1) := by decide +kernel
theorem dX0_restoreLatest_16 : decode cX0_restoreLatest 16 = .ok (.putfield 17, 3) := by decide +kernel
theorem dX0_restoreLatest_19 : decode cX0_restoreLatest 19 = .ok (.aload_n 1, 1) := by decide +kernel
theorem dX0_restoreLatest_20 : decode cX0_restoreLatest 20 = .ok (.aload_n 0, 1) := by decide +kernel
theorem dX0_restoreLatest_21 : decode cX0_restoreLatest 21 = .ok (.aload_n 0, 1) := by decide +kernel
theorem dX0_restoreLatest_22 : decode cX0_restoreLatest 22 = .ok (.getfield 17, 3) := by decide +kernel
theorem dX0_restoreLatest_25 : decode cX0_restoreLatest 25 = .ok (.invokevirtual 22, 3) := by decide +kernel
theorem dX0_restoreLatest_28 : decode cX0_restoreLatest 28 = .ok (.invokevirtual 26, 3) := by decide +kernel
theorem dX0_restoreLatest_31 : decode cX0_restoreLatest 31 = .ok (.iconst 1, 1) := by decide +kernel
theorem dX0_restoreLatest_32 : decode cX0_restoreLatest 32 = .ok (.ireturn, 1) := by decide +kernel
set_option maxRecDepth 20000 in
theorem ggX1_init_X3_put : GoodIn wsX1_init wsX3_put := goodIn_r _ [21] (by decide +kernel) (by decide +kernel)
set_option maxRecDepth 20000 in
theorem gX1_init_X3_put_n53 : GoodIn wsX1_init (wsX3_put) := ggX1_init_X3_put
theorem dX1_init_0 : decode cX1_init 0 = .ok (.aload_n 0, 1) := by decide +kernel
theorem dX1_init_1 : decode cX1_init 1 = .ok (.invokespecial 3, 3) := by decide +kernel
theorem dX1_init_4 : decode cX1_init 4 = .ok (.aload_n 0, 1) := by decide +kernel
theorem dX1_init_5 : decode cX1_init 5 = .ok (.bipush 6, 2) := by decide +kernel
theorem dX1_init_7 : decode cX1_init 7 = .ok (.newarray .int, 2) := by decide +kernel
theorem dX1_init_9 : decode cX1_init 9 = .ok (.putfield 9, 3) := by decide +kernel
theorem dX1_init_12 : decode cX1_init 12 = .ok (.aload_n 0, 1) := by decide +kernel
theorem dX1_init_13 : decode cX1_init 13 = .ok (.bipush 40, 2) := by decide +kernel
theorem dX1_init_15 : decode cX1_init 15 = .ok (.newarray .int, 2) := by decide +kernel
theorem dX1_init_17 : decode cX1_init 17 = .ok (.putfield 15, 3) := by decide +kernel
theorem dX1_init_20 : decode cX1_init 20 = .ok (.aload_n 0, 1) := by decide +kernel
theorem dX1_init_21 : decode cX1_init 21 = .ok (.bipush 40, 2) := by decide +kernel
theorem dX1_init_23 : decode cX1_init 23 = .ok (.newarray .int, 2) := by decide +kernel
theorem dX1_init_25 : decode cX1_init 25 = .ok (.putfield 18, 3) := by decide +kernel
theorem dX1_init_28 : decode cX1_init 28 = .ok (.aload_n 0, 1) := by decide +kernel
theorem dX1_init_29 : decode cX1_init 29 = .ok (.bipush 40, 2) := by decide +kernel
theorem dX1_init_31 : decode cX1_init 31 = .ok (.newarray .int, 2) := by decide +kernel
theorem dX1_init_33 : decode cX1_init 33 = .ok (.putfield 21, 3) := by decide +kernel
theorem dX1_init_36 : decode cX1_init 36 = .ok (.aload_n 0, 1) := by decide +kernel
theorem dX1_init_37 : decode cX1_init 37 = .ok (.bipush 40, 2) := by decide +kernel
theorem dX1_init_39 : decode cX1_init 39 = .ok (.newarray .int, 2) := by decide +kernel
theorem dX1_init_41 : decode cX1_init 41 = .ok (.putfield 24, 3) := by decide +kernel
theorem dX1_init_44 : decode cX1_init 44 = .ok (.aload_n 0, 1) := by decide +kernel
theorem dX1_init_45 : decode cX1_init 45 = .ok (.bipush 40, 2) := by decide +kernel
theorem dX1_init_47 : decode cX1_init 47 = .ok (.newarray .int, 2) := by decide +kernel
theorem dX1_init_49 : decode cX1_init 49 = .ok (.putfield 27, 3) := by decide +kernel
theorem dX1_init_52 : decode cX1_init 52 = .ok (.aload_n 0, 1) := by decide +kernel
theorem dX1_init_53 : decode cX1_init 53 = .ok (.bipush 40, 2) := by decide +kernel
theorem dX1_init_55 : decode cX1_init 55 = .ok (.newarray .int, 2) := by decide +kernel
theorem dX1_init_57 : decode cX1_init 57 = .ok (.putfield 30, 3) := by decide +kernel
theorem dX1_init_60 : decode cX1_init 60 = .ok (.aload_n 0, 1) := by decide +kernel
theorem dX1_init_61 : decode cX1_init 61 = .ok (.bipush 40, 2) := by decide +kernel
theorem dX1_init_63 : decode cX1_init 63 = .ok (.newarray .long, 2) := by decide +kernel
theorem dX1_init_65 : decode cX1_init 65 = .ok (.putfield 33, 3) := by decide +kernel
theorem dX1_init_68 : decode cX1_init 68 = .ok (.aload_n 0, 1) := by decide +kernel
theorem dX1_init_69 : decode cX1_init 69 = .ok (.iconst 0, 1) := by decide +kernel
theorem dX1_init_70 : decode cX1_init 70 = .ok (.putfield 37, 3) := by decide +kernel
theorem dX1_init_73 : decode cX1_init 73 = .ok (.aload_n 0, 1) := by decide +kernel
theorem dX1_init_74 : decode cX1_init 74 = .ok (.iconst 0, 1) := by decide +kernel
theorem dX1_init_75 : decode cX1_init 75 = .ok (.putfield 41, 3) := by decide +kernel
theorem dX1_init_78 : decode cX1_init 78 = .ok (.aload_n 0, 1) := by decide +kernel
theorem dX1_init_79 : decode cX1_init 79 = .ok (.iconst 4, 1) := by decide +kernel
theorem dX1_init_80 : decode cX1_init 80 = .ok (.putfield 44, 3) := by decide +kernel
theorem dX1_init_83 : decode cX1_init 83 = .ok (.aload_n 0, 1) := by decide +kernel
theorem dX1_init_84 : decode cX1_init 84 = .ok (.iconst 0, 1) := by decide +kernel
theorem dX1_init_85 : decode cX1_init 85 = .ok (.putfield 47, 3) := by decide +kernel
theorem dX1_init_88 : decode cX1_init 88 = .ok (.aload_n 0, 1) := by decide +kernel
theorem dX1_init_89 : decode cX1_init 89 = .ok (.iconst 0, 1) := by decide +kernel
theorem dX1_init_90 : decode cX1_init 90 = .ok (.putfield 50, 3) := by decide +kernel
theorem dX1_init_93 : decode cX1_init 93 = .ok (.iconst 0, 1) := by decide +kernel
theorem dX1_init_94 : decode cX1_init 94 = .ok (.istore_n 1, 1) := by decide +kernel
theorem dX1_init_95 : decode cX1_init 95 = .ok (.iload_n 1, 1) := by decide +kernel
theorem dX1_init_96 : decode cX1_init 96 = .ok (.bipush 6, 2) := by decide +kernel
theorem dX1_init_98 : decode cX1_init 98 = .ok (.if_icmp .ge 18, 3) := by decide +kernel
theorem dX1_init_101 : decode cX1_init 101 = .ok (.aload_n 0, 1) := by decide +kernel
theorem dX1_init_102 : decode cX1_init 102 = .ok (.getfield 9, 3) := by decide +kernel
theorem dX1_init_105 : decode cX1_init 105 = .ok (.iload_n 1, 1) := by decide +kernel
theorem dX1_init_106 : decode cX1_init 106 = .ok (.iload_n 1, 1) := by decide +kernel
theorem dX1_init_107 : decode cX1_init 107 = .ok (.invokestatic 53, 3) := by decide +kernel
theorem dX1_init_110 : decode cX1_init 110 = .ok (.iinc 1 1, 3) := by decide +kernel
theorem dX1_init_113 : decode cX1_init 113 = .ok (.goto (-18), 3) := by decide +kernel
theorem dX1_init_116 : decode cX1_init 116 = .ok (.return_, 1) := by decide +kernel
set_option maxRecDepth 20000 in
theorem ggX1_copyFrom_X3_copyRow : GoodIn wsX1_copyFrom wsX3_copyRow := goodIn_r _ [16, 17, 18, 19, 20, 21, 22, 23, 24] (by decide +kernel) (by decide +kernel)
set_option maxRecDepth 20000 in
theorem gX1_copyFrom_X3_copyRow_n57 : GoodIn wsX1_copyFrom (wsX3_copyRow) := ggX1_copyFrom_X3_copyRow
set_option maxRecDepth 20000 in
theorem ggX1_copyFrom_X3_copyLongRow : GoodIn wsX1_copyFrom wsX3_copyLongRow := goodIn_r _ [26, 17, 18, 19, 20, 21, 22, 23, 24] (by decide +kernel) (by decide +kernel)
set_option maxRecDepth 20000 in
theorem gX1_copyFrom_X3_copyLongRow_n61 : GoodIn wsX1_copyFrom (wsX3_copyLongRow) := ggX1_copyFrom_X3_copyLongRow
theorem dX1_copyFrom_0 : decode cX1_copyFrom 0 = .ok (.aload_n 1, 1) := by decide +kernel
theorem dX1_copyFrom_1 : decode cX1_copyFrom 1 = .ok (.ifnonnull 4, 3) := by decide +kernel
theorem dX1_copyFrom_4 : decode cX1_copyFrom 4 = .ok (.return_, 1) := by decide +kernel
theorem dX1_copyFrom_5 : decode cX1_copyFrom 5 = .ok (.aload_n 1, 1) := by decide +kernel
theorem dX1_copyFrom_6 : decode cX1_copyFrom 6 = .ok (.getfield 9, 3) := by decide +kernel
theorem dX1_copyFrom_9 : decode cX1_copyFrom 9 = .ok (.aload_n 0, 1) := by decide +kernel
theorem dX1_copyFrom_10 : decode cX1_copyFrom 10 = .ok (.getfield 9, 3) := by decide +kernel
theorem dX1_copyFrom_13 : decode cX1_copyFrom 13 = .ok (.invokestatic 57, 3) := by decide +kernel
theorem dX1_copyFrom_16 : decode cX1_copyFrom 16 = .ok (.aload_n 1, 1) := by decide +kernel
theorem dX1_copyFrom_17 : decode cX1_copyFrom 17 = .ok (.getfield 15, 3) := by decide +kernel
theorem dX1_copyFrom_20 : decode cX1_copyFrom 20 = .ok (.aload_n 0, 1) := by decide +kernel
theorem dX1_copyFrom_21 : decode cX1_copyFrom 21 = .ok (.getfield 15, 3) := by decide +kernel
theorem dX1_copyFrom_24 : decode cX1_copyFrom 24 = .ok (.invokestatic 57, 3) := by decide +kernel
theorem dX1_copyFrom_27 : decode cX1_copyFrom 27 = .ok (.aload_n 1, 1) := by decide +kernel
theorem dX1_copyFrom_28 : decode cX1_copyFrom 28 = .ok (.getfield 18, 3) := by decide +kernel
theorem dX1_copyFrom_31 : decode cX1_copyFrom 31 = .ok (.aload_n 0, 1) := by decide +kernel
theorem dX1_copyFrom_32 : decode cX1_copyFrom 32 = .ok (.getfield 18, 3) := by decide +kernel
theorem dX1_copyFrom_35 : decode cX1_copyFrom 35 = .ok (.invokestatic 57, 3) := by decide +kernel
theorem dX1_copyFrom_38 : decode cX1_copyFrom 38 = .ok (.aload_n 1, 1) := by decide +kernel
theorem dX1_copyFrom_39 : decode cX1_copyFrom 39 = .ok (.getfield 21, 3) := by decide +kernel
theorem dX1_copyFrom_42 : decode cX1_copyFrom 42 = .ok (.aload_n 0, 1) := by decide +kernel
theorem dX1_copyFrom_43 : decode cX1_copyFrom 43 = .ok (.getfield 21, 3) := by decide +kernel
theorem dX1_copyFrom_46 : decode cX1_copyFrom 46 = .ok (.invokestatic 57, 3) := by decide +kernel
theorem dX1_copyFrom_49 : decode cX1_copyFrom 49 = .ok (.aload_n 1, 1) := by decide +kernel
theorem dX1_copyFrom_50 : decode cX1_copyFrom 50 = .ok (.getfield 24, 3) := by decide +kernel
theorem dX1_copyFrom_53 : decode cX1_copyFrom 53 = .ok (.aload_n 0, 1) := by decide +kernel
theorem dX1_copyFrom_54 : decode cX1_copyFrom 54 = .ok (.getfield 24, 3) := by decide +kernel
theorem dX1_copyFrom_57 : decode cX1_copyFrom 57 = .ok (.invokestatic 57, 3) := by decide +kernel
theorem dX1_copyFrom_60 : decode cX1_copyFrom 60 = .ok (.aload_n 1, 1) := by decide +kernel
theorem dX1_copyFrom_61 : decode cX1_copyFrom 61 = .ok (.getfield 27, 3) := by decide +kernel
theorem dX1_copyFrom_64 : decode cX1_copyFrom 64 = .ok (.aload_n 0, 1) := by decide +kernel
theorem dX1_copyFrom_65 : decode cX1_copyFrom 65 = .ok (.getfield 27, 3) := by decide +kernel
theorem dX1_copyFrom_68 : decode cX1_copyFrom 68 = .ok (.invokestatic 57, 3) := by decide +kernel
theorem dX1_copyFrom_71 : decode cX1_copyFrom 71 = .ok (.aload_n 1, 1) := by decide +kernel
theorem dX1_copyFrom_72 : decode cX1_copyFrom 72 = .ok (.getfield 30, 3) := by decide +kernel
theorem dX1_copyFrom_75 : decode cX1_copyFrom 75 = .ok (.aload_n 0, 1) := by decide +kernel
theorem dX1_copyFrom_76 : decode cX1_copyFrom 76 = .ok (.getfield 30, 3) := by decide +kernel
theorem dX1_copyFrom_79 : decode cX1_copyFrom 79 = .ok (.invokestatic 57, 3) := by decide +kernel
theorem dX1_copyFrom_82 : decode cX1_copyFrom 82 = .ok (.aload_n 1, 1) := by decide +kernel
theorem dX1_copyFrom_83 : decode cX1_copyFrom 83 = .ok (.getfield 33, 3) := by decide +kernel
theorem dX1_copyFrom_86 : decode cX1_copyFrom 86 = .ok (.aload_n 0, 1) := by decide +kernel
theorem dX1_copyFrom_87 : decode cX1_copyFrom 87 = .ok (.getfield 33, 3) := by decide +kernel
theorem dX1_copyFrom_90 : decode cX1_copyFrom 90 = .ok (.invokestatic 61, 3) := by decide +kernel
theorem dX1_copyFrom_93 : decode cX1_copyFrom 93 = .ok (.aload_n 0, 1) := by decide +kernel
theorem dX1_copyFrom_94 : decode cX1_copyFrom 94 = .ok (.aload_n 1, 1) := by decide +kernel
theorem dX1_copyFrom_95 : decode cX1_copyFrom 95 = .ok (.getfield 37, 3) := by decide +kernel
theorem dX1_copyFrom_98 : decode cX1_copyFrom 98 = .ok (.putfield 37, 3) := by decide +kernel
end
section
theorem dX1_copyFrom_101 : decode cX1_copyFrom 101 = .ok (.aload_n 0, 1) := by decide +kernel
theorem dX1_copyFrom_102 : decode cX1_copyFrom 102 = .ok (.aload_n 1, 1) := by decide +kernel
theorem dX1_copyFrom_103 : decode cX1_copyFrom 103 = .ok (.getfield 41, 3) := by decide +kernel
theorem dX1_copyFrom_106 : decode cX1_copyFrom 106 = .ok (.putfield 41, 3) := by decide +kernel
theorem dX1_copyFrom_109 : decode cX1_copyFrom 109 = .ok (.aload_n 0, 1) := by decide +kernel
theorem dX1_copyFrom_110 : decode cX1_copyFrom 110 = .ok (.aload_n 1, 1) := by decide +kernel
theorem dX1_copyFrom_111 : decode cX1_copyFrom 111 = .ok (.getfield 44, 3) := by decide +kernel
theorem dX1_copyFrom_114 : decode cX1_copyFrom 114 = .ok (.putfield 44, 3) := by decide +kernel
theorem dX1_copyFrom_117 : decode cX1_copyFrom 117 = .ok (.aload_n 0, 1) := by decide +kernel
theorem dX1_copyFrom_118 : decode cX1_copyFrom 118 = .ok (.aload_n 1, 1) := by decide +kernel
theorem dX1_copyFrom_119 : decode cX1_copyFrom 119 = .ok (.getfield 47, 3) := by decide +kernel
theorem dX1_copyFrom_122 : decode cX1_copyFrom 122 = .ok (.putfield 47, 3) := by decide +kernel
theorem dX1_copyFrom_125 : decode cX1_copyFrom 125 = .ok (.aload_n 0, 1) := by decide +kernel
theorem dX1_copyFrom_126 : decode cX1_copyFrom 126 = .ok (.aload_n 1, 1) := by decide +kernel
theorem dX1_copyFrom_127 : decode cX1_copyFrom 127 = .ok (.getfield 50, 3) := by decide +kernel
theorem dX1_copyFrom_130 : decode cX1_copyFrom 130 = .ok (.putfield 50, 3) := by decide +kernel
theorem dX1_copyFrom_133 : decode cX1_copyFrom 133 = .ok (.return_, 1) := by decide +kernel
theorem dX1_has_0 : decode cX1_has 0 = .ok (.iload_n 1, 1) := by decide +kernel
theorem dX1_has_1 : decode cX1_has 1 = .ok (.ifCond .lt 15, 3) := by decide +kernel
theorem dX1_has_4 : decode cX1_has 4 = .ok (.iload_n 1, 1) := by decide +kernel
theorem dX1_has_5 : decode cX1_has 5 = .ok (.aload_n 0, 1) := by decide +kernel
theorem dX1_has_6 : decode cX1_has 6 = .ok (.getfield 37, 3) := by decide +kernel
theorem dX1_has_9 : decode cX1_has 9 = .ok (.if_icmp .ge 7, 3) := by decide +kernel
theorem dX1_has_12 : decode cX1_has 12 = .ok (.iconst 1, 1) := by decide +kernel
theorem dX1_has_13 : decode cX1_has 13 = .ok (.goto 4, 3) := by decide +kernel
theorem dX1_has_16 : decode cX1_has 16 = .ok (.iconst 0, 1) := by decide +kernel
theorem dX1_has_17 : decode cX1_has 17 = .ok (.ireturn, 1) := by decide +kernel
set_option maxRecDepth 20000 in
theorem ggX1_isDropped_X3_at : GoodIn wsX1_isDropped wsX3_at := goodIn_r _ [4] (by decide +kernel) (by decide +kernel)
set_option maxRecDepth 20000 in
theorem gX1_isDropped_X3_at_n65 : GoodIn wsX1_isDropped (wsX3_at) := ggX1_isDropped_X3_at
theorem dX1_isDropped_0 : decode cX1_isDropped 0 = .ok (.aload_n 0, 1) := by decide +kernel
theorem dX1_isDropped_1 : decode cX1_isDropped 1 = .ok (.getfield 18, 3) := by decide +kernel
theorem dX1_isDropped_4 : decode cX1_isDropped 4 = .ok (.iload_n 1, 1) := by decide +kernel
theorem dX1_isDropped_5 : decode cX1_isDropped 5 = .ok (.invokestatic 65, 3) := by decide +kernel
theorem dX1_isDropped_8 : decode cX1_isDropped 8 = .ok (.iconst 2, 1) := by decide +kernel
theorem dX1_isDropped_9 : decode cX1_isDropped 9 = .ok (.if_icmp .ne 7, 3) := by decide +kernel
theorem dX1_isDropped_12 : decode cX1_isDropped 12 = .ok (.iconst 1, 1) := by decide +kernel
theorem dX1_isDropped_13 : decode cX1_isDropped 13 = .ok (.goto 4, 3) := by decide +kernel
theorem dX1_isDropped_16 : decode cX1_isDropped 16 = .ok (.iconst 0, 1) := by decide +kernel
theorem dX1_isDropped_17 : decode cX1_isDropped 17 = .ok (.ireturn, 1) := by decide +kernel
set_option maxRecDepth 20000 in
theorem ggX1_wasTold_X3_at : GoodIn wsX1_wasTold wsX3_at := goodIn_r _ [4] (by decide +kernel) (by decide +kernel)
set_option maxRecDepth 20000 in
theorem gX1_wasTold_X3_at_n65 : GoodIn wsX1_wasTold (wsX3_at) := ggX1_wasTold_X3_at
theorem dX1_wasTold_0 : decode cX1_wasTold 0 = .ok (.aload_n 0, 1) := by decide +kernel
theorem dX1_wasTold_1 : decode cX1_wasTold 1 = .ok (.getfield 21, 3) := by decide +kernel
theorem dX1_wasTold_4 : decode cX1_wasTold 4 = .ok (.iload_n 1, 1) := by decide +kernel
theorem dX1_wasTold_5 : decode cX1_wasTold 5 = .ok (.invokestatic 65, 3) := by decide +kernel
theorem dX1_wasTold_8 : decode cX1_wasTold 8 = .ok (.iconst (-1), 1) := by decide +kernel
theorem dX1_wasTold_9 : decode cX1_wasTold 9 = .ok (.if_icmp .ne 7, 3) := by decide +kernel
theorem dX1_wasTold_12 : decode cX1_wasTold 12 = .ok (.iconst 1, 1) := by decide +kernel
theorem dX1_wasTold_13 : decode cX1_wasTold 13 = .ok (.goto 4, 3) := by decide +kernel
theorem dX1_wasTold_16 : decode cX1_wasTold 16 = .ok (.iconst 0, 1) := by decide +kernel
theorem dX1_wasTold_17 : decode cX1_wasTold 17 = .ok (.ireturn, 1) := by decide +kernel
set_option maxRecDepth 20000 in
theorem ggX1_rankOf_X3_at : GoodIn wsX1_rankOf wsX3_at := goodIn_r _ [4] (by decide +kernel) (by decide +kernel)
set_option maxRecDepth 20000 in
theorem gX1_rankOf_X3_at_n65 : GoodIn wsX1_rankOf (wsX3_at) := ggX1_rankOf_X3_at
theorem dX1_rankOf_0 : decode cX1_rankOf 0 = .ok (.iconst 0, 1) := by decide +kernel
theorem dX1_rankOf_1 : decode cX1_rankOf 1 = .ok (.istore_n 2, 1) := by decide +kernel
theorem dX1_rankOf_2 : decode cX1_rankOf 2 = .ok (.iload_n 2, 1) := by decide +kernel
theorem dX1_rankOf_3 : decode cX1_rankOf 3 = .ok (.bipush 6, 2) := by decide +kernel
theorem dX1_rankOf_5 : decode cX1_rankOf 5 = .ok (.if_icmp .ge 23, 3) := by decide +kernel
theorem dX1_rankOf_8 : decode cX1_rankOf 8 = .ok (.aload_n 0, 1) := by decide +kernel
theorem dX1_rankOf_9 : decode cX1_rankOf 9 = .ok (.getfield 9, 3) := by decide +kernel
theorem dX1_rankOf_12 : decode cX1_rankOf 12 = .ok (.iload_n 2, 1) := by decide +kernel
theorem dX1_rankOf_13 : decode cX1_rankOf 13 = .ok (.invokestatic 65, 3) := by decide +kernel
theorem dX1_rankOf_16 : decode cX1_rankOf 16 = .ok (.iload_n 1, 1) := by decide +kernel
theorem dX1_rankOf_17 : decode cX1_rankOf 17 = .ok (.if_icmp .ne 5, 3) := by decide +kernel
theorem dX1_rankOf_20 : decode cX1_rankOf 20 = .ok (.iload_n 2, 1) := by decide +kernel
theorem dX1_rankOf_21 : decode cX1_rankOf 21 = .ok (.ireturn, 1) := by decide +kernel
theorem dX1_rankOf_22 : decode cX1_rankOf 22 = .ok (.iinc 2 1, 3) := by decide +kernel
theorem dX1_rankOf_25 : decode cX1_rankOf 25 = .ok (.goto (-23), 3) := by decide +kernel
theorem dX1_rankOf_28 : decode cX1_rankOf 28 = .ok (.iconst (-1), 1) := by decide +kernel
theorem dX1_rankOf_29 : decode cX1_rankOf 29 = .ok (.ireturn, 1) := by decide +kernel
set_option maxRecDepth 20000 in
theorem ggX1_changeRank_X1_rankOf : GoodIn wsX1_changeRank wsX1_rankOf := goodIn_r _ [8, 1, 9, 10, 11, 14, 15, 16, 17, 18, 19, 20, 21, 22, 23, 24, 25, 26] (by decide +kernel) (by decide +kernel)
set_option maxRecDepth 20000 in
theorem gX1_changeRank_X1_rankOf : GoodIn wsX1_changeRank (wsV RX1 69 RX1 yX1_rankOf wsX1_rankOf) := goodIn_app (goodIn_of _ (by decide +kernel)) ggX1_changeRank_X1_rankOf
set_option maxRecDepth 20000 in
theorem ggX1_changeRank_X3_at : GoodIn wsX1_changeRank wsX3_at := goodIn_r _ [11] (by decide +kernel) (by decide +kernel)
set_option maxRecDepth 20000 in
theorem gX1_changeRank_X3_at_n65 : GoodIn wsX1_changeRank (wsX3_at) := ggX1_changeRank_X3_at
set_option maxRecDepth 20000 in
theorem ggX1_changeRank_X3_put : GoodIn wsX1_changeRank wsX3_put := goodIn_r _ [13] (by decide +kernel) (by decide +kernel)
set_option maxRecDepth 20000 in
theorem gX1_changeRank_X3_put_n53 : GoodIn wsX1_changeRank (wsX3_put) := ggX1_changeRank_X3_put
theorem dX1_changeRank_0 : decode cX1_changeRank 0 = .ok (.aload_n 0, 1) := by decide +kernel
theorem dX1_changeRank_1 : decode cX1_changeRank 1 = .ok (.iload_n 1, 1) := by decide +kernel
theorem dX1_changeRank_2 : decode cX1_changeRank 2 = .ok (.invokevirtual 69, 3) := by decide +kernel
theorem dX1_changeRank_5 : decode cX1_changeRank 5 = .ok (.istore_n 3, 1) := by decide +kernel
theorem dX1_changeRank_6 : decode cX1_changeRank 6 = .ok (.aload_n 0, 1) := by decide +kernel
theorem dX1_changeRank_7 : decode cX1_changeRank 7 = .ok (.getfield 9, 3) := by decide +kernel
theorem dX1_changeRank_10 : decode cX1_changeRank 10 = .ok (.iload_n 3, 1) := by decide +kernel
theorem dX1_changeRank_11 : decode cX1_changeRank 11 = .ok (.aload_n 0, 1) := by decide +kernel
theorem dX1_changeRank_12 : decode cX1_changeRank 12 = .ok (.getfield 9, 3) := by decide +kernel
theorem dX1_changeRank_15 : decode cX1_changeRank 15 = .ok (.iload_n 2, 1) := by decide +kernel
theorem dX1_changeRank_16 : decode cX1_changeRank 16 = .ok (.invokestatic 65, 3) := by decide +kernel
theorem dX1_changeRank_19 : decode cX1_changeRank 19 = .ok (.invokestatic 53, 3) := by decide +kernel
theorem dX1_changeRank_22 : decode cX1_changeRank 22 = .ok (.aload_n 0, 1) := by decide +kernel
theorem dX1_changeRank_23 : decode cX1_changeRank 23 = .ok (.getfield 9, 3) := by decide +kernel
theorem dX1_changeRank_26 : decode cX1_changeRank 26 = .ok (.iload_n 2, 1) := by decide +kernel
theorem dX1_changeRank_27 : decode cX1_changeRank 27 = .ok (.iload_n 1, 1) := by decide +kernel
theorem dX1_changeRank_28 : decode cX1_changeRank 28 = .ok (.invokestatic 53, 3) := by decide +kernel
theorem dX1_changeRank_31 : decode cX1_changeRank 31 = .ok (.iconst 0, 1) := by decide +kernel
theorem dX1_changeRank_32 : decode cX1_changeRank 32 = .ok (.istore 4, 2) := by decide +kernel
theorem dX1_changeRank_34 : decode cX1_changeRank 34 = .ok (.iload 4, 2) := by decide +kernel
theorem dX1_changeRank_36 : decode cX1_changeRank 36 = .ok (.aload_n 0, 1) := by decide +kernel
theorem dX1_changeRank_37 : decode cX1_changeRank 37 = .ok (.getfield 37, 3) := by decide +kernel
theorem dX1_changeRank_40 : decode cX1_changeRank 40 = .ok (.if_icmp .ge 32, 3) := by decide +kernel
theorem dX1_changeRank_43 : decode cX1_changeRank 43 = .ok (.aload_n 0, 1) := by decide +kernel
theorem dX1_changeRank_44 : decode cX1_changeRank 44 = .ok (.getfield 18, 3) := by decide +kernel
theorem dX1_changeRank_47 : decode cX1_changeRank 47 = .ok (.iload 4, 2) := by decide +kernel
theorem dX1_changeRank_49 : decode cX1_changeRank 49 = .ok (.invokestatic 65, 3) := by decide +kernel
theorem dX1_changeRank_52 : decode cX1_changeRank 52 = .ok (.iconst 1, 1) := by decide +kernel
theorem dX1_changeRank_53 : decode cX1_changeRank 53 = .ok (.if_icmp .ne 13, 3) := by decide +kernel
theorem dX1_changeRank_56 : decode cX1_changeRank 56 = .ok (.aload_n 0, 1) := by decide +kernel
theorem dX1_changeRank_57 : decode cX1_changeRank 57 = .ok (.getfield 18, 3) := by decide +kernel
theorem dX1_changeRank_60 : decode cX1_changeRank 60 = .ok (.iload 4, 2) := by decide +kernel
theorem dX1_changeRank_62 : decode cX1_changeRank 62 = .ok (.iconst 0, 1) := by decide +kernel
theorem dX1_changeRank_63 : decode cX1_changeRank 63 = .ok (.invokestatic 53, 3) := by decide +kernel
theorem dX1_changeRank_66 : decode cX1_changeRank 66 = .ok (.iinc 4 1, 3) := by decide +kernel
theorem dX1_changeRank_69 : decode cX1_changeRank 69 = .ok (.goto (-35), 3) := by decide +kernel
theorem dX1_changeRank_72 : decode cX1_changeRank 72 = .ok (.iload_n 3, 1) := by decide +kernel
theorem dX1_changeRank_73 : decode cX1_changeRank 73 = .ok (.ireturn, 1) := by decide +kernel
set_option maxRecDepth 20000 in
theorem ggX1_greatestOf_X3_at : GoodIn wsX1_greatestOf wsX3_at := goodIn_r _ [4] (by decide +kernel) (by decide +kernel)
set_option maxRecDepth 20000 in
theorem gX1_greatestOf_X3_at_n65 : GoodIn wsX1_greatestOf (wsX3_at) := ggX1_greatestOf_X3_at
theorem dX1_greatestOf_0 : decode cX1_greatestOf 0 = .ok (.iconst 5, 1) := by decide +kernel
theorem dX1_greatestOf_1 : decode cX1_greatestOf 1 = .ok (.istore_n 2, 1) := by decide +kernel
theorem dX1_greatestOf_2 : decode cX1_greatestOf 2 = .ok (.iload_n 2, 1) := by decide +kernel
theorem dX1_greatestOf_3 : decode cX1_greatestOf 3 = .ok (.ifCond .lt 41, 3) := by decide +kernel
theorem dX1_greatestOf_6 : decode cX1_greatestOf 6 = .ok (.aload_n 0, 1) := by decide +kernel
theorem dX1_greatestOf_7 : decode cX1_greatestOf 7 = .ok (.getfield 9, 3) := by decide +kernel
theorem dX1_greatestOf_10 : decode cX1_greatestOf 10 = .ok (.iload_n 2, 1) := by decide +kernel
theorem dX1_greatestOf_11 : decode cX1_greatestOf 11 = .ok (.invokestatic 65, 3) := by decide +kernel
theorem dX1_greatestOf_14 : decode cX1_greatestOf 14 = .ok (.istore_n 3, 1) := by decide +kernel
theorem dX1_greatestOf_15 : decode cX1_greatestOf 15 = .ok (.iload_n 1, 1) := by decide +kernel
theorem dX1_greatestOf_16 : decode cX1_greatestOf 16 = .ok (.iconst 2, 1) := by decide +kernel
theorem dX1_greatestOf_17 : decode cX1_greatestOf 17 = .ok (.iload_n 3, 1) := by decide +kernel
theorem dX1_greatestOf_18 : decode cX1_greatestOf 18 = .ok (.imul, 1) := by decide +kernel
theorem dX1_greatestOf_19 : decode cX1_greatestOf 19 = .ok (.ishr, 1) := by decide +kernel
theorem dX1_greatestOf_20 : decode cX1_greatestOf 20 = .ok (.iconst 3, 1) := by decide +kernel
theorem dX1_greatestOf_21 : decode cX1_greatestOf 21 = .ok (.iand, 1) := by decide +kernel
theorem dX1_greatestOf_22 : decode cX1_greatestOf 22 = .ok (.istore 4, 2) := by decide +kernel
theorem dX1_greatestOf_24 : decode cX1_greatestOf 24 = .ok (.iload 4, 2) := by decide +kernel
theorem dX1_greatestOf_26 : decode cX1_greatestOf 26 = .ok (.ifCond .eq 12, 3) := by decide +kernel
theorem dX1_greatestOf_29 : decode cX1_greatestOf 29 = .ok (.iconst 2, 1) := by decide +kernel
theorem dX1_greatestOf_30 : decode cX1_greatestOf 30 = .ok (.iload_n 3, 1) := by decide +kernel
theorem dX1_greatestOf_31 : decode cX1_greatestOf 31 = .ok (.imul, 1) := by decide +kernel
theorem dX1_greatestOf_32 : decode cX1_greatestOf 32 = .ok (.iload 4, 2) := by decide +kernel
theorem dX1_greatestOf_34 : decode cX1_greatestOf 34 = .ok (.iconst 1, 1) := by decide +kernel
theorem dX1_greatestOf_35 : decode cX1_greatestOf 35 = .ok (.ishr, 1) := by decide +kernel
theorem dX1_greatestOf_36 : decode cX1_greatestOf 36 = .ok (.iadd, 1) := by decide +kernel
theorem dX1_greatestOf_37 : decode cX1_greatestOf 37 = .ok (.ireturn, 1) := by decide +kernel
theorem dX1_greatestOf_38 : decode cX1_greatestOf 38 = .ok (.iinc 2 (-1), 3) := by decide +kernel
theorem dX1_greatestOf_41 : decode cX1_greatestOf 41 = .ok (.goto (-39), 3) := by decide +kernel
theorem dX1_greatestOf_44 : decode cX1_greatestOf 44 = .ok (.iconst (-1), 1) := by decide +kernel
theorem dX1_greatestOf_45 : decode cX1_greatestOf 45 = .ok (.ireturn, 1) := by decide +kernel
set_option maxRecDepth 20000 in
theorem ggX1_isLess_X1_greatestOf : GoodIn wsX1_isLess wsX1_greatestOf := goodIn_r _ [5, 6, 7, 8, 9, 12, 13, 14, 15, 16, 17, 18, 19, 20, 21, 22, 23, 24] (by decide +kernel) (by decide +kernel)
set_option maxRecDepth 20000 in
theorem gX1_isLess_X1_greatestOf : GoodIn wsX1_isLess (wsV RX1 73 RX1 yX1_greatestOf wsX1_greatestOf) := goodIn_app (goodIn_of _ (by decide +kernel)) ggX1_isLess_X1_greatestOf
set_option maxRecDepth 20000 in
theorem ggX1_isLess_X3_isIn : GoodIn wsX1_isLess wsX3_isIn := goodIn_r _ [11] (by decide +kernel) (by decide +kernel)
set_option maxRecDepth 20000 in
theorem gX1_isLess_X3_isIn_n76 : GoodIn wsX1_isLess (wsX3_isIn) := ggX1_isLess_X3_isIn
theorem dX1_isLess_0 : decode cX1_isLess 0 = .ok (.aload_n 0, 1) := by decide +kernel
theorem dX1_isLess_1 : decode cX1_isLess 1 = .ok (.iload_n 1, 1) := by decide +kernel
theorem dX1_isLess_2 : decode cX1_isLess 2 = .ok (.iload_n 2, 1) := by decide +kernel
theorem dX1_isLess_3 : decode cX1_isLess 3 = .ok (.ixor, 1) := by decide +kernel
theorem dX1_isLess_4 : decode cX1_isLess 4 = .ok (.invokevirtual 73, 3) := by decide +kernel
theorem dX1_isLess_7 : decode cX1_isLess 7 = .ok (.istore_n 3, 1) := by decide +kernel
theorem dX1_isLess_8 : decode cX1_isLess 8 = .ok (.iload_n 3, 1) := by decide +kernel
theorem dX1_isLess_9 : decode cX1_isLess 9 = .ok (.iconst (-1), 1) := by decide +kernel
theorem dX1_isLess_10 : decode cX1_isLess 10 = .ok (.if_icmp .eq 16, 3) := by decide +kernel
theorem dX1_isLess_13 : decode cX1_isLess 13 = .ok (.iload_n 2, 1) := by decide +kernel
theorem dX1_isLess_14 : decode cX1_isLess 14 = .ok (.i2l, 1) := by decide +kernel
theorem dX1_isLess_15 : decode cX1_isLess 15 = .ok (.iload_n 3, 1) := by decide +kernel
theorem dX1_isLess_16 : decode cX1_isLess 16 = .ok (.invokestatic 76, 3) := by decide +kernel
theorem dX1_isLess_19 : decode cX1_isLess 19 = .ok (.ifCond .eq 7, 3) := by decide +kernel
theorem dX1_isLess_22 : decode cX1_isLess 22 = .ok (.iconst 1, 1) := by decide +kernel
theorem dX1_isLess_23 : decode cX1_isLess 23 = .ok (.goto 4, 3) := by decide +kernel
theorem dX1_isLess_26 : decode cX1_isLess 26 = .ok (.iconst 0, 1) := by decide +kernel
theorem dX1_isLess_27 : decode cX1_isLess 27 = .ok (.ireturn, 1) := by decide +kernel
set_option maxRecDepth 20000 in
theorem ggX1_howManyLessThan_X1_isDropped : GoodIn wsX1_howManyLessThan wsX1_isDropped := goodIn_r _ [7, 8, 9, 10, 11, 23, 24, 25, 26, 27, 28, 29, 30, 31, 32, 33, 34, 35] (by decide +kernel) (by decide +kernel)
set_option maxRecDepth 20000 in
theorem gX1_howManyLessThan_X1_isDropped : GoodIn wsX1_howManyLessThan (wsV RX1 80 RX1 yX1_isDropped wsX1_isDropped) := goodIn_app (goodIn_of _ (by decide +kernel)) ggX1_howManyLessThan_X1_isDropped
set_option maxRecDepth 20000 in
theorem ggX1_howManyLessThan_X3_at : GoodIn wsX1_howManyLessThan wsX3_at := goodIn_r _ [11] (by decide +kernel) (by decide +kernel)
set_option maxRecDepth 20000 in
theorem gX1_howManyLessThan_X3_at_n65 : GoodIn wsX1_howManyLessThan (wsX3_at) := ggX1_howManyLessThan_X3_at
set_option maxRecDepth 20000 in
theorem ggX1_howManyLessThan_X1_isLess : GoodIn wsX1_howManyLessThan wsX1_isLess := goodIn_r _ [15, 16, 17, 18, 6, 19, 20, 9, 10, 11, 21, 22, 23, 24, 25, 26, 27, 28, 29, 30, 31, 32, 33, 34, 35] (by decide +kernel) (by decide +kernel)
set_option maxRecDepth 20000 in
theorem gX1_howManyLessThan_X1_isLess : GoodIn wsX1_howManyLessThan (wsV RX1 84 RX1 yX1_isLess wsX1_isLess) := goodIn_app (goodIn_of _ (by decide +kernel)) ggX1_howManyLessThan_X1_isLess
theorem dX1_howManyLessThan_0 : decode cX1_howManyLessThan 0 = .ok (.iconst 0, 1) := by decide +kernel
theorem dX1_howManyLessThan_1 : decode cX1_howManyLessThan 1 = .ok (.istore_n 2, 1) := by decide +kernel
theorem dX1_howManyLessThan_2 : decode cX1_howManyLessThan 2 = .ok (.iconst 0, 1) := by decide +kernel
theorem dX1_howManyLessThan_3 : decode cX1_howManyLessThan 3 = .ok (.istore_n 3, 1) := by decide +kernel
theorem dX1_howManyLessThan_4 : decode cX1_howManyLessThan 4 = .ok (.iload_n 3, 1) := by decide +kernel
theorem dX1_howManyLessThan_5 : decode cX1_howManyLessThan 5 = .ok (.aload_n 0, 1) := by decide +kernel
theorem dX1_howManyLessThan_6 : decode cX1_howManyLessThan 6 = .ok (.getfield 37, 3) := by decide +kernel
theorem dX1_howManyLessThan_9 : decode cX1_howManyLessThan 9 = .ok (.if_icmp .ge 43, 3) := by decide +kernel
theorem dX1_howManyLessThan_12 : decode cX1_howManyLessThan 12 = .ok (.aload_n 0, 1) := by decide +kernel
theorem dX1_howManyLessThan_13 : decode cX1_howManyLessThan 13 = .ok (.iload_n 3, 1) := by decide +kernel
theorem dX1_howManyLessThan_14 : decode cX1_howManyLessThan 14 = .ok (.invokevirtual 80, 3) := by decide +kernel
theorem dX1_howManyLessThan_17 : decode cX1_howManyLessThan 17 = .ok (.ifCond .ne 29, 3) := by decide +kernel
theorem dX1_howManyLessThan_20 : decode cX1_howManyLessThan 20 = .ok (.aload_n 0, 1) := by decide +kernel
theorem dX1_howManyLessThan_21 : decode cX1_howManyLessThan 21 = .ok (.aload_n 0, 1) := by decide +kernel
theorem dX1_howManyLessThan_22 : decode cX1_howManyLessThan 22 = .ok (.getfield 15, 3) := by decide +kernel
theorem dX1_howManyLessThan_25 : decode cX1_howManyLessThan 25 = .ok (.iload_n 3, 1) := by decide +kernel
theorem dX1_howManyLessThan_26 : decode cX1_howManyLessThan 26 = .ok (.invokestatic 65, 3) := by decide +kernel
theorem dX1_howManyLessThan_29 : decode cX1_howManyLessThan 29 = .ok (.aload_n 0, 1) := by decide +kernel
theorem dX1_howManyLessThan_30 : decode cX1_howManyLessThan 30 = .ok (.getfield 15, 3) := by decide +kernel
theorem dX1_howManyLessThan_33 : decode cX1_howManyLessThan 33 = .ok (.iload_n 1, 1) := by decide +kernel
theorem dX1_howManyLessThan_34 : decode cX1_howManyLessThan 34 = .ok (.invokestatic 65, 3) := by decide +kernel
theorem dX1_howManyLessThan_37 : decode cX1_howManyLessThan 37 = .ok (.invokevirtual 84, 3) := by decide +kernel
theorem dX1_howManyLessThan_40 : decode cX1_howManyLessThan 40 = .ok (.ifCond .eq 6, 3) := by decide +kernel
theorem dX1_howManyLessThan_43 : decode cX1_howManyLessThan 43 = .ok (.iinc 2 1, 3) := by decide +kernel
theorem dX1_howManyLessThan_46 : decode cX1_howManyLessThan 46 = .ok (.iinc 3 1, 3) := by decide +kernel
theorem dX1_howManyLessThan_49 : decode cX1_howManyLessThan 49 = .ok (.goto (-45), 3) := by decide +kernel
theorem dX1_howManyLessThan_52 : decode cX1_howManyLessThan 52 = .ok (.iload_n 2, 1) := by decide +kernel
theorem dX1_howManyLessThan_53 : decode cX1_howManyLessThan 53 = .ok (.ireturn, 1) := by decide +kernel
set_option maxRecDepth 20000 in
theorem ggX1_howMany_X3_at : GoodIn wsX1_howMany wsX3_at := goodIn_r _ [5] (by decide +kernel) (by decide +kernel)
set_option maxRecDepth 20000 in
theorem gX1_howMany_X3_at_n65 : GoodIn wsX1_howMany (wsX3_at) := ggX1_howMany_X3_at
theorem dX1_howMany_0 : decode cX1_howMany 0 = .ok (.iconst 0, 1) := by decide +kernel
theorem dX1_howMany_1 : decode cX1_howMany 1 = .ok (.istore_n 2, 1) := by decide +kernel
theorem dX1_howMany_2 : decode cX1_howMany 2 = .ok (.iconst 0, 1) := by decide +kernel
theorem dX1_howMany_3 : decode cX1_howMany 3 = .ok (.istore_n 3, 1) := by decide +kernel
theorem dX1_howMany_4 : decode cX1_howMany 4 = .ok (.iload_n 3, 1) := by decide +kernel
theorem dX1_howMany_5 : decode cX1_howMany 5 = .ok (.aload_n 0, 1) := by decide +kernel
theorem dX1_howMany_6 : decode cX1_howMany 6 = .ok (.getfield 37, 3) := by decide +kernel
theorem dX1_howMany_9 : decode cX1_howMany 9 = .ok (.if_icmp .ge 29, 3) := by decide +kernel
theorem dX1_howMany_12 : decode cX1_howMany 12 = .ok (.iload_n 2, 1) := by decide +kernel
theorem dX1_howMany_13 : decode cX1_howMany 13 = .ok (.aload_n 0, 1) := by decide +kernel
theorem dX1_howMany_14 : decode cX1_howMany 14 = .ok (.getfield 18, 3) := by decide +kernel
theorem dX1_howMany_17 : decode cX1_howMany 17 = .ok (.iload_n 3, 1) := by decide +kernel
theorem dX1_howMany_18 : decode cX1_howMany 18 = .ok (.invokestatic 65, 3) := by decide +kernel
theorem dX1_howMany_21 : decode cX1_howMany 21 = .ok (.iload_n 1, 1) := by decide +kernel
theorem dX1_howMany_22 : decode cX1_howMany 22 = .ok (.if_icmp .ne 7, 3) := by decide +kernel
theorem dX1_howMany_25 : decode cX1_howMany 25 = .ok (.iconst 1, 1) := by decide +kernel
theorem dX1_howMany_26 : decode cX1_howMany 26 = .ok (.goto 4, 3) := by decide +kernel
theorem dX1_howMany_29 : decode cX1_howMany 29 = .ok (.iconst 0, 1) := by decide +kernel
theorem dX1_howMany_30 : decode cX1_howMany 30 = .ok (.iadd, 1) := by decide +kernel
theorem dX1_howMany_31 : decode cX1_howMany 31 = .ok (.istore_n 2, 1) := by decide +kernel
theorem dX1_howMany_32 : decode cX1_howMany 32 = .ok (.iinc 3 1, 3) := by decide +kernel
theorem dX1_howMany_35 : decode cX1_howMany 35 = .ok (.goto (-31), 3) := by decide +kernel
theorem dX1_howMany_38 : decode cX1_howMany 38 = .ok (.iload_n 2, 1) := by decide +kernel
theorem dX1_howMany_39 : decode cX1_howMany 39 = .ok (.ireturn, 1) := by decide +kernel
set_option maxRecDepth 20000 in
theorem ggX1_emptyClause_X3_at : GoodIn wsX1_emptyClause wsX3_at := goodIn_r _ [5] (by decide +kernel) (by decide +kernel)
set_option maxRecDepth 20000 in
theorem gX1_emptyClause_X3_at_n65 : GoodIn wsX1_emptyClause (wsX3_at) := ggX1_emptyClause_X3_at
theorem dX1_emptyClause_0 : decode cX1_emptyClause 0 = .ok (.iconst 0, 1) := by decide +kernel
theorem dX1_emptyClause_1 : decode cX1_emptyClause 1 = .ok (.istore_n 1, 1) := by decide +kernel
theorem dX1_emptyClause_2 : decode cX1_emptyClause 2 = .ok (.iload_n 1, 1) := by decide +kernel
theorem dX1_emptyClause_3 : decode cX1_emptyClause 3 = .ok (.aload_n 0, 1) := by decide +kernel
theorem dX1_emptyClause_4 : decode cX1_emptyClause 4 = .ok (.getfield 37, 3) := by decide +kernel
theorem dX1_emptyClause_7 : decode cX1_emptyClause 7 = .ok (.if_icmp .ge 22, 3) := by decide +kernel
theorem dX1_emptyClause_10 : decode cX1_emptyClause 10 = .ok (.aload_n 0, 1) := by decide +kernel
theorem dX1_emptyClause_11 : decode cX1_emptyClause 11 = .ok (.getfield 15, 3) := by decide +kernel
theorem dX1_emptyClause_14 : decode cX1_emptyClause 14 = .ok (.iload_n 1, 1) := by decide +kernel
theorem dX1_emptyClause_15 : decode cX1_emptyClause 15 = .ok (.invokestatic 65, 3) := by decide +kernel
theorem dX1_emptyClause_18 : decode cX1_emptyClause 18 = .ok (.ifCond .ne 5, 3) := by decide +kernel
theorem dX1_emptyClause_21 : decode cX1_emptyClause 21 = .ok (.iload_n 1, 1) := by decide +kernel
theorem dX1_emptyClause_22 : decode cX1_emptyClause 22 = .ok (.ireturn, 1) := by decide +kernel
theorem dX1_emptyClause_23 : decode cX1_emptyClause 23 = .ok (.iinc 1 1, 3) := by decide +kernel
theorem dX1_emptyClause_26 : decode cX1_emptyClause 26 = .ok (.goto (-24), 3) := by decide +kernel
theorem dX1_emptyClause_29 : decode cX1_emptyClause 29 = .ok (.iconst (-1), 1) := by decide +kernel
theorem dX1_emptyClause_30 : decode cX1_emptyClause 30 = .ok (.ireturn, 1) := by decide +kernel
set_option maxRecDepth 20000 in
theorem ggX1_bring_X3_holdsAlways : GoodIn wsX1_bring wsX3_holdsAlways := goodIn_r _ [7] (by decide +kernel) (by decide +kernel)
set_option maxRecDepth 20000 in
theorem gX1_bring_X3_holdsAlways_n88 : GoodIn wsX1_bring (wsX3_holdsAlways) := ggX1_bring_X3_holdsAlways
set_option maxRecDepth 20000 in
theorem ggX1_bring_X1_hasAnotherWithin : GoodIn wsX1_bring wsX1_hasAnotherWithin := goodIn_r _ [12, 3, 13, 14, 15, 16, 11, 17, 18, 19, 6, 20, 21, 22, 51, 52, 53, 54, 55, 56, 57, 58, 59, 60, 61, 62, 63] (by decide +kernel) (by decide +kernel)
set_option maxRecDepth 20000 in
theorem gX1_bring_X1_hasAnotherWithin : GoodIn wsX1_bring (wsV RX1 91 RX1 yX1_hasAnotherWithin wsX1_hasAnotherWithin) := goodIn_app (goodIn_of _ (by decide +kernel)) ggX1_bring_X1_hasAnotherWithin
set_option maxRecDepth 20000 in
theorem ggX1_bring_X1_dropAllAround : GoodIn wsX1_bring wsX1_dropAllAround := goodIn_r _ [26, 3, 13, 18, 19, 6, 20, 21, 22, 27, 28, 51, 52, 53, 54, 55, 56, 57, 58, 59, 60, 61, 62, 63] (by decide +kernel) (by decide +kernel)
set_option maxRecDepth 20000 in
theorem gX1_bring_X1_dropAllAround : GoodIn wsX1_bring (wsV RX1 95 RX1 yX1_dropAllAround wsX1_dropAllAround) := goodIn_app (goodIn_of _ (by decide +kernel)) ggX1_bring_X1_dropAllAround
set_option maxRecDepth 20000 in
theorem ggX1_bring_X1_takeIn : GoodIn wsX1_bring wsX1_takeIn := goodIn_r _ [32, 3, 13, 18, 33, 34, 35, 36, 37, 38, 39, 40, 41, 27, 6, 28, 19, 20, 42, 43, 44, 45, 46, 47, 48, 49, 50, 51, 52, 53, 54, 55, 56, 57, 58, 59, 60, 61, 62, 63] (by decide +kernel) (by decide +kernel)
set_option maxRecDepth 20000 in
theorem gX1_bring_X1_takeIn : GoodIn wsX1_bring (wsV RX1 99 RX1 yX1_takeIn wsX1_takeIn) := goodIn_app (goodIn_of _ (by decide +kernel)) ggX1_bring_X1_takeIn
theorem dX1_bring_0 : decode cX1_bring 0 = .ok (.iload_n 1, 1) := by decide +kernel
theorem dX1_bring_1 : decode cX1_bring 1 = .ok (.invokestatic 88, 3) := by decide +kernel
theorem dX1_bring_4 : decode cX1_bring 4 = .ok (.ifCond .eq 15, 3) := by decide +kernel
theorem dX1_bring_7 : decode cX1_bring 7 = .ok (.aload_n 0, 1) := by decide +kernel
theorem dX1_bring_8 : decode cX1_bring 8 = .ok (.dup, 1) := by decide +kernel
theorem dX1_bring_9 : decode cX1_bring 9 = .ok (.getfield 47, 3) := by decide +kernel
theorem dX1_bring_12 : decode cX1_bring 12 = .ok (.iconst 1, 1) := by decide +kernel
theorem dX1_bring_13 : decode cX1_bring 13 = .ok (.iadd, 1) := by decide +kernel
theorem dX1_bring_14 : decode cX1_bring 14 = .ok (.putfield 47, 3) := by decide +kernel
theorem dX1_bring_17 : decode cX1_bring 17 = .ok (.iconst (-1), 1) := by decide +kernel
theorem dX1_bring_18 : decode cX1_bring 18 = .ok (.ireturn, 1) := by decide +kernel
theorem dX1_bring_19 : decode cX1_bring 19 = .ok (.aload_n 0, 1) := by decide +kernel
theorem dX1_bring_20 : decode cX1_bring 20 = .ok (.iload_n 1, 1) := by decide +kernel
theorem dX1_bring_21 : decode cX1_bring 21 = .ok (.invokevirtual 91, 3) := by decide +kernel
theorem dX1_bring_24 : decode cX1_bring 24 = .ok (.ifCond .eq 16, 3) := by decide +kernel
theorem dX1_bring_27 : decode cX1_bring 27 = .ok (.aload_n 0, 1) := by decide +kernel
theorem dX1_bring_28 : decode cX1_bring 28 = .ok (.dup, 1) := by decide +kernel
theorem dX1_bring_29 : decode cX1_bring 29 = .ok (.getfield 50, 3) := by decide +kernel
theorem dX1_bring_32 : decode cX1_bring 32 = .ok (.iconst 1, 1) := by decide +kernel
theorem dX1_bring_33 : decode cX1_bring 33 = .ok (.iadd, 1) := by decide +kernel
theorem dX1_bring_34 : decode cX1_bring 34 = .ok (.putfield 50, 3) := by decide +kernel
theorem dX1_bring_37 : decode cX1_bring 37 = .ok (.bipush (-2), 2) := by decide +kernel
theorem dX1_bring_39 : decode cX1_bring 39 = .ok (.ireturn, 1) := by decide +kernel
theorem dX1_bring_40 : decode cX1_bring 40 = .ok (.aload_n 0, 1) := by decide +kernel
theorem dX1_bring_41 : decode cX1_bring 41 = .ok (.getfield 37, 3) := by decide +kernel
theorem dX1_bring_44 : decode cX1_bring 44 = .ok (.bipush 40, 2) := by decide +kernel
theorem dX1_bring_46 : decode cX1_bring 46 = .ok (.if_icmp .lt 6, 3) := by decide +kernel
theorem dX1_bring_49 : decode cX1_bring 49 = .ok (.ldc 94, 2) := by decide +kernel
theorem dX1_bring_51 : decode cX1_bring 51 = .ok (.ireturn, 1) := by decide +kernel
theorem dX1_bring_52 : decode cX1_bring 52 = .ok (.aload_n 0, 1) := by decide +kernel
theorem dX1_bring_53 : decode cX1_bring 53 = .ok (.iload_n 1, 1) := by decide +kernel
theorem dX1_bring_54 : decode cX1_bring 54 = .ok (.invokevirtual 95, 3) := by decide +kernel
theorem dX1_bring_57 : decode cX1_bring 57 = .ok (.aload_n 0, 1) := by decide +kernel
theorem dX1_bring_58 : decode cX1_bring 58 = .ok (.iload_n 1, 1) := by decide +kernel
theorem dX1_bring_59 : decode cX1_bring 59 = .ok (.iload_n 2, 1) := by decide +kernel
theorem dX1_bring_60 : decode cX1_bring 60 = .ok (.iload_n 3, 1) := by decide +kernel
theorem dX1_bring_61 : decode cX1_bring 61 = .ok (.iload 4, 2) := by decide +kernel
theorem dX1_bring_63 : decode cX1_bring 63 = .ok (.invokevirtual 99, 3) := by decide +kernel
theorem dX1_bring_66 : decode cX1_bring 66 = .ok (.ireturn, 1) := by decide +kernel
set_option maxRecDepth 20000 in
theorem ggX1_hasAnotherWithin_X1_isDropped : GoodIn wsX1_hasAnotherWithin wsX1_isDropped := goodIn_r _ [7, 8, 9, 10, 11, 14, 15, 16, 17, 18, 19, 20, 21, 22, 23, 24, 25, 26] (by decide +kernel) (by decide +kernel)
set_option maxRecDepth 20000 in
theorem gX1_hasAnotherWithin_X1_isDropped : GoodIn wsX1_hasAnotherWithin (wsV RX1 80 RX1 yX1_isDropped wsX1_isDropped) := goodIn_app (goodIn_of _ (by decide +kernel)) ggX1_hasAnotherWithin_X1_isDropped
set_option maxRecDepth 20000 in
theorem ggX1_hasAnotherWithin_X3_at : GoodIn wsX1_hasAnotherWithin wsX3_at := goodIn_r _ [11] (by decide +kernel) (by decide +kernel)
set_option maxRecDepth 20000 in
theorem gX1_hasAnotherWithin_X3_at_n65 : GoodIn wsX1_hasAnotherWithin (wsX3_at) := ggX1_hasAnotherWithin_X3_at
set_option maxRecDepth 20000 in
theorem ggX1_hasAnotherWithin_X3_isWithin : GoodIn wsX1_hasAnotherWithin wsX3_isWithin := goodIn_r _ [13] (by decide +kernel) (by decide +kernel)
set_option maxRecDepth 20000 in
theorem gX1_hasAnotherWithin_X3_isWithin_n103 : GoodIn wsX1_hasAnotherWithin (wsX3_isWithin) := ggX1_hasAnotherWithin_X3_isWithin
theorem dX1_hasAnotherWithin_0 : decode cX1_hasAnotherWithin 0 = .ok (.iconst 0, 1) := by decide +kernel
theorem dX1_hasAnotherWithin_1 : decode cX1_hasAnotherWithin 1 = .ok (.istore_n 2, 1) := by decide +kernel
theorem dX1_hasAnotherWithin_2 : decode cX1_hasAnotherWithin 2 = .ok (.iload_n 2, 1) := by decide +kernel
theorem dX1_hasAnotherWithin_3 : decode cX1_hasAnotherWithin 3 = .ok (.aload_n 0, 1) := by decide +kernel
theorem dX1_hasAnotherWithin_4 : decode cX1_hasAnotherWithin 4 = .ok (.getfield 37, 3) := by decide +kernel
theorem dX1_hasAnotherWithin_7 : decode cX1_hasAnotherWithin 7 = .ok (.if_icmp .ge 34, 3) := by decide +kernel
theorem dX1_hasAnotherWithin_10 : decode cX1_hasAnotherWithin 10 = .ok (.aload_n 0, 1) := by decide +kernel
theorem dX1_hasAnotherWithin_11 : decode cX1_hasAnotherWithin 11 = .ok (.iload_n 2, 1) := by decide +kernel
theorem dX1_hasAnotherWithin_12 : decode cX1_hasAnotherWithin 12 = .ok (.invokevirtual 80, 3) := by decide +kernel
theorem dX1_hasAnotherWithin_15 : decode cX1_hasAnotherWithin 15 = .ok (.ifCond .ne 20, 3) := by decide +kernel
theorem dX1_hasAnotherWithin_18 : decode cX1_hasAnotherWithin 18 = .ok (.aload_n 0, 1) := by decide +kernel
theorem dX1_hasAnotherWithin_19 : decode cX1_hasAnotherWithin 19 = .ok (.getfield 15, 3) := by decide +kernel
theorem dX1_hasAnotherWithin_22 : decode cX1_hasAnotherWithin 22 = .ok (.iload_n 2, 1) := by decide +kernel
theorem dX1_hasAnotherWithin_23 : decode cX1_hasAnotherWithin 23 = .ok (.invokestatic 65, 3) := by decide +kernel
theorem dX1_hasAnotherWithin_26 : decode cX1_hasAnotherWithin 26 = .ok (.iload_n 1, 1) := by decide +kernel
theorem dX1_hasAnotherWithin_27 : decode cX1_hasAnotherWithin 27 = .ok (.invokestatic 103, 3) := by decide +kernel
theorem dX1_hasAnotherWithin_30 : decode cX1_hasAnotherWithin 30 = .ok (.ifCond .eq 5, 3) := by decide +kernel
theorem dX1_hasAnotherWithin_33 : decode cX1_hasAnotherWithin 33 = .ok (.iconst 1, 1) := by decide +kernel
theorem dX1_hasAnotherWithin_34 : decode cX1_hasAnotherWithin 34 = .ok (.ireturn, 1) := by decide +kernel
theorem dX1_hasAnotherWithin_35 : decode cX1_hasAnotherWithin 35 = .ok (.iinc 2 1, 3) := by decide +kernel
theorem dX1_hasAnotherWithin_38 : decode cX1_hasAnotherWithin 38 = .ok (.goto (-36), 3) := by decide +kernel
theorem dX1_hasAnotherWithin_41 : decode cX1_hasAnotherWithin 41 = .ok (.iconst 0, 1) := by decide +kernel
theorem dX1_hasAnotherWithin_42 : decode cX1_hasAnotherWithin 42 = .ok (.ireturn, 1) := by decide +kernel
set_option maxRecDepth 20000 in
theorem ggX1_dropAllAround_X3_at : GoodIn wsX1_dropAllAround wsX3_at := goodIn_r _ [6] (by decide +kernel) (by decide +kernel)
set_option maxRecDepth 20000 in
theorem gX1_dropAllAround_X3_at_n65 : GoodIn wsX1_dropAllAround (wsX3_at) := ggX1_dropAllAround_X3_at
set_option maxRecDepth 20000 in
theorem ggX1_dropAllAround_X3_isWithin : GoodIn wsX1_dropAllAround wsX3_isWithin := goodIn_r _ [8] (by decide +kernel) (by decide +kernel)
set_option maxRecDepth 20000 in
theorem gX1_dropAllAround_X3_isWithin_n103 : GoodIn wsX1_dropAllAround (wsX3_isWithin) := ggX1_dropAllAround_X3_isWithin
set_option maxRecDepth 20000 in
theorem ggX1_dropAllAround_X3_put : GoodIn wsX1_dropAllAround wsX3_put := goodIn_r _ [10] (by decide +kernel) (by decide +kernel)
set_option maxRecDepth 20000 in
theorem gX1_dropAllAround_X3_put_n53 : GoodIn wsX1_dropAllAround (wsX3_put) := ggX1_dropAllAround_X3_put
theorem dX1_dropAllAround_0 : decode cX1_dropAllAround 0 = .ok (.iconst 0, 1) := by decide +kernel
theorem dX1_dropAllAround_1 : decode cX1_dropAllAround 1 = .ok (.istore_n 2, 1) := by decide +kernel
theorem dX1_dropAllAround_2 : decode cX1_dropAllAround 2 = .ok (.iload_n 2, 1) := by decide +kernel
theorem dX1_dropAllAround_3 : decode cX1_dropAllAround 3 = .ok (.aload_n 0, 1) := by decide +kernel
theorem dX1_dropAllAround_4 : decode cX1_dropAllAround 4 = .ok (.getfield 37, 3) := by decide +kernel
theorem dX1_dropAllAround_7 : decode cX1_dropAllAround 7 = .ok (.if_icmp .ge 33, 3) := by decide +kernel
theorem dX1_dropAllAround_10 : decode cX1_dropAllAround 10 = .ok (.iload_n 1, 1) := by decide +kernel
theorem dX1_dropAllAround_11 : decode cX1_dropAllAround 11 = .ok (.aload_n 0, 1) := by decide +kernel
theorem dX1_dropAllAround_12 : decode cX1_dropAllAround 12 = .ok (.getfield 15, 3) := by decide +kernel
theorem dX1_dropAllAround_15 : decode cX1_dropAllAround 15 = .ok (.iload_n 2, 1) := by decide +kernel
theorem dX1_dropAllAround_16 : decode cX1_dropAllAround 16 = .ok (.invokestatic 65, 3) := by decide +kernel
theorem dX1_dropAllAround_19 : decode cX1_dropAllAround 19 = .ok (.invokestatic 103, 3) := by decide +kernel
theorem dX1_dropAllAround_22 : decode cX1_dropAllAround 22 = .ok (.ifCond .eq 12, 3) := by decide +kernel
theorem dX1_dropAllAround_25 : decode cX1_dropAllAround 25 = .ok (.aload_n 0, 1) := by decide +kernel
theorem dX1_dropAllAround_26 : decode cX1_dropAllAround 26 = .ok (.getfield 18, 3) := by decide +kernel
theorem dX1_dropAllAround_29 : decode cX1_dropAllAround 29 = .ok (.iload_n 2, 1) := by decide +kernel
theorem dX1_dropAllAround_30 : decode cX1_dropAllAround 30 = .ok (.iconst 2, 1) := by decide +kernel
theorem dX1_dropAllAround_31 : decode cX1_dropAllAround 31 = .ok (.invokestatic 53, 3) := by decide +kernel
theorem dX1_dropAllAround_34 : decode cX1_dropAllAround 34 = .ok (.iinc 2 1, 3) := by decide +kernel
theorem dX1_dropAllAround_37 : decode cX1_dropAllAround 37 = .ok (.goto (-35), 3) := by decide +kernel
theorem dX1_dropAllAround_40 : decode cX1_dropAllAround 40 = .ok (.return_, 1) := by decide +kernel
set_option maxRecDepth 20000 in
theorem ggX1_takeIn_X3_put : GoodIn wsX1_takeIn wsX3_put := goodIn_r _ [15] (by decide +kernel) (by decide +kernel)
set_option maxRecDepth 20000 in
theorem gX1_takeIn_X3_put_n53 : GoodIn wsX1_takeIn (wsX3_put) := ggX1_takeIn_X3_put
set_option maxRecDepth 20000 in
theorem ggX1_takeIn_X3_at : GoodIn wsX1_takeIn wsX3_at := goodIn_r _ [17] (by decide +kernel) (by decide +kernel)
set_option maxRecDepth 20000 in
theorem gX1_takeIn_X3_at_n65 : GoodIn wsX1_takeIn (wsX3_at) := ggX1_takeIn_X3_at
set_option maxRecDepth 20000 in
theorem ggX1_takeIn_X3_valuesOfClause : GoodIn wsX1_takeIn wsX3_valuesOfClause := goodIn_r _ [19, 20, 21, 22, 23, 14, 24] (by decide +kernel) (by decide +kernel)
set_option maxRecDepth 20000 in
theorem gX1_takeIn_X3_valuesOfClause_n112 : GoodIn wsX1_takeIn (wsX3_valuesOfClause) := ggX1_takeIn_X3_valuesOfClause
set_option maxRecDepth 20000 in
theorem ggX1_takeIn_X3_putLong : GoodIn wsX1_takeIn wsX3_putLong := goodIn_r _ [26] (by decide +kernel) (by decide +kernel)
set_option maxRecDepth 20000 in
theorem gX1_takeIn_X3_putLong_n116 : GoodIn wsX1_takeIn (wsX3_putLong) := ggX1_takeIn_X3_putLong
theorem dX1_takeIn_0 : decode cX1_takeIn 0 = .ok (.aload_n 0, 1) := by decide +kernel
theorem dX1_takeIn_1 : decode cX1_takeIn 1 = .ok (.getfield 37, 3) := by decide +kernel
theorem dX1_takeIn_4 : decode cX1_takeIn 4 = .ok (.istore 5, 2) := by decide +kernel
theorem dX1_takeIn_6 : decode cX1_takeIn 6 = .ok (.iload_n 2, 1) := by decide +kernel
theorem dX1_takeIn_7 : decode cX1_takeIn 7 = .ok (.iconst (-1), 1) := by decide +kernel
theorem dX1_takeIn_8 : decode cX1_takeIn 8 = .ok (.if_icmp .ne 7, 3) := by decide +kernel
theorem dX1_takeIn_11 : decode cX1_takeIn 11 = .ok (.iconst 1, 1) := by decide +kernel
theorem dX1_takeIn_12 : decode cX1_takeIn 12 = .ok (.goto 4, 3) := by decide +kernel
theorem dX1_takeIn_15 : decode cX1_takeIn 15 = .ok (.iconst 0, 1) := by decide +kernel
theorem dX1_takeIn_16 : decode cX1_takeIn 16 = .ok (.istore 6, 2) := by decide +kernel
theorem dX1_takeIn_18 : decode cX1_takeIn 18 = .ok (.aload_n 0, 1) := by decide +kernel
theorem dX1_takeIn_19 : decode cX1_takeIn 19 = .ok (.getfield 15, 3) := by decide +kernel
theorem dX1_takeIn_22 : decode cX1_takeIn 22 = .ok (.iload 5, 2) := by decide +kernel
theorem dX1_takeIn_24 : decode cX1_takeIn 24 = .ok (.iload_n 1, 1) := by decide +kernel
theorem dX1_takeIn_25 : decode cX1_takeIn 25 = .ok (.invokestatic 53, 3) := by decide +kernel
theorem dX1_takeIn_28 : decode cX1_takeIn 28 = .ok (.aload_n 0, 1) := by decide +kernel
theorem dX1_takeIn_29 : decode cX1_takeIn 29 = .ok (.getfield 18, 3) := by decide +kernel
theorem dX1_takeIn_32 : decode cX1_takeIn 32 = .ok (.iload 5, 2) := by decide +kernel
theorem dX1_takeIn_34 : decode cX1_takeIn 34 = .ok (.iconst 0, 1) := by decide +kernel
theorem dX1_takeIn_35 : decode cX1_takeIn 35 = .ok (.invokestatic 53, 3) := by decide +kernel
theorem dX1_takeIn_38 : decode cX1_takeIn 38 = .ok (.aload_n 0, 1) := by decide +kernel
theorem dX1_takeIn_39 : decode cX1_takeIn 39 = .ok (.getfield 21, 3) := by decide +kernel
theorem dX1_takeIn_42 : decode cX1_takeIn 42 = .ok (.iload 5, 2) := by decide +kernel
theorem dX1_takeIn_44 : decode cX1_takeIn 44 = .ok (.iload_n 2, 1) := by decide +kernel
theorem dX1_takeIn_45 : decode cX1_takeIn 45 = .ok (.invokestatic 53, 3) := by decide +kernel
theorem dX1_takeIn_48 : decode cX1_takeIn 48 = .ok (.aload_n 0, 1) := by decide +kernel
theorem dX1_takeIn_49 : decode cX1_takeIn 49 = .ok (.getfield 24, 3) := by decide +kernel
theorem dX1_takeIn_52 : decode cX1_takeIn 52 = .ok (.iload 5, 2) := by decide +kernel
theorem dX1_takeIn_54 : decode cX1_takeIn 54 = .ok (.iload_n 3, 1) := by decide +kernel
theorem dX1_takeIn_55 : decode cX1_takeIn 55 = .ok (.invokestatic 53, 3) := by decide +kernel
theorem dX1_takeIn_58 : decode cX1_takeIn 58 = .ok (.aload_n 0, 1) := by decide +kernel
theorem dX1_takeIn_59 : decode cX1_takeIn 59 = .ok (.getfield 27, 3) := by decide +kernel
theorem dX1_takeIn_62 : decode cX1_takeIn 62 = .ok (.iload 5, 2) := by decide +kernel
theorem dX1_takeIn_64 : decode cX1_takeIn 64 = .ok (.iload 4, 2) := by decide +kernel
theorem dX1_takeIn_66 : decode cX1_takeIn 66 = .ok (.invokestatic 53, 3) := by decide +kernel
theorem dX1_takeIn_69 : decode cX1_takeIn 69 = .ok (.aload_n 0, 1) := by decide +kernel
theorem dX1_takeIn_70 : decode cX1_takeIn 70 = .ok (.getfield 30, 3) := by decide +kernel
theorem dX1_takeIn_73 : decode cX1_takeIn 73 = .ok (.iload 5, 2) := by decide +kernel
theorem dX1_takeIn_75 : decode cX1_takeIn 75 = .ok (.iload 6, 2) := by decide +kernel
theorem dX1_takeIn_77 : decode cX1_takeIn 77 = .ok (.ifCond .eq 7, 3) := by decide +kernel
theorem dX1_takeIn_80 : decode cX1_takeIn 80 = .ok (.iconst 0, 1) := by decide +kernel
theorem dX1_takeIn_81 : decode cX1_takeIn 81 = .ok (.goto 24, 3) := by decide +kernel
theorem dX1_takeIn_84 : decode cX1_takeIn 84 = .ok (.iconst 1, 1) := by decide +kernel
theorem dX1_takeIn_85 : decode cX1_takeIn 85 = .ok (.aload_n 0, 1) := by decide +kernel
theorem dX1_takeIn_86 : decode cX1_takeIn 86 = .ok (.getfield 30, 3) := by decide +kernel
theorem dX1_takeIn_89 : decode cX1_takeIn 89 = .ok (.iload_n 2, 1) := by decide +kernel
theorem dX1_takeIn_90 : decode cX1_takeIn 90 = .ok (.invokestatic 65, 3) := by decide +kernel
theorem dX1_takeIn_93 : decode cX1_takeIn 93 = .ok (.aload_n 0, 1) := by decide +kernel
theorem dX1_takeIn_94 : decode cX1_takeIn 94 = .ok (.getfield 30, 3) := by decide +kernel
theorem dX1_takeIn_97 : decode cX1_takeIn 97 = .ok (.iload_n 3, 1) := by decide +kernel
theorem dX1_takeIn_98 : decode cX1_takeIn 98 = .ok (.invokestatic 65, 3) := by decide +kernel
theorem dX1_takeIn_101 : decode cX1_takeIn 101 = .ok (.invokestatic 106, 3) := by decide +kernel
theorem dX1_takeIn_104 : decode cX1_takeIn 104 = .ok (.iadd, 1) := by decide +kernel
theorem dX1_takeIn_105 : decode cX1_takeIn 105 = .ok (.invokestatic 53, 3) := by decide +kernel
theorem dX1_takeIn_108 : decode cX1_takeIn 108 = .ok (.aload_n 0, 1) := by decide +kernel
theorem dX1_takeIn_109 : decode cX1_takeIn 109 = .ok (.getfield 33, 3) := by decide +kernel
theorem dX1_takeIn_112 : decode cX1_takeIn 112 = .ok (.iload 5, 2) := by decide +kernel
theorem dX1_takeIn_114 : decode cX1_takeIn 114 = .ok (.iload_n 1, 1) := by decide +kernel
theorem dX1_takeIn_115 : decode cX1_takeIn 115 = .ok (.invokestatic 112, 3) := by decide +kernel
theorem dX1_takeIn_118 : decode cX1_takeIn 118 = .ok (.invokestatic 116, 3) := by decide +kernel
theorem dX1_takeIn_121 : decode cX1_takeIn 121 = .ok (.aload_n 0, 1) := by decide +kernel
theorem dX1_takeIn_122 : decode cX1_takeIn 122 = .ok (.iload 5, 2) := by decide +kernel
theorem dX1_takeIn_124 : decode cX1_takeIn 124 = .ok (.iconst 1, 1) := by decide +kernel
theorem dX1_takeIn_125 : decode cX1_takeIn 125 = .ok (.iadd, 1) := by decide +kernel
theorem dX1_takeIn_126 : decode cX1_takeIn 126 = .ok (.putfield 37, 3) := by decide +kernel
theorem dX1_takeIn_129 : decode cX1_takeIn 129 = .ok (.iload 5, 2) := by decide +kernel
theorem dX1_takeIn_131 : decode cX1_takeIn 131 = .ok (.ireturn, 1) := by decide +kernel
set_option maxRecDepth 20000 in
theorem ggX1_takeStep_X1_emptyClause : GoodIn wsX1_takeStep wsX1_emptyClause := goodIn_r _ [9, 10, 11, 12, 13, 14, 82, 83, 84, 85, 86, 87, 88, 89, 90, 91, 92, 93, 94] (by decide +kernel) (by decide +kernel)
set_option maxRecDepth 20000 in
theorem gX1_takeStep_X1_emptyClause : GoodIn wsX1_takeStep (wsV RX1 120 RX1 yX1_emptyClause wsX1_emptyClause) := goodIn_app (goodIn_of _ (by decide +kernel)) ggX1_takeStep_X1_emptyClause
set_option maxRecDepth 20000 in
theorem ggX1_takeStep_X1_nextChoice : GoodIn wsX1_takeStep wsX1_nextChoice := goodIn_r _ [18, 19, 2, 10, 11, 3, 12, 13, 14, 20, 21, 22, 23, 24, 25, 26, 82, 83, 84, 85, 86, 87, 88, 89, 90, 91, 92, 93, 94] (by decide +kernel) (by decide +kernel)
set_option maxRecDepth 20000 in
theorem gX1_takeStep_X1_nextChoice : GoodIn wsX1_takeStep (wsV RX1 124 RX1 yX1_nextChoice wsX1_nextChoice) := goodIn_app (goodIn_of _ (by decide +kernel)) ggX1_takeStep_X1_nextChoice
set_option maxRecDepth 20000 in
theorem ggX1_takeStep_X3_put : GoodIn wsX1_takeStep wsX3_put := goodIn_r _ [28] (by decide +kernel) (by decide +kernel)
set_option maxRecDepth 20000 in
theorem gX1_takeStep_X3_put_n53 : GoodIn wsX1_takeStep (wsX3_put) := ggX1_takeStep_X3_put
set_option maxRecDepth 20000 in
theorem ggX1_takeStep_X1_resolveWithDone : GoodIn wsX1_takeStep wsX1_resolveWithDone := goodIn_r _ [32, 11, 10, 3, 4, 12, 13, 14, 33, 34, 35, 8, 36, 37, 38, 39, 40, 41, 42, 43, 44, 45, 46, 47, 48, 49, 50, 51, 52, 53, 54, 55, 56, 57, 58, 59, 27, 28, 60, 61, 62, 63, 64, 65, 66, 67, 68, 69, 70, 71, 72, 73, 74, 75, 76, 77, 78, 79, 80, 81, 82, 83, 84, 85, 86, 87, 88, 89, 90, 91, 92, 93, 94] (by decide +kernel) (by decide +kernel)
set_option maxRecDepth 20000 in
theorem gX1_takeStep_X1_resolveWithDone : GoodIn wsX1_takeStep (wsV RX1 128 RX1 yX1_resolveWithDone wsX1_resolveWithDone) := goodIn_app (goodIn_of _ (by decide +kernel)) ggX1_takeStep_X1_resolveWithDone
theorem dX1_takeStep_0 : decode cX1_takeStep 0 = .ok (.aload_n 0, 1) := by decide +kernel
theorem dX1_takeStep_1 : decode cX1_takeStep 1 = .ok (.invokevirtual 120, 3) := by decide +kernel
theorem dX1_takeStep_4 : decode cX1_takeStep 4 = .ok (.iconst (-1), 1) := by decide +kernel
theorem dX1_takeStep_5 : decode cX1_takeStep 5 = .ok (.if_icmp .ne 10, 3) := by decide +kernel
theorem dX1_takeStep_8 : decode cX1_takeStep 8 = .ok (.aload_n 0, 1) := by decide +kernel
theorem dX1_takeStep_9 : decode cX1_takeStep 9 = .ok (.invokevirtual 124, 3) := by decide +kernel
theorem dX1_takeStep_12 : decode cX1_takeStep 12 = .ok (.goto 4, 3) := by decide +kernel
theorem dX1_takeStep_15 : decode cX1_takeStep 15 = .ok (.iconst (-1), 1) := by decide +kernel
theorem dX1_takeStep_16 : decode cX1_takeStep 16 = .ok (.istore_n 1, 1) := by decide +kernel
theorem dX1_takeStep_17 : decode cX1_takeStep 17 = .ok (.iload_n 1, 1) := by decide +kernel
theorem dX1_takeStep_18 : decode cX1_takeStep 18 = .ok (.iconst (-1), 1) := by decide +kernel
theorem dX1_takeStep_19 : decode cX1_takeStep 19 = .ok (.if_icmp .ne 6, 3) := by decide +kernel
theorem dX1_takeStep_22 : decode cX1_takeStep 22 = .ok (.ldc 127, 2) := by decide +kernel
theorem dX1_takeStep_24 : decode cX1_takeStep 24 = .ok (.ireturn, 1) := by decide +kernel
theorem dX1_takeStep_25 : decode cX1_takeStep 25 = .ok (.aload_n 0, 1) := by decide +kernel
theorem dX1_takeStep_26 : decode cX1_takeStep 26 = .ok (.dup, 1) := by decide +kernel
theorem dX1_takeStep_27 : decode cX1_takeStep 27 = .ok (.getfield 41, 3) := by decide +kernel
theorem dX1_takeStep_30 : decode cX1_takeStep 30 = .ok (.iconst 1, 1) := by decide +kernel
theorem dX1_takeStep_31 : decode cX1_takeStep 31 = .ok (.iadd, 1) := by decide +kernel
theorem dX1_takeStep_32 : decode cX1_takeStep 32 = .ok (.putfield 41, 3) := by decide +kernel
theorem dX1_takeStep_35 : decode cX1_takeStep 35 = .ok (.aload_n 0, 1) := by decide +kernel
theorem dX1_takeStep_36 : decode cX1_takeStep 36 = .ok (.getfield 18, 3) := by decide +kernel
theorem dX1_takeStep_39 : decode cX1_takeStep 39 = .ok (.iload_n 1, 1) := by decide +kernel
theorem dX1_takeStep_40 : decode cX1_takeStep 40 = .ok (.iconst 1, 1) := by decide +kernel
theorem dX1_takeStep_41 : decode cX1_takeStep 41 = .ok (.invokestatic 53, 3) := by decide +kernel
theorem dX1_takeStep_44 : decode cX1_takeStep 44 = .ok (.aload_n 0, 1) := by decide +kernel
theorem dX1_takeStep_45 : decode cX1_takeStep 45 = .ok (.iload_n 1, 1) := by decide +kernel
theorem dX1_takeStep_46 : decode cX1_takeStep 46 = .ok (.invokevirtual 128, 3) := by decide +kernel
theorem dX1_takeStep_49 : decode cX1_takeStep 49 = .ok (.ifCond .eq 7, 3) := by decide +kernel
theorem dX1_takeStep_52 : decode cX1_takeStep 52 = .ok (.iload_n 1, 1) := by decide +kernel
theorem dX1_takeStep_53 : decode cX1_takeStep 53 = .ok (.goto 5, 3) := by decide +kernel
theorem dX1_takeStep_56 : decode cX1_takeStep 56 = .ok (.ldc 94, 2) := by decide +kernel
theorem dX1_takeStep_58 : decode cX1_takeStep 58 = .ok (.ireturn, 1) := by decide +kernel
set_option maxRecDepth 20000 in
theorem ggX1_nextChoice_X3_at : GoodIn wsX1_nextChoice wsX3_at := goodIn_r _ [8] (by decide +kernel) (by decide +kernel)
set_option maxRecDepth 20000 in
theorem gX1_nextChoice_X3_at_n65 : GoodIn wsX1_nextChoice (wsX3_at) := ggX1_nextChoice_X3_at
set_option maxRecDepth 20000 in
theorem ggX1_nextChoice_J6_bitCount_0f7a4 : GoodIn wsX1_nextChoice wsJ6_bitCount_0f7a4 := goodIn_r _ [12, 13, 14, 15] (by decide +kernel) (by decide +kernel)
set_option maxRecDepth 20000 in
theorem gX1_nextChoice_J6_bitCount_0f7a4 : GoodIn wsX1_nextChoice (va_wsS RX1 131 yJ6_bitCount_0f7a4 wsJ6_bitCount_0f7a4) := goodIn_app (goodIn_of _ (by decide +kernel)) ggX1_nextChoice_J6_bitCount_0f7a4
theorem dX1_nextChoice_0 : decode cX1_nextChoice 0 = .ok (.aload_n 0, 1) := by decide +kernel
theorem dX1_nextChoice_1 : decode cX1_nextChoice 1 = .ok (.getfield 44, 3) := by decide +kernel
theorem dX1_nextChoice_4 : decode cX1_nextChoice 4 = .ok (.ifCond .le 21, 3) := by decide +kernel
theorem dX1_nextChoice_7 : decode cX1_nextChoice 7 = .ok (.aload_n 0, 1) := by decide +kernel
theorem dX1_nextChoice_8 : decode cX1_nextChoice 8 = .ok (.getfield 41, 3) := by decide +kernel
theorem dX1_nextChoice_11 : decode cX1_nextChoice 11 = .ok (.iconst 1, 1) := by decide +kernel
theorem dX1_nextChoice_12 : decode cX1_nextChoice 12 = .ok (.iadd, 1) := by decide +kernel
theorem dX1_nextChoice_13 : decode cX1_nextChoice 13 = .ok (.aload_n 0, 1) := by decide +kernel
theorem dX1_nextChoice_14 : decode cX1_nextChoice 14 = .ok (.getfield 44, 3) := by decide +kernel
theorem dX1_nextChoice_17 : decode cX1_nextChoice 17 = .ok (.irem, 1) := by decide +kernel
theorem dX1_nextChoice_18 : decode cX1_nextChoice 18 = .ok (.ifCond .ne 7, 3) := by decide +kernel
theorem dX1_nextChoice_21 : decode cX1_nextChoice 21 = .ok (.iconst 1, 1) := by decide +kernel
theorem dX1_nextChoice_22 : decode cX1_nextChoice 22 = .ok (.goto 4, 3) := by decide +kernel
theorem dX1_nextChoice_25 : decode cX1_nextChoice 25 = .ok (.iconst 0, 1) := by decide +kernel
theorem dX1_nextChoice_26 : decode cX1_nextChoice 26 = .ok (.istore_n 1, 1) := by decide +kernel
theorem dX1_nextChoice_27 : decode cX1_nextChoice 27 = .ok (.iconst (-1), 1) := by decide +kernel
theorem dX1_nextChoice_28 : decode cX1_nextChoice 28 = .ok (.istore_n 2, 1) := by decide +kernel
theorem dX1_nextChoice_29 : decode cX1_nextChoice 29 = .ok (.bipush 7, 2) := by decide +kernel
theorem dX1_nextChoice_31 : decode cX1_nextChoice 31 = .ok (.istore_n 3, 1) := by decide +kernel
theorem dX1_nextChoice_32 : decode cX1_nextChoice 32 = .ok (.iconst 0, 1) := by decide +kernel
theorem dX1_nextChoice_33 : decode cX1_nextChoice 33 = .ok (.istore 4, 2) := by decide +kernel
theorem dX1_nextChoice_35 : decode cX1_nextChoice 35 = .ok (.iload 4, 2) := by decide +kernel
theorem dX1_nextChoice_37 : decode cX1_nextChoice 37 = .ok (.aload_n 0, 1) := by decide +kernel
theorem dX1_nextChoice_38 : decode cX1_nextChoice 38 = .ok (.getfield 37, 3) := by decide +kernel
theorem dX1_nextChoice_41 : decode cX1_nextChoice 41 = .ok (.if_icmp .ge 54, 3) := by decide +kernel
theorem dX1_nextChoice_44 : decode cX1_nextChoice 44 = .ok (.aload_n 0, 1) := by decide +kernel
theorem dX1_nextChoice_45 : decode cX1_nextChoice 45 = .ok (.getfield 15, 3) := by decide +kernel
theorem dX1_nextChoice_48 : decode cX1_nextChoice 48 = .ok (.iload 4, 2) := by decide +kernel
theorem dX1_nextChoice_50 : decode cX1_nextChoice 50 = .ok (.invokestatic 65, 3) := by decide +kernel
theorem dX1_nextChoice_53 : decode cX1_nextChoice 53 = .ok (.invokestatic 131, 3) := by decide +kernel
theorem dX1_nextChoice_56 : decode cX1_nextChoice 56 = .ok (.istore 5, 2) := by decide +kernel
theorem dX1_nextChoice_58 : decode cX1_nextChoice 58 = .ok (.aload_n 0, 1) := by decide +kernel
theorem dX1_nextChoice_59 : decode cX1_nextChoice 59 = .ok (.getfield 18, 3) := by decide +kernel
theorem dX1_nextChoice_62 : decode cX1_nextChoice 62 = .ok (.iload 4, 2) := by decide +kernel
theorem dX1_nextChoice_64 : decode cX1_nextChoice 64 = .ok (.invokestatic 65, 3) := by decide +kernel
theorem dX1_nextChoice_67 : decode cX1_nextChoice 67 = .ok (.ifCond .ne 22, 3) := by decide +kernel
theorem dX1_nextChoice_70 : decode cX1_nextChoice 70 = .ok (.iload 5, 2) := by decide +kernel
theorem dX1_nextChoice_72 : decode cX1_nextChoice 72 = .ok (.iload_n 3, 1) := by decide +kernel
theorem dX1_nextChoice_73 : decode cX1_nextChoice 73 = .ok (.if_icmp .ge 16, 3) := by decide +kernel
theorem dX1_nextChoice_76 : decode cX1_nextChoice 76 = .ok (.iload_n 1, 1) := by decide +kernel
theorem dX1_nextChoice_77 : decode cX1_nextChoice 77 = .ok (.ifCond .eq 6, 3) := by decide +kernel
theorem dX1_nextChoice_80 : decode cX1_nextChoice 80 = .ok (.iload 4, 2) := by decide +kernel
theorem dX1_nextChoice_82 : decode cX1_nextChoice 82 = .ok (.ireturn, 1) := by decide +kernel
theorem dX1_nextChoice_83 : decode cX1_nextChoice 83 = .ok (.iload 4, 2) := by decide +kernel
theorem dX1_nextChoice_85 : decode cX1_nextChoice 85 = .ok (.istore_n 2, 1) := by decide +kernel
theorem dX1_nextChoice_86 : decode cX1_nextChoice 86 = .ok (.iload 5, 2) := by decide +kernel
theorem dX1_nextChoice_88 : decode cX1_nextChoice 88 = .ok (.istore_n 3, 1) := by decide +kernel
theorem dX1_nextChoice_89 : decode cX1_nextChoice 89 = .ok (.iinc 4 1, 3) := by decide +kernel
theorem dX1_nextChoice_92 : decode cX1_nextChoice 92 = .ok (.goto (-57), 3) := by decide +kernel
theorem dX1_nextChoice_95 : decode cX1_nextChoice 95 = .ok (.iload_n 2, 1) := by decide +kernel
theorem dX1_nextChoice_96 : decode cX1_nextChoice 96 = .ok (.ireturn, 1) := by decide +kernel
set_option maxRecDepth 20000 in
theorem ggX1_resolveWithDone_X3_at : GoodIn wsX1_resolveWithDone wsX3_at := goodIn_r _ [7] (by decide +kernel) (by decide +kernel)
set_option maxRecDepth 20000 in
theorem gX1_resolveWithDone_X3_at_n65 : GoodIn wsX1_resolveWithDone (wsX3_at) := ggX1_resolveWithDone_X3_at
set_option maxRecDepth 20000 in
theorem ggX1_resolveWithDone_X1_greatestOf : GoodIn wsX1_resolveWithDone wsX1_greatestOf := goodIn_r _ [12, 13, 5, 6, 7, 60, 61, 62, 63, 64, 65, 66, 67, 68, 69, 70, 71, 72] (by decide +kernel) (by decide +kernel)
set_option maxRecDepth 20000 in
theorem gX1_resolveWithDone_X1_greatestOf : GoodIn wsX1_resolveWithDone (wsV RX1 73 RX1 yX1_greatestOf wsX1_greatestOf) := goodIn_app (goodIn_of _ (by decide +kernel)) ggX1_resolveWithDone_X1_greatestOf
set_option maxRecDepth 20000 in
theorem ggX1_resolveWithDone_X1_isDropped : GoodIn wsX1_resolveWithDone wsX1_isDropped := goodIn_r _ [17, 3, 5, 6, 7, 60, 61, 62, 63, 64, 65, 66, 67, 68, 69, 70, 71, 72] (by decide +kernel) (by decide +kernel)
set_option maxRecDepth 20000 in
theorem gX1_resolveWithDone_X1_isDropped : GoodIn wsX1_resolveWithDone (wsV RX1 80 RX1 yX1_isDropped wsX1_isDropped) := goodIn_app (goodIn_of _ (by decide +kernel)) ggX1_resolveWithDone_X1_isDropped
set_option maxRecDepth 20000 in
theorem ggX1_resolveWithDone_X1_bring : GoodIn wsX1_resolveWithDone wsX1_bring := goodIn_r _ [21, 22, 23, 2, 4, 24, 6, 25, 26, 27, 28, 11, 29, 1, 14, 15, 16, 17, 3, 5, 7, 30, 31, 32, 33, 34, 35, 36, 37, 38, 39, 40, 41, 42, 43, 44, 45, 46, 47, 48, 49, 50, 51, 52, 53, 54, 55, 56, 57, 58, 59, 60, 61, 62, 63, 64, 65, 66, 67, 68, 69, 70, 71, 72] (by decide +kernel) (by decide +kernel)
set_option maxRecDepth 20000 in
theorem gX1_resolveWithDone_X1_bring : GoodIn wsX1_resolveWithDone (wsV RX1 136 RX1 yX1_bring wsX1_bring) := goodIn_app (goodIn_of _ (by decide +kernel)) ggX1_resolveWithDone_X1_bring
theorem dX1_resolveWithDone_0 : decode cX1_resolveWithDone 0 = .ok (.aload_n 0, 1) := by decide +kernel
theorem dX1_resolveWithDone_1 : decode cX1_resolveWithDone 1 = .ok (.aload_n 0, 1) := by decide +kernel
theorem dX1_resolveWithDone_2 : decode cX1_resolveWithDone 2 = .ok (.getfield 15, 3) := by decide +kernel
theorem dX1_resolveWithDone_5 : decode cX1_resolveWithDone 5 = .ok (.iload_n 1, 1) := by decide +kernel
theorem dX1_resolveWithDone_6 : decode cX1_resolveWithDone 6 = .ok (.invokestatic 65, 3) := by decide +kernel
theorem dX1_resolveWithDone_9 : decode cX1_resolveWithDone 9 = .ok (.invokevirtual 73, 3) := by decide +kernel
theorem dX1_resolveWithDone_12 : decode cX1_resolveWithDone 12 = .ok (.istore_n 2, 1) := by decide +kernel
theorem dX1_resolveWithDone_13 : decode cX1_resolveWithDone 13 = .ok (.iload_n 2, 1) := by decide +kernel
theorem dX1_resolveWithDone_14 : decode cX1_resolveWithDone 14 = .ok (.iconst 1, 1) := by decide +kernel
theorem dX1_resolveWithDone_15 : decode cX1_resolveWithDone 15 = .ok (.ixor, 1) := by decide +kernel
theorem dX1_resolveWithDone_16 : decode cX1_resolveWithDone 16 = .ok (.istore_n 3, 1) := by decide +kernel
theorem dX1_resolveWithDone_17 : decode cX1_resolveWithDone 17 = .ok (.iload_n 2, 1) := by decide +kernel
theorem dX1_resolveWithDone_18 : decode cX1_resolveWithDone 18 = .ok (.iload_n 3, 1) := by decide +kernel
theorem dX1_resolveWithDone_19 : decode cX1_resolveWithDone 19 = .ok (.if_icmp .ge 7, 3) := by decide +kernel
theorem dX1_resolveWithDone_22 : decode cX1_resolveWithDone 22 = .ok (.iconst 1, 1) := by decide +kernel
theorem dX1_resolveWithDone_23 : decode cX1_resolveWithDone 23 = .ok (.goto 4, 3) := by decide +kernel
theorem dX1_resolveWithDone_26 : decode cX1_resolveWithDone 26 = .ok (.iconst 0, 1) := by decide +kernel
theorem dX1_resolveWithDone_27 : decode cX1_resolveWithDone 27 = .ok (.istore 4, 2) := by decide +kernel
theorem dX1_resolveWithDone_29 : decode cX1_resolveWithDone 29 = .ok (.iconst 1, 1) := by decide +kernel
theorem dX1_resolveWithDone_30 : decode cX1_resolveWithDone 30 = .ok (.iload_n 2, 1) := by decide +kernel
theorem dX1_resolveWithDone_31 : decode cX1_resolveWithDone 31 = .ok (.ishl, 1) := by decide +kernel
theorem dX1_resolveWithDone_32 : decode cX1_resolveWithDone 32 = .ok (.iconst 1, 1) := by decide +kernel
theorem dX1_resolveWithDone_33 : decode cX1_resolveWithDone 33 = .ok (.iload_n 3, 1) := by decide +kernel
theorem dX1_resolveWithDone_34 : decode cX1_resolveWithDone 34 = .ok (.ishl, 1) := by decide +kernel
theorem dX1_resolveWithDone_35 : decode cX1_resolveWithDone 35 = .ok (.ior, 1) := by decide +kernel
theorem dX1_resolveWithDone_36 : decode cX1_resolveWithDone 36 = .ok (.istore 5, 2) := by decide +kernel
theorem dX1_resolveWithDone_38 : decode cX1_resolveWithDone 38 = .ok (.aload_n 0, 1) := by decide +kernel
theorem dX1_resolveWithDone_39 : decode cX1_resolveWithDone 39 = .ok (.getfield 37, 3) := by decide +kernel
theorem dX1_resolveWithDone_42 : decode cX1_resolveWithDone 42 = .ok (.istore 6, 2) := by decide +kernel
theorem dX1_resolveWithDone_44 : decode cX1_resolveWithDone 44 = .ok (.iconst 0, 1) := by decide +kernel
theorem dX1_resolveWithDone_45 : decode cX1_resolveWithDone 45 = .ok (.istore 7, 2) := by decide +kernel
theorem dX1_resolveWithDone_47 : decode cX1_resolveWithDone 47 = .ok (.iload 7, 2) := by decide +kernel
theorem dX1_resolveWithDone_49 : decode cX1_resolveWithDone 49 = .ok (.iload 6, 2) := by decide +kernel
theorem dX1_resolveWithDone_51 : decode cX1_resolveWithDone 51 = .ok (.if_icmp .ge 114, 3) := by decide +kernel
theorem dX1_resolveWithDone_54 : decode cX1_resolveWithDone 54 = .ok (.aload_n 0, 1) := by decide +kernel
theorem dX1_resolveWithDone_55 : decode cX1_resolveWithDone 55 = .ok (.iload_n 1, 1) := by decide +kernel
theorem dX1_resolveWithDone_56 : decode cX1_resolveWithDone 56 = .ok (.invokevirtual 80, 3) := by decide +kernel
theorem dX1_resolveWithDone_59 : decode cX1_resolveWithDone 59 = .ok (.ifCond .ne 106, 3) := by decide +kernel
theorem dX1_resolveWithDone_62 : decode cX1_resolveWithDone 62 = .ok (.aload_n 0, 1) := by decide +kernel
theorem dX1_resolveWithDone_63 : decode cX1_resolveWithDone 63 = .ok (.getfield 18, 3) := by decide +kernel
theorem dX1_resolveWithDone_66 : decode cX1_resolveWithDone 66 = .ok (.iload 7, 2) := by decide +kernel
theorem dX1_resolveWithDone_68 : decode cX1_resolveWithDone 68 = .ok (.invokestatic 65, 3) := by decide +kernel
theorem dX1_resolveWithDone_71 : decode cX1_resolveWithDone 71 = .ok (.iconst 1, 1) := by decide +kernel
theorem dX1_resolveWithDone_72 : decode cX1_resolveWithDone 72 = .ok (.if_icmp .ne 87, 3) := by decide +kernel
theorem dX1_resolveWithDone_75 : decode cX1_resolveWithDone 75 = .ok (.aload_n 0, 1) := by decide +kernel
theorem dX1_resolveWithDone_76 : decode cX1_resolveWithDone 76 = .ok (.aload_n 0, 1) := by decide +kernel
theorem dX1_resolveWithDone_77 : decode cX1_resolveWithDone 77 = .ok (.getfield 15, 3) := by decide +kernel
theorem dX1_resolveWithDone_80 : decode cX1_resolveWithDone 80 = .ok (.iload 7, 2) := by decide +kernel
theorem dX1_resolveWithDone_82 : decode cX1_resolveWithDone 82 = .ok (.invokestatic 65, 3) := by decide +kernel
theorem dX1_resolveWithDone_85 : decode cX1_resolveWithDone 85 = .ok (.invokevirtual 73, 3) := by decide +kernel
theorem dX1_resolveWithDone_88 : decode cX1_resolveWithDone 88 = .ok (.iload_n 3, 1) := by decide +kernel
theorem dX1_resolveWithDone_89 : decode cX1_resolveWithDone 89 = .ok (.if_icmp .ne 70, 3) := by decide +kernel
theorem dX1_resolveWithDone_92 : decode cX1_resolveWithDone 92 = .ok (.aload_n 0, 1) := by decide +kernel
theorem dX1_resolveWithDone_93 : decode cX1_resolveWithDone 93 = .ok (.getfield 15, 3) := by decide +kernel
theorem dX1_resolveWithDone_96 : decode cX1_resolveWithDone 96 = .ok (.iload_n 1, 1) := by decide +kernel
theorem dX1_resolveWithDone_97 : decode cX1_resolveWithDone 97 = .ok (.invokestatic 65, 3) := by decide +kernel
theorem dX1_resolveWithDone_100 : decode cX1_resolveWithDone 100 = .ok (.aload_n 0, 1) := by decide +kernel
theorem dX1_resolveWithDone_101 : decode cX1_resolveWithDone 101 = .ok (.getfield 15, 3) := by decide +kernel
theorem dX1_resolveWithDone_104 : decode cX1_resolveWithDone 104 = .ok (.iload 7, 2) := by decide +kernel
theorem dX1_resolveWithDone_106 : decode cX1_resolveWithDone 106 = .ok (.invokestatic 65, 3) := by decide +kernel
theorem dX1_resolveWithDone_109 : decode cX1_resolveWithDone 109 = .ok (.ior, 1) := by decide +kernel
theorem dX1_resolveWithDone_110 : decode cX1_resolveWithDone 110 = .ok (.iload 5, 2) := by decide +kernel
theorem dX1_resolveWithDone_112 : decode cX1_resolveWithDone 112 = .ok (.iconst (-1), 1) := by decide +kernel
theorem dX1_resolveWithDone_113 : decode cX1_resolveWithDone 113 = .ok (.ixor, 1) := by decide +kernel
theorem dX1_resolveWithDone_114 : decode cX1_resolveWithDone 114 = .ok (.iand, 1) := by decide +kernel
theorem dX1_resolveWithDone_115 : decode cX1_resolveWithDone 115 = .ok (.istore 8, 2) := by decide +kernel
theorem dX1_resolveWithDone_117 : decode cX1_resolveWithDone 117 = .ok (.aload_n 0, 1) := by decide +kernel
theorem dX1_resolveWithDone_118 : decode cX1_resolveWithDone 118 = .ok (.iload 8, 2) := by decide +kernel
theorem dX1_resolveWithDone_120 : decode cX1_resolveWithDone 120 = .ok (.iload 4, 2) := by decide +kernel
theorem dX1_resolveWithDone_122 : decode cX1_resolveWithDone 122 = .ok (.ifCond .eq 7, 3) := by decide +kernel
theorem dX1_resolveWithDone_125 : decode cX1_resolveWithDone 125 = .ok (.iload_n 1, 1) := by decide +kernel
theorem dX1_resolveWithDone_126 : decode cX1_resolveWithDone 126 = .ok (.goto 5, 3) := by decide +kernel
theorem dX1_resolveWithDone_129 : decode cX1_resolveWithDone 129 = .ok (.iload 7, 2) := by decide +kernel
theorem dX1_resolveWithDone_131 : decode cX1_resolveWithDone 131 = .ok (.iload 4, 2) := by decide +kernel
theorem dX1_resolveWithDone_133 : decode cX1_resolveWithDone 133 = .ok (.ifCond .eq 8, 3) := by decide +kernel
theorem dX1_resolveWithDone_136 : decode cX1_resolveWithDone 136 = .ok (.iload 7, 2) := by decide +kernel
theorem dX1_resolveWithDone_138 : decode cX1_resolveWithDone 138 = .ok (.goto 4, 3) := by decide +kernel
theorem dX1_resolveWithDone_141 : decode cX1_resolveWithDone 141 = .ok (.iload_n 1, 1) := by decide +kernel
theorem dX1_resolveWithDone_142 : decode cX1_resolveWithDone 142 = .ok (.iload_n 2, 1) := by decide +kernel
theorem dX1_resolveWithDone_143 : decode cX1_resolveWithDone 143 = .ok (.iconst 1, 1) := by decide +kernel
theorem dX1_resolveWithDone_144 : decode cX1_resolveWithDone 144 = .ok (.ishr, 1) := by decide +kernel
theorem dX1_resolveWithDone_145 : decode cX1_resolveWithDone 145 = .ok (.invokevirtual 136, 3) := by decide +kernel
theorem dX1_resolveWithDone_148 : decode cX1_resolveWithDone 148 = .ok (.istore 9, 2) := by decide +kernel
theorem dX1_resolveWithDone_150 : decode cX1_resolveWithDone 150 = .ok (.iload 9, 2) := by decide +kernel
theorem dX1_resolveWithDone_152 : decode cX1_resolveWithDone 152 = .ok (.ldc 94, 2) := by decide +kernel
theorem dX1_resolveWithDone_154 : decode cX1_resolveWithDone 154 = .ok (.if_icmp .ne 5, 3) := by decide +kernel
theorem dX1_resolveWithDone_157 : decode cX1_resolveWithDone 157 = .ok (.iconst 0, 1) := by decide +kernel
theorem dX1_resolveWithDone_158 : decode cX1_resolveWithDone 158 = .ok (.ireturn, 1) := by decide +kernel
theorem dX1_resolveWithDone_159 : decode cX1_resolveWithDone 159 = .ok (.iinc 7 1, 3) := by decide +kernel
theorem dX1_resolveWithDone_162 : decode cX1_resolveWithDone 162 = .ok (.goto (-115), 3) := by decide +kernel
theorem dX1_resolveWithDone_165 : decode cX1_resolveWithDone 165 = .ok (.iconst 1, 1) := by decide +kernel
theorem dX1_resolveWithDone_166 : decode cX1_resolveWithDone 166 = .ok (.ireturn, 1) := by decide +kernel
set_option maxRecDepth 20000 in
theorem ggX1_treeOf_X3_setOf : GoodIn wsX1_treeOf wsX3_setOf := goodIn_r _ [5] (by decide +kernel) (by decide +kernel)
set_option maxRecDepth 20000 in
theorem gX1_treeOf_X3_setOf_n139 : GoodIn wsX1_treeOf (wsX3_setOf) := ggX1_treeOf_X3_setOf
set_option maxRecDepth 20000 in
theorem ggX1_treeOf_X3_isIn : GoodIn wsX1_treeOf wsX3_isIn := goodIn_r _ [7] (by decide +kernel) (by decide +kernel)
set_option maxRecDepth 20000 in
theorem gX1_treeOf_X3_isIn_n76 : GoodIn wsX1_treeOf (wsX3_isIn) := ggX1_treeOf_X3_isIn
set_option maxRecDepth 20000 in
theorem ggX1_treeOf_X3_at : GoodIn wsX1_treeOf wsX3_at := goodIn_r _ [9] (by decide +kernel) (by decide +kernel)
set_option maxRecDepth 20000 in
theorem gX1_treeOf_X3_at_n65 : GoodIn wsX1_treeOf (wsX3_at) := ggX1_treeOf_X3_at
theorem dX1_treeOf_0 : decode cX1_treeOf 0 = .ok (.iload_n 1, 1) := by decide +kernel
theorem dX1_treeOf_1 : decode cX1_treeOf 1 = .ok (.invokestatic 139, 3) := by decide +kernel
theorem dX1_treeOf_4 : decode cX1_treeOf 4 = .ok (.lstore_n 2, 1) := by decide +kernel
theorem dX1_treeOf_5 : decode cX1_treeOf 5 = .ok (.iload_n 1, 1) := by decide +kernel
theorem dX1_treeOf_6 : decode cX1_treeOf 6 = .ok (.istore 4, 2) := by decide +kernel
theorem dX1_treeOf_8 : decode cX1_treeOf 8 = .ok (.iload 4, 2) := by decide +kernel
theorem dX1_treeOf_10 : decode cX1_treeOf 10 = .ok (.ifCond .lt 46, 3) := by decide +kernel
theorem dX1_treeOf_13 : decode cX1_treeOf 13 = .ok (.lload_n 2, 1) := by decide +kernel
theorem dX1_treeOf_14 : decode cX1_treeOf 14 = .ok (.iload 4, 2) := by decide +kernel
theorem dX1_treeOf_16 : decode cX1_treeOf 16 = .ok (.invokestatic 76, 3) := by decide +kernel
theorem dX1_treeOf_19 : decode cX1_treeOf 19 = .ok (.ifCond .eq 31, 3) := by decide +kernel
theorem dX1_treeOf_22 : decode cX1_treeOf 22 = .ok (.lload_n 2, 1) := by decide +kernel
theorem dX1_treeOf_23 : decode cX1_treeOf 23 = .ok (.aload_n 0, 1) := by decide +kernel
theorem dX1_treeOf_24 : decode cX1_treeOf 24 = .ok (.getfield 21, 3) := by decide +kernel
theorem dX1_treeOf_27 : decode cX1_treeOf 27 = .ok (.iload 4, 2) := by decide +kernel
theorem dX1_treeOf_29 : decode cX1_treeOf 29 = .ok (.invokestatic 65, 3) := by decide +kernel
theorem dX1_treeOf_32 : decode cX1_treeOf 32 = .ok (.invokestatic 139, 3) := by decide +kernel
theorem dX1_treeOf_35 : decode cX1_treeOf 35 = .ok (.aload_n 0, 1) := by decide +kernel
theorem dX1_treeOf_36 : decode cX1_treeOf 36 = .ok (.getfield 24, 3) := by decide +kernel
theorem dX1_treeOf_39 : decode cX1_treeOf 39 = .ok (.iload 4, 2) := by decide +kernel
theorem dX1_treeOf_41 : decode cX1_treeOf 41 = .ok (.invokestatic 65, 3) := by decide +kernel
theorem dX1_treeOf_44 : decode cX1_treeOf 44 = .ok (.invokestatic 139, 3) := by decide +kernel
theorem dX1_treeOf_47 : decode cX1_treeOf 47 = .ok (.lor, 1) := by decide +kernel
theorem dX1_treeOf_48 : decode cX1_treeOf 48 = .ok (.lor, 1) := by decide +kernel
theorem dX1_treeOf_49 : decode cX1_treeOf 49 = .ok (.lstore_n 2, 1) := by decide +kernel
theorem dX1_treeOf_50 : decode cX1_treeOf 50 = .ok (.iinc 4 (-1), 3) := by decide +kernel
theorem dX1_treeOf_53 : decode cX1_treeOf 53 = .ok (.goto (-45), 3) := by decide +kernel
theorem dX1_treeOf_56 : decode cX1_treeOf 56 = .ok (.lload_n 2, 1) := by decide +kernel
theorem dX1_treeOf_57 : decode cX1_treeOf 57 = .ok (.lreturn, 1) := by decide +kernel
set_option maxRecDepth 20000 in
theorem ggX1_mostLiterals_X3_isIn : GoodIn wsX1_mostLiterals wsX3_isIn := goodIn_r _ [9] (by decide +kernel) (by decide +kernel)
set_option maxRecDepth 20000 in
theorem gX1_mostLiterals_X3_isIn_n76 : GoodIn wsX1_mostLiterals (wsX3_isIn) := ggX1_mostLiterals_X3_isIn
set_option maxRecDepth 20000 in
theorem ggX1_mostLiterals_X3_at : GoodIn wsX1_mostLiterals wsX3_at := goodIn_r _ [11] (by decide +kernel) (by decide +kernel)
set_option maxRecDepth 20000 in
theorem gX1_mostLiterals_X3_at_n65 : GoodIn wsX1_mostLiterals (wsX3_at) := ggX1_mostLiterals_X3_at
set_option maxRecDepth 20000 in
theorem ggX1_mostLiterals_J6_bitCount_0f7a4 : GoodIn wsX1_mostLiterals wsJ6_bitCount_0f7a4 := goodIn_r _ [15, 16, 17, 18] (by decide +kernel) (by decide +kernel)
set_option maxRecDepth 20000 in
theorem gX1_mostLiterals_J6_bitCount_0f7a4 : GoodIn wsX1_mostLiterals (va_wsS RX1 131 yJ6_bitCount_0f7a4 wsJ6_bitCount_0f7a4) := goodIn_app (goodIn_of _ (by decide +kernel)) ggX1_mostLiterals_J6_bitCount_0f7a4
theorem dX1_mostLiterals_0 : decode cX1_mostLiterals 0 = .ok (.iconst 0, 1) := by decide +kernel
theorem dX1_mostLiterals_1 : decode cX1_mostLiterals 1 = .ok (.istore_n 3, 1) := by decide +kernel
theorem dX1_mostLiterals_2 : decode cX1_mostLiterals 2 = .ok (.iconst 0, 1) := by decide +kernel
theorem dX1_mostLiterals_3 : decode cX1_mostLiterals 3 = .ok (.istore 4, 2) := by decide +kernel
theorem dX1_mostLiterals_5 : decode cX1_mostLiterals 5 = .ok (.iload 4, 2) := by decide +kernel
theorem dX1_mostLiterals_7 : decode cX1_mostLiterals 7 = .ok (.aload_n 0, 1) := by decide +kernel
theorem dX1_mostLiterals_8 : decode cX1_mostLiterals 8 = .ok (.getfield 37, 3) := by decide +kernel
theorem dX1_mostLiterals_11 : decode cX1_mostLiterals 11 = .ok (.if_icmp .ge 35, 3) := by decide +kernel
theorem dX1_mostLiterals_14 : decode cX1_mostLiterals 14 = .ok (.lload_n 1, 1) := by decide +kernel
theorem dX1_mostLiterals_15 : decode cX1_mostLiterals 15 = .ok (.iload 4, 2) := by decide +kernel
theorem dX1_mostLiterals_17 : decode cX1_mostLiterals 17 = .ok (.invokestatic 76, 3) := by decide +kernel
theorem dX1_mostLiterals_20 : decode cX1_mostLiterals 20 = .ok (.ifCond .eq 20, 3) := by decide +kernel
theorem dX1_mostLiterals_23 : decode cX1_mostLiterals 23 = .ok (.iload_n 3, 1) := by decide +kernel
theorem dX1_mostLiterals_24 : decode cX1_mostLiterals 24 = .ok (.aload_n 0, 1) := by decide +kernel
theorem dX1_mostLiterals_25 : decode cX1_mostLiterals 25 = .ok (.getfield 15, 3) := by decide +kernel
theorem dX1_mostLiterals_28 : decode cX1_mostLiterals 28 = .ok (.iload 4, 2) := by decide +kernel
theorem dX1_mostLiterals_30 : decode cX1_mostLiterals 30 = .ok (.invokestatic 65, 3) := by decide +kernel
theorem dX1_mostLiterals_33 : decode cX1_mostLiterals 33 = .ok (.invokestatic 131, 3) := by decide +kernel
theorem dX1_mostLiterals_36 : decode cX1_mostLiterals 36 = .ok (.invokestatic 106, 3) := by decide +kernel
theorem dX1_mostLiterals_39 : decode cX1_mostLiterals 39 = .ok (.istore_n 3, 1) := by decide +kernel
theorem dX1_mostLiterals_40 : decode cX1_mostLiterals 40 = .ok (.iinc 4 1, 3) := by decide +kernel
theorem dX1_mostLiterals_43 : decode cX1_mostLiterals 43 = .ok (.goto (-38), 3) := by decide +kernel
theorem dX1_mostLiterals_46 : decode cX1_mostLiterals 46 = .ok (.iload_n 3, 1) := by decide +kernel
theorem dX1_mostLiterals_47 : decode cX1_mostLiterals 47 = .ok (.ireturn, 1) := by decide +kernel
set_option maxRecDepth 20000 in
theorem ggX1_toldClauses_X1_wasTold : GoodIn wsX1_toldClauses wsX1_wasTold := goodIn_r _ [6, 7, 8, 9, 10, 13, 14, 15, 16, 17, 18, 19, 20, 21, 22, 23, 24, 25] (by decide +kernel) (by decide +kernel)
set_option maxRecDepth 20000 in
theorem gX1_toldClauses_X1_wasTold : GoodIn wsX1_toldClauses (wsV RX1 142 RX1 yX1_wasTold wsX1_wasTold) := goodIn_app (goodIn_of _ (by decide +kernel)) ggX1_toldClauses_X1_wasTold
set_option maxRecDepth 20000 in
theorem ggX1_toldClauses_X3_setOf : GoodIn wsX1_toldClauses wsX3_setOf := goodIn_r _ [12] (by decide +kernel) (by decide +kernel)
set_option maxRecDepth 20000 in
theorem gX1_toldClauses_X3_setOf_n139 : GoodIn wsX1_toldClauses (wsX3_setOf) := ggX1_toldClauses_X3_setOf
theorem dX1_toldClauses_0 : decode cX1_toldClauses 0 = .ok (.lconst 0, 1) := by decide +kernel
theorem dX1_toldClauses_1 : decode cX1_toldClauses 1 = .ok (.lstore_n 1, 1) := by decide +kernel
theorem dX1_toldClauses_2 : decode cX1_toldClauses 2 = .ok (.iconst 0, 1) := by decide +kernel
theorem dX1_toldClauses_3 : decode cX1_toldClauses 3 = .ok (.istore_n 3, 1) := by decide +kernel
theorem dX1_toldClauses_4 : decode cX1_toldClauses 4 = .ok (.iload_n 3, 1) := by decide +kernel
theorem dX1_toldClauses_5 : decode cX1_toldClauses 5 = .ok (.aload_n 0, 1) := by decide +kernel
theorem dX1_toldClauses_6 : decode cX1_toldClauses 6 = .ok (.getfield 37, 3) := by decide +kernel
theorem dX1_toldClauses_9 : decode cX1_toldClauses 9 = .ok (.if_icmp .ge 28, 3) := by decide +kernel
theorem dX1_toldClauses_12 : decode cX1_toldClauses 12 = .ok (.lload_n 1, 1) := by decide +kernel
theorem dX1_toldClauses_13 : decode cX1_toldClauses 13 = .ok (.aload_n 0, 1) := by decide +kernel
theorem dX1_toldClauses_14 : decode cX1_toldClauses 14 = .ok (.iload_n 3, 1) := by decide +kernel
theorem dX1_toldClauses_15 : decode cX1_toldClauses 15 = .ok (.invokevirtual 142, 3) := by decide +kernel
theorem dX1_toldClauses_18 : decode cX1_toldClauses 18 = .ok (.ifCond .eq 10, 3) := by decide +kernel
theorem dX1_toldClauses_21 : decode cX1_toldClauses 21 = .ok (.iload_n 3, 1) := by decide +kernel
theorem dX1_toldClauses_22 : decode cX1_toldClauses 22 = .ok (.invokestatic 139, 3) := by decide +kernel
theorem dX1_toldClauses_25 : decode cX1_toldClauses 25 = .ok (.goto 4, 3) := by decide +kernel
theorem dX1_toldClauses_28 : decode cX1_toldClauses 28 = .ok (.lconst 0, 1) := by decide +kernel
theorem dX1_toldClauses_29 : decode cX1_toldClauses 29 = .ok (.lor, 1) := by decide +kernel
theorem dX1_toldClauses_30 : decode cX1_toldClauses 30 = .ok (.lstore_n 1, 1) := by decide +kernel
theorem dX1_toldClauses_31 : decode cX1_toldClauses 31 = .ok (.iinc 3 1, 3) := by decide +kernel
theorem dX1_toldClauses_34 : decode cX1_toldClauses 34 = .ok (.goto (-30), 3) := by decide +kernel
theorem dX1_toldClauses_37 : decode cX1_toldClauses 37 = .ok (.lload_n 1, 1) := by decide +kernel
theorem dX1_toldClauses_38 : decode cX1_toldClauses 38 = .ok (.lreturn, 1) := by decide +kernel
set_option maxRecDepth 20000 in
theorem ggX1_valuesFulfilling_X3_isIn : GoodIn wsX1_valuesFulfilling wsX3_isIn := goodIn_r _ [6] (by decide +kernel) (by decide +kernel)
set_option maxRecDepth 20000 in
theorem gX1_valuesFulfilling_X3_isIn_n76 : GoodIn wsX1_valuesFulfilling (wsX3_isIn) := ggX1_valuesFulfilling_X3_isIn
set_option maxRecDepth 20000 in
theorem ggX1_valuesFulfilling_X3_longAt : GoodIn wsX1_valuesFulfilling wsX3_longAt := goodIn_r _ [8] (by decide +kernel) (by decide +kernel)
set_option maxRecDepth 20000 in
theorem gX1_valuesFulfilling_X3_longAt_n147 : GoodIn wsX1_valuesFulfilling (wsX3_longAt) := ggX1_valuesFulfilling_X3_longAt
theorem dX1_valuesFulfilling_0 : decode cX1_valuesFulfilling 0 = .ok (.ldc2_w 145, 3) := by decide +kernel
theorem dX1_valuesFulfilling_3 : decode cX1_valuesFulfilling 3 = .ok (.lstore_n 3, 1) := by decide +kernel
theorem dX1_valuesFulfilling_4 : decode cX1_valuesFulfilling 4 = .ok (.iconst 0, 1) := by decide +kernel
theorem dX1_valuesFulfilling_5 : decode cX1_valuesFulfilling 5 = .ok (.istore 5, 2) := by decide +kernel
theorem dX1_valuesFulfilling_7 : decode cX1_valuesFulfilling 7 = .ok (.iload 5, 2) := by decide +kernel
theorem dX1_valuesFulfilling_9 : decode cX1_valuesFulfilling 9 = .ok (.aload_n 0, 1) := by decide +kernel
theorem dX1_valuesFulfilling_10 : decode cX1_valuesFulfilling 10 = .ok (.getfield 37, 3) := by decide +kernel
theorem dX1_valuesFulfilling_13 : decode cX1_valuesFulfilling 13 = .ok (.if_icmp .ge 36, 3) := by decide +kernel
theorem dX1_valuesFulfilling_16 : decode cX1_valuesFulfilling 16 = .ok (.lload_n 3, 1) := by decide +kernel
theorem dX1_valuesFulfilling_17 : decode cX1_valuesFulfilling 17 = .ok (.lconst 0, 1) := by decide +kernel
theorem dX1_valuesFulfilling_18 : decode cX1_valuesFulfilling 18 = .ok (.lcmp, 1) := by decide +kernel
theorem dX1_valuesFulfilling_19 : decode cX1_valuesFulfilling 19 = .ok (.ifCond .eq 30, 3) := by decide +kernel
theorem dX1_valuesFulfilling_22 : decode cX1_valuesFulfilling 22 = .ok (.lload_n 1, 1) := by decide +kernel
theorem dX1_valuesFulfilling_23 : decode cX1_valuesFulfilling 23 = .ok (.iload 5, 2) := by decide +kernel
theorem dX1_valuesFulfilling_25 : decode cX1_valuesFulfilling 25 = .ok (.invokestatic 76, 3) := by decide +kernel
theorem dX1_valuesFulfilling_28 : decode cX1_valuesFulfilling 28 = .ok (.ifCond .eq 15, 3) := by decide +kernel
theorem dX1_valuesFulfilling_31 : decode cX1_valuesFulfilling 31 = .ok (.lload_n 3, 1) := by decide +kernel
theorem dX1_valuesFulfilling_32 : decode cX1_valuesFulfilling 32 = .ok (.aload_n 0, 1) := by decide +kernel
theorem dX1_valuesFulfilling_33 : decode cX1_valuesFulfilling 33 = .ok (.getfield 33, 3) := by decide +kernel
theorem dX1_valuesFulfilling_36 : decode cX1_valuesFulfilling 36 = .ok (.iload 5, 2) := by decide +kernel
theorem dX1_valuesFulfilling_38 : decode cX1_valuesFulfilling 38 = .ok (.invokestatic 147, 3) := by decide +kernel
theorem dX1_valuesFulfilling_41 : decode cX1_valuesFulfilling 41 = .ok (.land, 1) := by decide +kernel
theorem dX1_valuesFulfilling_42 : decode cX1_valuesFulfilling 42 = .ok (.lstore_n 3, 1) := by decide +kernel
theorem dX1_valuesFulfilling_43 : decode cX1_valuesFulfilling 43 = .ok (.iinc 5 1, 3) := by decide +kernel
theorem dX1_valuesFulfilling_46 : decode cX1_valuesFulfilling 46 = .ok (.goto (-39), 3) := by decide +kernel
theorem dX1_valuesFulfilling_49 : decode cX1_valuesFulfilling 49 = .ok (.lload_n 3, 1) := by decide +kernel
theorem dX1_valuesFulfilling_50 : decode cX1_valuesFulfilling 50 = .ok (.lreturn, 1) := by decide +kernel
set_option maxRecDepth 20000 in
theorem ggX1_clausesBrokenBy_X1_isDropped : GoodIn wsX1_clausesBrokenBy wsX1_isDropped := goodIn_r _ [7, 8, 9, 10, 11, 18, 19, 20, 21, 22, 23, 24, 25, 26, 27, 28, 29, 30] (by decide +kernel) (by decide +kernel)
set_option maxRecDepth 20000 in
theorem gX1_clausesBrokenBy_X1_isDropped : GoodIn wsX1_clausesBrokenBy (wsV RX1 80 RX1 yX1_isDropped wsX1_isDropped) := goodIn_app (goodIn_of _ (by decide +kernel)) ggX1_clausesBrokenBy_X1_isDropped
set_option maxRecDepth 20000 in
theorem ggX1_clausesBrokenBy_X3_longAt : GoodIn wsX1_clausesBrokenBy wsX3_longAt := goodIn_r _ [13] (by decide +kernel) (by decide +kernel)
set_option maxRecDepth 20000 in
theorem gX1_clausesBrokenBy_X3_longAt_n147 : GoodIn wsX1_clausesBrokenBy (wsX3_longAt) := ggX1_clausesBrokenBy_X3_longAt
set_option maxRecDepth 20000 in
theorem ggX1_clausesBrokenBy_X3_isIn : GoodIn wsX1_clausesBrokenBy wsX3_isIn := goodIn_r _ [15] (by decide +kernel) (by decide +kernel)
set_option maxRecDepth 20000 in
theorem gX1_clausesBrokenBy_X3_isIn_n76 : GoodIn wsX1_clausesBrokenBy (wsX3_isIn) := ggX1_clausesBrokenBy_X3_isIn
set_option maxRecDepth 20000 in
theorem ggX1_clausesBrokenBy_X3_setOf : GoodIn wsX1_clausesBrokenBy wsX3_setOf := goodIn_r _ [17] (by decide +kernel) (by decide +kernel)
set_option maxRecDepth 20000 in
theorem gX1_clausesBrokenBy_X3_setOf_n139 : GoodIn wsX1_clausesBrokenBy (wsX3_setOf) := ggX1_clausesBrokenBy_X3_setOf
theorem dX1_clausesBrokenBy_0 : decode cX1_clausesBrokenBy 0 = .ok (.lconst 0, 1) := by decide +kernel
theorem dX1_clausesBrokenBy_1 : decode cX1_clausesBrokenBy 1 = .ok (.lstore_n 2, 1) := by decide +kernel
theorem dX1_clausesBrokenBy_2 : decode cX1_clausesBrokenBy 2 = .ok (.iconst 0, 1) := by decide +kernel
theorem dX1_clausesBrokenBy_3 : decode cX1_clausesBrokenBy 3 = .ok (.istore 4, 2) := by decide +kernel
theorem dX1_clausesBrokenBy_5 : decode cX1_clausesBrokenBy 5 = .ok (.iload 4, 2) := by decide +kernel
theorem dX1_clausesBrokenBy_7 : decode cX1_clausesBrokenBy 7 = .ok (.aload_n 0, 1) := by decide +kernel
theorem dX1_clausesBrokenBy_8 : decode cX1_clausesBrokenBy 8 = .ok (.getfield 37, 3) := by decide +kernel
theorem dX1_clausesBrokenBy_11 : decode cX1_clausesBrokenBy 11 = .ok (.if_icmp .ge 42, 3) := by decide +kernel
theorem dX1_clausesBrokenBy_14 : decode cX1_clausesBrokenBy 14 = .ok (.aload_n 0, 1) := by decide +kernel
theorem dX1_clausesBrokenBy_15 : decode cX1_clausesBrokenBy 15 = .ok (.iload 4, 2) := by decide +kernel
theorem dX1_clausesBrokenBy_17 : decode cX1_clausesBrokenBy 17 = .ok (.invokevirtual 80, 3) := by decide +kernel
theorem dX1_clausesBrokenBy_20 : decode cX1_clausesBrokenBy 20 = .ok (.ifCond .ne 27, 3) := by decide +kernel
theorem dX1_clausesBrokenBy_23 : decode cX1_clausesBrokenBy 23 = .ok (.aload_n 0, 1) := by decide +kernel
theorem dX1_clausesBrokenBy_24 : decode cX1_clausesBrokenBy 24 = .ok (.getfield 33, 3) := by decide +kernel
theorem dX1_clausesBrokenBy_27 : decode cX1_clausesBrokenBy 27 = .ok (.iload 4, 2) := by decide +kernel
theorem dX1_clausesBrokenBy_29 : decode cX1_clausesBrokenBy 29 = .ok (.invokestatic 147, 3) := by decide +kernel
theorem dX1_clausesBrokenBy_32 : decode cX1_clausesBrokenBy 32 = .ok (.iload_n 1, 1) := by decide +kernel
theorem dX1_clausesBrokenBy_33 : decode cX1_clausesBrokenBy 33 = .ok (.invokestatic 76, 3) := by decide +kernel
theorem dX1_clausesBrokenBy_36 : decode cX1_clausesBrokenBy 36 = .ok (.ifCond .ne 11, 3) := by decide +kernel
theorem dX1_clausesBrokenBy_39 : decode cX1_clausesBrokenBy 39 = .ok (.lload_n 2, 1) := by decide +kernel
theorem dX1_clausesBrokenBy_40 : decode cX1_clausesBrokenBy 40 = .ok (.iload 4, 2) := by decide +kernel
theorem dX1_clausesBrokenBy_42 : decode cX1_clausesBrokenBy 42 = .ok (.invokestatic 139, 3) := by decide +kernel
theorem dX1_clausesBrokenBy_45 : decode cX1_clausesBrokenBy 45 = .ok (.lor, 1) := by decide +kernel
theorem dX1_clausesBrokenBy_46 : decode cX1_clausesBrokenBy 46 = .ok (.lstore_n 2, 1) := by decide +kernel
theorem dX1_clausesBrokenBy_47 : decode cX1_clausesBrokenBy 47 = .ok (.iinc 4 1, 3) := by decide +kernel
theorem dX1_clausesBrokenBy_50 : decode cX1_clausesBrokenBy 50 = .ok (.goto (-45), 3) := by decide +kernel
theorem dX1_clausesBrokenBy_53 : decode cX1_clausesBrokenBy 53 = .ok (.lload_n 2, 1) := by decide +kernel
theorem dX1_clausesBrokenBy_54 : decode cX1_clausesBrokenBy 54 = .ok (.lreturn, 1) := by decide +kernel
set_option maxRecDepth 20000 in
theorem ggX1_fewestUnfulfillable_X3_setOf : GoodIn wsX1_fewestUnfulfillable wsX3_setOf := goodIn_r _ [5] (by decide +kernel) (by decide +kernel)
set_option maxRecDepth 20000 in
theorem gX1_fewestUnfulfillable_X3_setOf_n139 : GoodIn wsX1_fewestUnfulfillable (wsX3_setOf) := ggX1_fewestUnfulfillable_X3_setOf
set_option maxRecDepth 20000 in
theorem ggX1_fewestUnfulfillable_X1_valuesFulfilling : GoodIn wsX1_fewestUnfulfillable wsX1_valuesFulfilling := goodIn_r _ [10, 2, 1, 11, 12, 4, 13, 14, 15, 16, 17, 18, 19, 20, 21, 22, 23, 24, 25, 26, 27, 28] (by decide +kernel) (by decide +kernel)
set_option maxRecDepth 20000 in
theorem gX1_fewestUnfulfillable_X1_valuesFulfilling : GoodIn wsX1_fewestUnfulfillable (wsV RX1 151 RX1 yX1_valuesFulfilling wsX1_valuesFulfilling) := goodIn_app (goodIn_of _ (by decide +kernel)) ggX1_fewestUnfulfillable_X1_valuesFulfilling
theorem dX1_fewestUnfulfillable_0 : decode cX1_fewestUnfulfillable 0 = .ok (.lload_n 1, 1) := by decide +kernel
theorem dX1_fewestUnfulfillable_1 : decode cX1_fewestUnfulfillable 1 = .ok (.lstore_n 3, 1) := by decide +kernel
theorem dX1_fewestUnfulfillable_2 : decode cX1_fewestUnfulfillable 2 = .ok (.iconst 0, 1) := by decide +kernel
theorem dX1_fewestUnfulfillable_3 : decode cX1_fewestUnfulfillable 3 = .ok (.istore 5, 2) := by decide +kernel
theorem dX1_fewestUnfulfillable_5 : decode cX1_fewestUnfulfillable 5 = .ok (.iload 5, 2) := by decide +kernel
theorem dX1_fewestUnfulfillable_7 : decode cX1_fewestUnfulfillable 7 = .ok (.aload_n 0, 1) := by decide +kernel
theorem dX1_fewestUnfulfillable_8 : decode cX1_fewestUnfulfillable 8 = .ok (.getfield 37, 3) := by decide +kernel
theorem dX1_fewestUnfulfillable_11 : decode cX1_fewestUnfulfillable 11 = .ok (.if_icmp .ge 36, 3) := by decide +kernel
theorem dX1_fewestUnfulfillable_14 : decode cX1_fewestUnfulfillable 14 = .ok (.lload_n 3, 1) := by decide +kernel
theorem dX1_fewestUnfulfillable_15 : decode cX1_fewestUnfulfillable 15 = .ok (.iload 5, 2) := by decide +kernel
theorem dX1_fewestUnfulfillable_17 : decode cX1_fewestUnfulfillable 17 = .ok (.invokestatic 139, 3) := by decide +kernel
theorem dX1_fewestUnfulfillable_20 : decode cX1_fewestUnfulfillable 20 = .ok (.ldc2_w 145, 3) := by decide +kernel
theorem dX1_fewestUnfulfillable_23 : decode cX1_fewestUnfulfillable 23 = .ok (.lxor, 1) := by decide +kernel
theorem dX1_fewestUnfulfillable_24 : decode cX1_fewestUnfulfillable 24 = .ok (.land, 1) := by decide +kernel
theorem dX1_fewestUnfulfillable_25 : decode cX1_fewestUnfulfillable 25 = .ok (.lstore 6, 2) := by decide +kernel
theorem dX1_fewestUnfulfillable_27 : decode cX1_fewestUnfulfillable 27 = .ok (.aload_n 0, 1) := by decide +kernel
theorem dX1_fewestUnfulfillable_28 : decode cX1_fewestUnfulfillable 28 = .ok (.lload 6, 2) := by decide +kernel
theorem dX1_fewestUnfulfillable_30 : decode cX1_fewestUnfulfillable 30 = .ok (.invokevirtual 151, 3) := by decide +kernel
theorem dX1_fewestUnfulfillable_33 : decode cX1_fewestUnfulfillable 33 = .ok (.lconst 0, 1) := by decide +kernel
theorem dX1_fewestUnfulfillable_34 : decode cX1_fewestUnfulfillable 34 = .ok (.lcmp, 1) := by decide +kernel
theorem dX1_fewestUnfulfillable_35 : decode cX1_fewestUnfulfillable 35 = .ok (.ifCond .ne 6, 3) := by decide +kernel
theorem dX1_fewestUnfulfillable_38 : decode cX1_fewestUnfulfillable 38 = .ok (.lload 6, 2) := by decide +kernel
theorem dX1_fewestUnfulfillable_40 : decode cX1_fewestUnfulfillable 40 = .ok (.lstore_n 3, 1) := by decide +kernel
theorem dX1_fewestUnfulfillable_41 : decode cX1_fewestUnfulfillable 41 = .ok (.iinc 5 1, 3) := by decide +kernel
theorem dX1_fewestUnfulfillable_44 : decode cX1_fewestUnfulfillable 44 = .ok (.goto (-39), 3) := by decide +kernel
theorem dX1_fewestUnfulfillable_47 : decode cX1_fewestUnfulfillable 47 = .ok (.lload_n 3, 1) := by decide +kernel
theorem dX1_fewestUnfulfillable_48 : decode cX1_fewestUnfulfillable 48 = .ok (.lreturn, 1) := by decide +kernel
theorem dX2_init_0 : decode cX2_init 0 = .ok (.aload_n 0, 1) := by decide +kernel
theorem dX2_init_1 : decode cX2_init 1 = .ok (.invokespecial 3, 3) := by decide +kernel
theorem dX2_init_4 : decode cX2_init 4 = .ok (.aload_n 0, 1) := by decide +kernel
theorem dX2_init_5 : decode cX2_init 5 = .ok (.bipush 60, 2) := by decide +kernel
theorem dX2_init_7 : decode cX2_init 7 = .ok (.newarray .int, 2) := by decide +kernel
theorem dX2_init_9 : decode cX2_init 9 = .ok (.putfield 9, 3) := by decide +kernel
theorem dX2_init_12 : decode cX2_init 12 = .ok (.aload_n 0, 1) := by decide +kernel
theorem dX2_init_13 : decode cX2_init 13 = .ok (.iconst 0, 1) := by decide +kernel
theorem dX2_init_14 : decode cX2_init 14 = .ok (.putfield 15, 3) := by decide +kernel
theorem dX2_init_17 : decode cX2_init 17 = .ok (.return_, 1) := by decide +kernel
set_option maxRecDepth 20000 in
theorem ggX2_add_X3_put : GoodIn wsX2_add wsX3_put := goodIn_r _ [5] (by decide +kernel) (by decide +kernel)
set_option maxRecDepth 20000 in
theorem gX2_add_X3_put_n19 : GoodIn wsX2_add (wsX3_put) := ggX2_add_X3_put
theorem dX2_add_0 : decode cX2_add 0 = .ok (.aload_n 0, 1) := by decide +kernel
theorem dX2_add_1 : decode cX2_add 1 = .ok (.getfield 15, 3) := by decide +kernel
theorem dX2_add_4 : decode cX2_add 4 = .ok (.bipush 60, 2) := by decide +kernel
theorem dX2_add_6 : decode cX2_add 6 = .ok (.if_icmp .lt 5, 3) := by decide +kernel
theorem dX2_add_9 : decode cX2_add 9 = .ok (.iconst 0, 1) := by decide +kernel
theorem dX2_add_10 : decode cX2_add 10 = .ok (.ireturn, 1) := by decide +kernel
theorem dX2_add_11 : decode cX2_add 11 = .ok (.aload_n 0, 1) := by decide +kernel
theorem dX2_add_12 : decode cX2_add 12 = .ok (.getfield 9, 3) := by decide +kernel
theorem dX2_add_15 : decode cX2_add 15 = .ok (.aload_n 0, 1) := by decide +kernel
theorem dX2_add_16 : decode cX2_add 16 = .ok (.getfield 15, 3) := by decide +kernel
theorem dX2_add_19 : decode cX2_add 19 = .ok (.iload_n 1, 1) := by decide +kernel
theorem dX2_add_20 : decode cX2_add 20 = .ok (.invokestatic 19, 3) := by decide +kernel
theorem dX2_add_23 : decode cX2_add 23 = .ok (.aload_n 0, 1) := by decide +kernel
theorem dX2_add_24 : decode cX2_add 24 = .ok (.dup, 1) := by decide +kernel
theorem dX2_add_25 : decode cX2_add 25 = .ok (.getfield 15, 3) := by decide +kernel
theorem dX2_add_28 : decode cX2_add 28 = .ok (.iconst 1, 1) := by decide +kernel
theorem dX2_add_29 : decode cX2_add 29 = .ok (.iadd, 1) := by decide +kernel
theorem dX2_add_30 : decode cX2_add 30 = .ok (.putfield 15, 3) := by decide +kernel
theorem dX2_add_33 : decode cX2_add 33 = .ok (.iconst 1, 1) := by decide +kernel
theorem dX2_add_34 : decode cX2_add 34 = .ok (.ireturn, 1) := by decide +kernel
set_option maxRecDepth 20000 in
theorem ggX2_whereItBreaksOff_X3_at : GoodIn wsX2_whereItBreaksOff wsX3_at := goodIn_r _ [5] (by decide +kernel) (by decide +kernel)
set_option maxRecDepth 20000 in
theorem gX2_whereItBreaksOff_X3_at_n23 : GoodIn wsX2_whereItBreaksOff (wsX3_at) := ggX2_whereItBreaksOff_X3_at
theorem dX2_whereItBreaksOff_0 : decode cX2_whereItBreaksOff 0 = .ok (.iconst 0, 1) := by decide +kernel
theorem dX2_whereItBreaksOff_1 : decode cX2_whereItBreaksOff 1 = .ok (.istore_n 1, 1) := by decide +kernel
theorem dX2_whereItBreaksOff_2 : decode cX2_whereItBreaksOff 2 = .ok (.iconst 0, 1) := by decide +kernel
theorem dX2_whereItBreaksOff_3 : decode cX2_whereItBreaksOff 3 = .ok (.istore_n 2, 1) := by decide +kernel
theorem dX2_whereItBreaksOff_4 : decode cX2_whereItBreaksOff 4 = .ok (.iload_n 2, 1) := by decide +kernel
theorem dX2_whereItBreaksOff_5 : decode cX2_whereItBreaksOff 5 = .ok (.aload_n 0, 1) := by decide +kernel
theorem dX2_whereItBreaksOff_6 : decode cX2_whereItBreaksOff 6 = .ok (.getfield 15, 3) := by decide +kernel
theorem dX2_whereItBreaksOff_9 : decode cX2_whereItBreaksOff 9 = .ok (.if_icmp .ge 72, 3) := by decide +kernel
theorem dX2_whereItBreaksOff_12 : decode cX2_whereItBreaksOff 12 = .ok (.aload_n 0, 1) := by decide +kernel
theorem dX2_whereItBreaksOff_13 : decode cX2_whereItBreaksOff 13 = .ok (.getfield 9, 3) := by decide +kernel
theorem dX2_whereItBreaksOff_16 : decode cX2_whereItBreaksOff 16 = .ok (.iload_n 2, 1) := by decide +kernel
theorem dX2_whereItBreaksOff_17 : decode cX2_whereItBreaksOff 17 = .ok (.invokestatic 23, 3) := by decide +kernel
theorem dX2_whereItBreaksOff_20 : decode cX2_whereItBreaksOff 20 = .ok (.istore_n 3, 1) := by decide +kernel
theorem dX2_whereItBreaksOff_21 : decode cX2_whereItBreaksOff 21 = .ok (.iload_n 3, 1) := by decide +kernel
theorem dX2_whereItBreaksOff_22 : decode cX2_whereItBreaksOff 22 = .ok (.bipush 97, 2) := by decide +kernel
theorem dX2_whereItBreaksOff_24 : decode cX2_whereItBreaksOff 24 = .ok (.if_icmp .lt 13, 3) := by decide +kernel
theorem dX2_whereItBreaksOff_27 : decode cX2_whereItBreaksOff 27 = .ok (.iload_n 3, 1) := by decide +kernel
theorem dX2_whereItBreaksOff_28 : decode cX2_whereItBreaksOff 28 = .ok (.bipush 103, 2) := by decide +kernel
theorem dX2_whereItBreaksOff_30 : decode cX2_whereItBreaksOff 30 = .ok (.if_icmp .ge 7, 3) := by decide +kernel
theorem dX2_whereItBreaksOff_33 : decode cX2_whereItBreaksOff 33 = .ok (.iconst 1, 1) := by decide +kernel
theorem dX2_whereItBreaksOff_34 : decode cX2_whereItBreaksOff 34 = .ok (.goto 4, 3) := by decide +kernel
theorem dX2_whereItBreaksOff_37 : decode cX2_whereItBreaksOff 37 = .ok (.iconst 0, 1) := by decide +kernel
theorem dX2_whereItBreaksOff_38 : decode cX2_whereItBreaksOff 38 = .ok (.istore 4, 2) := by decide +kernel
theorem dX2_whereItBreaksOff_40 : decode cX2_whereItBreaksOff 40 = .ok (.iload 4, 2) := by decide +kernel
theorem dX2_whereItBreaksOff_42 : decode cX2_whereItBreaksOff 42 = .ok (.ifCond .ne 21, 3) := by decide +kernel
theorem dX2_whereItBreaksOff_45 : decode cX2_whereItBreaksOff 45 = .ok (.iload_n 1, 1) := by decide +kernel
theorem dX2_whereItBreaksOff_46 : decode cX2_whereItBreaksOff 46 = .ok (.ifCond .ne 15, 3) := by decide +kernel
theorem dX2_whereItBreaksOff_49 : decode cX2_whereItBreaksOff 49 = .ok (.iload_n 3, 1) := by decide +kernel
theorem dX2_whereItBreaksOff_50 : decode cX2_whereItBreaksOff 50 = .ok (.bipush 45, 2) := by decide +kernel
theorem dX2_whereItBreaksOff_52 : decode cX2_whereItBreaksOff 52 = .ok (.if_icmp .eq 11, 3) := by decide +kernel
theorem dX2_whereItBreaksOff_55 : decode cX2_whereItBreaksOff 55 = .ok (.iload_n 3, 1) := by decide +kernel
theorem dX2_whereItBreaksOff_56 : decode cX2_whereItBreaksOff 56 = .ok (.bipush 59, 2) := by decide +kernel
theorem dX2_whereItBreaksOff_58 : decode cX2_whereItBreaksOff 58 = .ok (.if_icmp .eq 5, 3) := by decide +kernel
theorem dX2_whereItBreaksOff_61 : decode cX2_whereItBreaksOff 61 = .ok (.iload_n 2, 1) := by decide +kernel
theorem dX2_whereItBreaksOff_62 : decode cX2_whereItBreaksOff 62 = .ok (.ireturn, 1) := by decide +kernel
theorem dX2_whereItBreaksOff_63 : decode cX2_whereItBreaksOff 63 = .ok (.iload_n 3, 1) := by decide +kernel
theorem dX2_whereItBreaksOff_64 : decode cX2_whereItBreaksOff 64 = .ok (.bipush 45, 2) := by decide +kernel
theorem dX2_whereItBreaksOff_66 : decode cX2_whereItBreaksOff 66 = .ok (.if_icmp .ne 7, 3) := by decide +kernel
theorem dX2_whereItBreaksOff_69 : decode cX2_whereItBreaksOff 69 = .ok (.iconst 1, 1) := by decide +kernel
theorem dX2_whereItBreaksOff_70 : decode cX2_whereItBreaksOff 70 = .ok (.goto 4, 3) := by decide +kernel
theorem dX2_whereItBreaksOff_73 : decode cX2_whereItBreaksOff 73 = .ok (.iconst 0, 1) := by decide +kernel
theorem dX2_whereItBreaksOff_74 : decode cX2_whereItBreaksOff 74 = .ok (.istore_n 1, 1) := by decide +kernel
end
section
theorem dX2_whereItBreaksOff_75 : decode cX2_whereItBreaksOff 75 = .ok (.iinc 2 1, 3) := by decide +kernel
theorem dX2_whereItBreaksOff_78 : decode cX2_whereItBreaksOff 78 = .ok (.goto (-74), 3) := by decide +kernel
theorem dX2_whereItBreaksOff_81 : decode cX2_whereItBreaksOff 81 = .ok (.aload_n 0, 1) := by decide +kernel
theorem dX2_whereItBreaksOff_82 : decode cX2_whereItBreaksOff 82 = .ok (.getfield 15, 3) := by decide +kernel
theorem dX2_whereItBreaksOff_85 : decode cX2_whereItBreaksOff 85 = .ok (.ifCond .eq 21, 3) := by decide +kernel
theorem dX2_whereItBreaksOff_88 : decode cX2_whereItBreaksOff 88 = .ok (.aload_n 0, 1) := by decide +kernel
theorem dX2_whereItBreaksOff_89 : decode cX2_whereItBreaksOff 89 = .ok (.getfield 9, 3) := by decide +kernel
theorem dX2_whereItBreaksOff_92 : decode cX2_whereItBreaksOff 92 = .ok (.aload_n 0, 1) := by decide +kernel
theorem dX2_whereItBreaksOff_93 : decode cX2_whereItBreaksOff 93 = .ok (.getfield 15, 3) := by decide +kernel
theorem dX2_whereItBreaksOff_96 : decode cX2_whereItBreaksOff 96 = .ok (.iconst 1, 1) := by decide +kernel
theorem dX2_whereItBreaksOff_97 : decode cX2_whereItBreaksOff 97 = .ok (.isub, 1) := by decide +kernel
theorem dX2_whereItBreaksOff_98 : decode cX2_whereItBreaksOff 98 = .ok (.invokestatic 23, 3) := by decide +kernel
theorem dX2_whereItBreaksOff_101 : decode cX2_whereItBreaksOff 101 = .ok (.bipush 59, 2) := by decide +kernel
theorem dX2_whereItBreaksOff_103 : decode cX2_whereItBreaksOff 103 = .ok (.if_icmp .ne 7, 3) := by decide +kernel
theorem dX2_whereItBreaksOff_106 : decode cX2_whereItBreaksOff 106 = .ok (.iconst (-1), 1) := by decide +kernel
theorem dX2_whereItBreaksOff_107 : decode cX2_whereItBreaksOff 107 = .ok (.goto 7, 3) := by decide +kernel
theorem dX2_whereItBreaksOff_110 : decode cX2_whereItBreaksOff 110 = .ok (.aload_n 0, 1) := by decide +kernel
theorem dX2_whereItBreaksOff_111 : decode cX2_whereItBreaksOff 111 = .ok (.getfield 15, 3) := by decide +kernel
theorem dX2_whereItBreaksOff_114 : decode cX2_whereItBreaksOff 114 = .ok (.ireturn, 1) := by decide +kernel
set_option maxRecDepth 20000 in
theorem ggX2_startOfClause_X3_at : GoodIn wsX2_startOfClause wsX3_at := goodIn_r _ [4] (by decide +kernel) (by decide +kernel)
set_option maxRecDepth 20000 in
theorem gX2_startOfClause_X3_at_n23 : GoodIn wsX2_startOfClause (wsX3_at) := ggX2_startOfClause_X3_at
theorem dX2_startOfClause_0 : decode cX2_startOfClause 0 = .ok (.iload_n 1, 1) := by decide +kernel
theorem dX2_startOfClause_1 : decode cX2_startOfClause 1 = .ok (.iconst 1, 1) := by decide +kernel
theorem dX2_startOfClause_2 : decode cX2_startOfClause 2 = .ok (.isub, 1) := by decide +kernel
theorem dX2_startOfClause_3 : decode cX2_startOfClause 3 = .ok (.istore_n 2, 1) := by decide +kernel
theorem dX2_startOfClause_4 : decode cX2_startOfClause 4 = .ok (.iload_n 2, 1) := by decide +kernel
theorem dX2_startOfClause_5 : decode cX2_startOfClause 5 = .ok (.ifCond .lt 26, 3) := by decide +kernel
theorem dX2_startOfClause_8 : decode cX2_startOfClause 8 = .ok (.aload_n 0, 1) := by decide +kernel
theorem dX2_startOfClause_9 : decode cX2_startOfClause 9 = .ok (.getfield 9, 3) := by decide +kernel
theorem dX2_startOfClause_12 : decode cX2_startOfClause 12 = .ok (.iload_n 2, 1) := by decide +kernel
theorem dX2_startOfClause_13 : decode cX2_startOfClause 13 = .ok (.invokestatic 23, 3) := by decide +kernel
theorem dX2_startOfClause_16 : decode cX2_startOfClause 16 = .ok (.bipush 59, 2) := by decide +kernel
theorem dX2_startOfClause_18 : decode cX2_startOfClause 18 = .ok (.if_icmp .ne 7, 3) := by decide +kernel
theorem dX2_startOfClause_21 : decode cX2_startOfClause 21 = .ok (.iload_n 2, 1) := by decide +kernel
theorem dX2_startOfClause_22 : decode cX2_startOfClause 22 = .ok (.iconst 1, 1) := by decide +kernel
theorem dX2_startOfClause_23 : decode cX2_startOfClause 23 = .ok (.iadd, 1) := by decide +kernel
theorem dX2_startOfClause_24 : decode cX2_startOfClause 24 = .ok (.ireturn, 1) := by decide +kernel
theorem dX2_startOfClause_25 : decode cX2_startOfClause 25 = .ok (.iinc 2 (-1), 3) := by decide +kernel
theorem dX2_startOfClause_28 : decode cX2_startOfClause 28 = .ok (.goto (-24), 3) := by decide +kernel
theorem dX2_startOfClause_31 : decode cX2_startOfClause 31 = .ok (.iconst 0, 1) := by decide +kernel
theorem dX2_startOfClause_32 : decode cX2_startOfClause 32 = .ok (.ireturn, 1) := by decide +kernel
set_option maxRecDepth 20000 in
theorem ggX3_init_X1_init : GoodIn wsX3_init wsX1_init := goodIn_r _ [17, 18, 2, 3, 19, 20, 21, 22, 23, 24, 25, 26, 27, 28, 29, 30, 31, 32, 33, 34, 35, 36, 48, 49, 50, 51, 52, 53, 54, 55, 56, 57, 58, 59, 60] (by decide +kernel) (by decide +kernel)
set_option maxRecDepth 20000 in
theorem gX3_init_X1_init_n9 : GoodIn wsX3_init (wsX1_init) := ggX3_init_X1_init
set_option maxRecDepth 20000 in
theorem ggX3_init_X0_init : GoodIn wsX3_init wsX0_init := goodIn_r _ [38, 39, 2, 3, 40, 41, 42, 5, 6, 16, 17, 18, 19, 20, 21, 22, 23, 24, 25, 26, 27, 28, 29, 30, 31, 32, 33, 34, 35, 36, 64, 65, 48, 49, 50, 51, 52, 53, 54, 55, 56, 57, 58, 59, 60] (by decide +kernel) (by decide +kernel)
set_option maxRecDepth 20000 in
theorem gX3_init_X0_init_n18 : GoodIn wsX3_init (wsX0_init) := ggX3_init_X0_init
set_option maxRecDepth 20000 in
theorem ggX3_init_X2_init : GoodIn wsX3_init wsX2_init := goodIn_r _ [44, 45, 2, 3, 19, 46, 47, 66, 67] (by decide +kernel) (by decide +kernel)
set_option maxRecDepth 20000 in
theorem gX3_init_X2_init_n25 : GoodIn wsX3_init (wsX2_init) := ggX3_init_X2_init
theorem dX3_init_0 : decode cX3_init 0 = .ok (.aload_n 0, 1) := by decide +kernel
theorem dX3_init_1 : decode cX3_init 1 = .ok (.invokespecial 1, 3) := by decide +kernel
theorem dX3_init_4 : decode cX3_init 4 = .ok (.aload_n 0, 1) := by decide +kernel
theorem dX3_init_5 : decode cX3_init 5 = .ok (.new 7, 3) := by decide +kernel
theorem dX3_init_8 : decode cX3_init 8 = .ok (.dup, 1) := by decide +kernel
theorem dX3_init_9 : decode cX3_init 9 = .ok (.invokespecial 9, 3) := by decide +kernel
theorem dX3_init_12 : decode cX3_init 12 = .ok (.putfield 10, 3) := by decide +kernel
theorem dX3_init_15 : decode cX3_init 15 = .ok (.aload_n 0, 1) := by decide +kernel
theorem dX3_init_16 : decode cX3_init 16 = .ok (.new 16, 3) := by decide +kernel
theorem dX3_init_19 : decode cX3_init 19 = .ok (.dup, 1) := by decide +kernel
theorem dX3_init_20 : decode cX3_init 20 = .ok (.invokespecial 18, 3) := by decide +kernel
theorem dX3_init_23 : decode cX3_init 23 = .ok (.putfield 19, 3) := by decide +kernel
theorem dX3_init_26 : decode cX3_init 26 = .ok (.aload_n 0, 1) := by decide +kernel
theorem dX3_init_27 : decode cX3_init 27 = .ok (.new 23, 3) := by decide +kernel
theorem dX3_init_30 : decode cX3_init 30 = .ok (.dup, 1) := by decide +kernel
theorem dX3_init_31 : decode cX3_init 31 = .ok (.invokespecial 25, 3) := by decide +kernel
theorem dX3_init_34 : decode cX3_init 34 = .ok (.putfield 26, 3) := by decide +kernel
theorem dX3_init_37 : decode cX3_init 37 = .ok (.return_, 1) := by decide +kernel
set_option maxRecDepth 20000 in
theorem ggX3_tell_X0_putAside : GoodIn wsX3_tell wsX0_putAside := goodIn_r _ [7, 8, 9, 10, 11, 5, 12, 13, 14, 15, 16, 17, 18, 19, 20, 21, 22, 23, 24, 25, 26, 27, 28, 29, 30, 31, 32, 33, 34, 35, 36, 37, 38, 39, 40, 41, 42, 43, 101, 102, 103, 104, 105, 106, 107, 108, 109, 110, 111, 112, 113, 114, 115] (by decide +kernel) (by decide +kernel)
set_option maxRecDepth 20000 in
theorem gX3_tell_X0_putAside_n31 : GoodIn wsX3_tell (wsX0_putAside) := ggX3_tell_X0_putAside
set_option maxRecDepth 20000 in
theorem ggX3_tell_X1_bring : GoodIn wsX3_tell wsX1_bring := goodIn_r _ [46, 29, 30, 26, 47, 48, 32, 49, 50, 51, 52, 15, 53, 19, 54, 55, 56, 57, 20, 58, 59, 60, 61, 62, 63, 64, 65, 66, 67, 68, 69, 70, 71, 21, 22, 23, 24, 72, 73, 36, 74, 25, 75, 76, 77, 78, 79, 80, 81, 82, 83, 103, 104, 105, 106, 107, 108, 109, 110, 111, 112, 113, 114, 115] (by decide +kernel) (by decide +kernel)
set_option maxRecDepth 20000 in
theorem gX3_tell_X1_bring_n35 : GoodIn wsX3_tell (wsX1_bring) := ggX3_tell_X1_bring
set_option maxRecDepth 20000 in
theorem ggX3_tell_X3_settle : GoodIn wsX3_tell wsX3_settle := goodIn_r _ [87, 1, 2, 3, 88, 5, 89, 90, 8, 9, 10, 11, 12, 13, 14, 15, 16, 17, 18, 19, 20, 21, 22, 23, 24, 25, 26, 27, 28, 29, 30, 31, 32, 33, 34, 35, 36, 37, 38, 39, 40, 41, 42, 43, 91, 92, 93, 94, 95, 96, 97, 98, 99, 100, 101, 102, 103, 104, 105, 106, 107, 108, 109, 110, 111, 112, 113, 114, 115] (by decide +kernel) (by decide +kernel)
set_option maxRecDepth 20000 in
theorem gX3_tell_X3_settle : GoodIn wsX3_tell (wsV RX3 39 RX3 yX3_settle wsX3_settle) := goodIn_app (goodIn_of _ (by decide +kernel)) ggX3_tell_X3_settle
theorem dX3_tell_0 : decode cX3_tell 0 = .ok (.iload_n 1, 1) := by decide +kernel
theorem dX3_tell_1 : decode cX3_tell 1 = .ok (.ifCond .lt 10, 3) := by decide +kernel
theorem dX3_tell_4 : decode cX3_tell 4 = .ok (.iload_n 1, 1) := by decide +kernel
theorem dX3_tell_5 : decode cX3_tell 5 = .ok (.sipush 4095, 3) := by decide +kernel
theorem dX3_tell_8 : decode cX3_tell 8 = .ok (.if_icmp .le 6, 3) := by decide +kernel
theorem dX3_tell_11 : decode cX3_tell 11 = .ok (.ldc 30, 2) := by decide +kernel
theorem dX3_tell_13 : decode cX3_tell 13 = .ok (.ireturn, 1) := by decide +kernel
theorem dX3_tell_14 : decode cX3_tell 14 = .ok (.aload_n 0, 1) := by decide +kernel
theorem dX3_tell_15 : decode cX3_tell 15 = .ok (.getfield 19, 3) := by decide +kernel
theorem dX3_tell_18 : decode cX3_tell 18 = .ok (.aload_n 0, 1) := by decide +kernel
theorem dX3_tell_19 : decode cX3_tell 19 = .ok (.getfield 10, 3) := by decide +kernel
theorem dX3_tell_22 : decode cX3_tell 22 = .ok (.invokevirtual 31, 3) := by decide +kernel
theorem dX3_tell_25 : decode cX3_tell 25 = .ok (.aload_n 0, 1) := by decide +kernel
theorem dX3_tell_26 : decode cX3_tell 26 = .ok (.aload_n 0, 1) := by decide +kernel
theorem dX3_tell_27 : decode cX3_tell 27 = .ok (.getfield 10, 3) := by decide +kernel
theorem dX3_tell_30 : decode cX3_tell 30 = .ok (.iload_n 1, 1) := by decide +kernel
theorem dX3_tell_31 : decode cX3_tell 31 = .ok (.iconst (-1), 1) := by decide +kernel
theorem dX3_tell_32 : decode cX3_tell 32 = .ok (.iconst (-1), 1) := by decide +kernel
theorem dX3_tell_33 : decode cX3_tell 33 = .ok (.iconst (-1), 1) := by decide +kernel
theorem dX3_tell_34 : decode cX3_tell 34 = .ok (.invokevirtual 35, 3) := by decide +kernel
theorem dX3_tell_37 : decode cX3_tell 37 = .ok (.invokevirtual 39, 3) := by decide +kernel
theorem dX3_tell_40 : decode cX3_tell 40 = .ok (.ireturn, 1) := by decide +kernel
set_option maxRecDepth 20000 in
theorem ggX3_rank_X0_putAside : GoodIn wsX3_rank wsX0_putAside := goodIn_r _ [7, 8, 9, 10, 11, 5, 12, 13, 14, 15, 16, 17, 18, 19, 20, 21, 22, 23, 24, 25, 26, 27, 28, 29, 30, 31, 32, 33, 34, 35, 36, 37, 38, 39, 40, 41, 42, 43, 72, 73, 74, 75, 76, 77, 78, 79, 80, 81, 82, 83, 84, 85, 86] (by decide +kernel) (by decide +kernel)
set_option maxRecDepth 20000 in
theorem gX3_rank_X0_putAside_n31 : GoodIn wsX3_rank (wsX0_putAside) := ggX3_rank_X0_putAside
set_option maxRecDepth 20000 in
theorem ggX3_rank_X1_changeRank : GoodIn wsX3_rank wsX1_changeRank := goodIn_r _ [46, 18, 26, 20, 47, 48, 49, 15, 50, 51, 32, 52, 53, 54, 74, 75, 76, 77, 78, 79, 80, 81, 82, 83, 84, 85, 86] (by decide +kernel) (by decide +kernel)
set_option maxRecDepth 20000 in
theorem gX3_rank_X1_changeRank_n43 : GoodIn wsX3_rank (wsX1_changeRank) := ggX3_rank_X1_changeRank
set_option maxRecDepth 20000 in
theorem ggX3_rank_X3_settle : GoodIn wsX3_rank wsX3_settle := goodIn_r _ [58, 1, 2, 3, 59, 5, 60, 61, 8, 9, 10, 11, 12, 13, 14, 15, 16, 17, 18, 19, 20, 21, 22, 23, 24, 25, 26, 27, 28, 29, 30, 31, 32, 33, 34, 35, 36, 37, 38, 39, 40, 41, 42, 43, 62, 63, 64, 65, 66, 67, 68, 69, 70, 71, 72, 73, 74, 75, 76, 77, 78, 79, 80, 81, 82, 83, 84, 85, 86] (by decide +kernel) (by decide +kernel)
set_option maxRecDepth 20000 in
theorem gX3_rank_X3_settle : GoodIn wsX3_rank (wsV RX3 39 RX3 yX3_settle wsX3_settle) := goodIn_app (goodIn_of _ (by decide +kernel)) ggX3_rank_X3_settle
theorem dX3_rank_0 : decode cX3_rank 0 = .ok (.iload_n 1, 1) := by decide +kernel
theorem dX3_rank_1 : decode cX3_rank 1 = .ok (.ifCond .lt 19, 3) := by decide +kernel
theorem dX3_rank_4 : decode cX3_rank 4 = .ok (.iload_n 1, 1) := by decide +kernel
theorem dX3_rank_5 : decode cX3_rank 5 = .ok (.bipush 6, 2) := by decide +kernel
theorem dX3_rank_7 : decode cX3_rank 7 = .ok (.if_icmp .ge 13, 3) := by decide +kernel
theorem dX3_rank_10 : decode cX3_rank 10 = .ok (.iload_n 2, 1) := by decide +kernel
theorem dX3_rank_11 : decode cX3_rank 11 = .ok (.ifCond .lt 9, 3) := by decide +kernel
theorem dX3_rank_14 : decode cX3_rank 14 = .ok (.iload_n 2, 1) := by decide +kernel
theorem dX3_rank_15 : decode cX3_rank 15 = .ok (.bipush 6, 2) := by decide +kernel
theorem dX3_rank_17 : decode cX3_rank 17 = .ok (.if_icmp .lt 6, 3) := by decide +kernel
theorem dX3_rank_20 : decode cX3_rank 20 = .ok (.ldc 30, 2) := by decide +kernel
theorem dX3_rank_22 : decode cX3_rank 22 = .ok (.ireturn, 1) := by decide +kernel
theorem dX3_rank_23 : decode cX3_rank 23 = .ok (.aload_n 0, 1) := by decide +kernel
theorem dX3_rank_24 : decode cX3_rank 24 = .ok (.getfield 19, 3) := by decide +kernel
theorem dX3_rank_27 : decode cX3_rank 27 = .ok (.aload_n 0, 1) := by decide +kernel
theorem dX3_rank_28 : decode cX3_rank 28 = .ok (.getfield 10, 3) := by decide +kernel
theorem dX3_rank_31 : decode cX3_rank 31 = .ok (.invokevirtual 31, 3) := by decide +kernel
theorem dX3_rank_34 : decode cX3_rank 34 = .ok (.aload_n 0, 1) := by decide +kernel
theorem dX3_rank_35 : decode cX3_rank 35 = .ok (.aload_n 0, 1) := by decide +kernel
theorem dX3_rank_36 : decode cX3_rank 36 = .ok (.getfield 10, 3) := by decide +kernel
theorem dX3_rank_39 : decode cX3_rank 39 = .ok (.iload_n 1, 1) := by decide +kernel
theorem dX3_rank_40 : decode cX3_rank 40 = .ok (.iload_n 2, 1) := by decide +kernel
theorem dX3_rank_41 : decode cX3_rank 41 = .ok (.invokevirtual 43, 3) := by decide +kernel
theorem dX3_rank_44 : decode cX3_rank 44 = .ok (.invokevirtual 39, 3) := by decide +kernel
theorem dX3_rank_47 : decode cX3_rank 47 = .ok (.ireturn, 1) := by decide +kernel
set_option maxRecDepth 20000 in
theorem ggX3_set_X0_putAside : GoodIn wsX3_set wsX0_putAside := goodIn_r _ [7, 8, 9, 10, 11, 5, 12, 13, 14, 15, 16, 17, 18, 19, 20, 21, 22, 23, 24, 25, 26, 27, 28, 29, 30, 31, 32, 33, 34, 35, 36, 37, 38, 39, 40, 41, 42, 43, 74, 75, 61, 62, 63, 64, 65, 66, 67, 68, 69, 70, 71, 72, 73] (by decide +kernel) (by decide +kernel)
set_option maxRecDepth 20000 in
theorem gX3_set_X0_putAside_n31 : GoodIn wsX3_set (wsX0_putAside) := ggX3_set_X0_putAside
set_option maxRecDepth 20000 in
theorem ggX3_set_X3_settle : GoodIn wsX3_set wsX3_settle := goodIn_r _ [47, 1, 2, 3, 48, 5, 49, 50, 8, 9, 10, 11, 12, 13, 14, 15, 16, 17, 18, 19, 20, 21, 22, 23, 24, 25, 26, 27, 28, 29, 30, 31, 32, 33, 34, 35, 36, 37, 38, 39, 40, 41, 42, 43, 51, 52, 53, 54, 55, 56, 57, 58, 59, 60, 74, 75, 61, 62, 63, 64, 65, 66, 67, 68, 69, 70, 71, 72, 73] (by decide +kernel) (by decide +kernel)
set_option maxRecDepth 20000 in
theorem gX3_set_X3_settle : GoodIn wsX3_set (wsV RX3 39 RX3 yX3_settle wsX3_settle) := goodIn_app (goodIn_of _ (by decide +kernel)) ggX3_set_X3_settle
theorem dX3_set_0 : decode cX3_set 0 = .ok (.iload_n 1, 1) := by decide +kernel
theorem dX3_set_1 : decode cX3_set 1 = .ok (.iconst 1, 1) := by decide +kernel
theorem dX3_set_2 : decode cX3_set 2 = .ok (.if_icmp .lt 9, 3) := by decide +kernel
theorem dX3_set_5 : decode cX3_set 5 = .ok (.iload_n 1, 1) := by decide +kernel
theorem dX3_set_6 : decode cX3_set 6 = .ok (.bipush 9, 2) := by decide +kernel
theorem dX3_set_8 : decode cX3_set 8 = .ok (.if_icmp .le 6, 3) := by decide +kernel
theorem dX3_set_11 : decode cX3_set 11 = .ok (.ldc 30, 2) := by decide +kernel
theorem dX3_set_13 : decode cX3_set 13 = .ok (.ireturn, 1) := by decide +kernel
theorem dX3_set_14 : decode cX3_set 14 = .ok (.aload_n 0, 1) := by decide +kernel
theorem dX3_set_15 : decode cX3_set 15 = .ok (.getfield 19, 3) := by decide +kernel
theorem dX3_set_18 : decode cX3_set 18 = .ok (.aload_n 0, 1) := by decide +kernel
theorem dX3_set_19 : decode cX3_set 19 = .ok (.getfield 10, 3) := by decide +kernel
theorem dX3_set_22 : decode cX3_set 22 = .ok (.invokevirtual 31, 3) := by decide +kernel
theorem dX3_set_25 : decode cX3_set 25 = .ok (.aload_n 0, 1) := by decide +kernel
theorem dX3_set_26 : decode cX3_set 26 = .ok (.getfield 10, 3) := by decide +kernel
theorem dX3_set_29 : decode cX3_set 29 = .ok (.getfield 47, 3) := by decide +kernel
theorem dX3_set_32 : decode cX3_set 32 = .ok (.istore_n 2, 1) := by decide +kernel
theorem dX3_set_33 : decode cX3_set 33 = .ok (.aload_n 0, 1) := by decide +kernel
theorem dX3_set_34 : decode cX3_set 34 = .ok (.getfield 10, 3) := by decide +kernel
theorem dX3_set_37 : decode cX3_set 37 = .ok (.iload_n 1, 1) := by decide +kernel
theorem dX3_set_38 : decode cX3_set 38 = .ok (.putfield 47, 3) := by decide +kernel
theorem dX3_set_41 : decode cX3_set 41 = .ok (.aload_n 0, 1) := by decide +kernel
theorem dX3_set_42 : decode cX3_set 42 = .ok (.iload_n 2, 1) := by decide +kernel
theorem dX3_set_43 : decode cX3_set 43 = .ok (.invokevirtual 39, 3) := by decide +kernel
theorem dX3_set_46 : decode cX3_set 46 = .ok (.ireturn, 1) := by decide +kernel
set_option maxRecDepth 20000 in
theorem ggX3_step_X0_putAside : GoodIn wsX3_step wsX0_putAside := goodIn_r _ [6, 7, 8, 9, 10, 4, 11, 12, 13, 14, 15, 16, 17, 18, 19, 20, 21, 22, 23, 24, 25, 26, 27, 28, 29, 30, 31, 32, 33, 34, 35, 36, 37, 38, 39, 40, 41, 42, 129, 130, 131, 132, 133, 134, 135, 136, 137, 138, 139, 140, 141, 142, 143] (by decide +kernel) (by decide +kernel)
set_option maxRecDepth 20000 in
theorem gX3_step_X0_putAside_n31 : GoodIn wsX3_step (wsX0_putAside) := ggX3_step_X0_putAside
set_option maxRecDepth 20000 in
theorem ggX3_step_X1_takeStep : GoodIn wsX3_step wsX1_takeStep := goodIn_r _ [45, 46, 26, 19, 47, 48, 49, 50, 14, 51, 25, 18, 52, 31, 53, 54, 55, 56, 57, 27, 58, 59, 60, 61, 62, 63, 64, 65, 66, 67, 68, 69, 70, 71, 72, 73, 74, 17, 75, 76, 77, 78, 79, 80, 81, 82, 28, 29, 83, 84, 85, 86, 87, 88, 89, 90, 91, 92, 93, 94, 95, 96, 97, 98, 20, 21, 22, 23, 99, 100, 35, 101, 24, 102, 103, 104, 105, 106, 107, 108, 109, 110, 131, 132, 133, 134, 135, 136, 137, 138, 139, 140, 141, 142, 143] (by decide +kernel) (by decide +kernel)
set_option maxRecDepth 20000 in
theorem gX3_step_X1_takeStep_n51 : GoodIn wsX3_step (wsX1_takeStep) := ggX3_step_X1_takeStep
set_option maxRecDepth 20000 in
theorem ggX3_step_X3_settle : GoodIn wsX3_step wsX3_settle := goodIn_r _ [114, 115, 1, 2, 116, 4, 117, 118, 7, 8, 9, 10, 11, 12, 13, 14, 15, 16, 17, 18, 19, 20, 21, 22, 23, 24, 25, 26, 27, 28, 29, 30, 31, 32, 33, 34, 35, 36, 37, 38, 39, 40, 41, 42, 119, 120, 121, 122, 123, 124, 125, 126, 127, 128, 129, 130, 131, 132, 133, 134, 135, 136, 137, 138, 139, 140, 141, 142, 143] (by decide +kernel) (by decide +kernel)
set_option maxRecDepth 20000 in
theorem gX3_step_X3_settle : GoodIn wsX3_step (wsV RX3 39 RX3 yX3_settle wsX3_settle) := goodIn_app (goodIn_of _ (by decide +kernel)) ggX3_step_X3_settle
theorem dX3_step_0 : decode cX3_step 0 = .ok (.aload_n 0, 1) := by decide +kernel
theorem dX3_step_1 : decode cX3_step 1 = .ok (.getfield 19, 3) := by decide +kernel
theorem dX3_step_4 : decode cX3_step 4 = .ok (.aload_n 0, 1) := by decide +kernel
theorem dX3_step_5 : decode cX3_step 5 = .ok (.getfield 10, 3) := by decide +kernel
theorem dX3_step_8 : decode cX3_step 8 = .ok (.invokevirtual 31, 3) := by decide +kernel
theorem dX3_step_11 : decode cX3_step 11 = .ok (.aload_n 0, 1) := by decide +kernel
theorem dX3_step_12 : decode cX3_step 12 = .ok (.aload_n 0, 1) := by decide +kernel
theorem dX3_step_13 : decode cX3_step 13 = .ok (.getfield 10, 3) := by decide +kernel
theorem dX3_step_16 : decode cX3_step 16 = .ok (.invokevirtual 51, 3) := by decide +kernel
theorem dX3_step_19 : decode cX3_step 19 = .ok (.invokevirtual 39, 3) := by decide +kernel
theorem dX3_step_22 : decode cX3_step 22 = .ok (.ireturn, 1) := by decide +kernel
set_option maxRecDepth 20000 in
theorem ggX3_run_X0_putAside : GoodIn wsX3_run wsX0_putAside := goodIn_r _ [9, 10, 11, 12, 13, 7, 14, 15, 16, 17, 18, 19, 20, 21, 22, 23, 24, 25, 26, 27, 28, 29, 30, 31, 32, 33, 34, 35, 36, 37, 38, 39, 40, 41, 42, 43, 44, 45, 131, 132, 133, 134, 135, 136, 137, 138, 139, 140, 141, 142, 143, 144, 145] (by decide +kernel) (by decide +kernel)
set_option maxRecDepth 20000 in
theorem gX3_run_X0_putAside_n31 : GoodIn wsX3_run (wsX0_putAside) := ggX3_run_X0_putAside
set_option maxRecDepth 20000 in
theorem ggX3_run_X1_takeStep : GoodIn wsX3_run wsX1_takeStep := goodIn_r _ [48, 49, 29, 22, 50, 51, 52, 53, 17, 54, 28, 21, 55, 34, 56, 57, 58, 59, 60, 30, 61, 62, 63, 64, 65, 66, 67, 68, 69, 70, 71, 72, 73, 74, 75, 76, 77, 20, 78, 79, 80, 81, 82, 83, 84, 85, 31, 32, 86, 87, 88, 89, 90, 91, 92, 93, 94, 95, 96, 97, 98, 99, 100, 101, 23, 24, 25, 26, 102, 103, 38, 104, 27, 105, 106, 107, 108, 109, 110, 111, 112, 113, 133, 134, 135, 136, 137, 138, 139, 140, 141, 142, 143, 144, 145] (by decide +kernel) (by decide +kernel)
set_option maxRecDepth 20000 in
theorem gX3_run_X1_takeStep_n51 : GoodIn wsX3_run (wsX1_takeStep) := ggX3_run_X1_takeStep
set_option maxRecDepth 20000 in
theorem ggX3_run_X3_settle : GoodIn wsX3_run wsX3_settle := goodIn_r _ [117, 1, 2, 3, 118, 7, 119, 120, 10, 11, 12, 13, 14, 15, 16, 17, 18, 19, 20, 21, 22, 23, 24, 25, 26, 27, 28, 29, 30, 31, 32, 33, 34, 35, 36, 37, 38, 39, 40, 41, 42, 43, 44, 45, 121, 122, 123, 124, 125, 126, 127, 128, 129, 130, 131, 132, 133, 134, 135, 136, 137, 138, 139, 140, 141, 142, 143, 144, 145] (by decide +kernel) (by decide +kernel)
set_option maxRecDepth 20000 in
theorem gX3_run_X3_settle : GoodIn wsX3_run (wsV RX3 39 RX3 yX3_settle wsX3_settle) := goodIn_app (goodIn_of _ (by decide +kernel)) ggX3_run_X3_settle
theorem dX3_run_0 : decode cX3_run 0 = .ok (.iload_n 1, 1) := by decide +kernel
theorem dX3_run_1 : decode cX3_run 1 = .ok (.iconst 1, 1) := by decide +kernel
theorem dX3_run_2 : decode cX3_run 2 = .ok (.if_icmp .lt 9, 3) := by decide +kernel
theorem dX3_run_5 : decode cX3_run 5 = .ok (.iload_n 1, 1) := by decide +kernel
theorem dX3_run_6 : decode cX3_run 6 = .ok (.bipush 40, 2) := by decide +kernel
theorem dX3_run_8 : decode cX3_run 8 = .ok (.if_icmp .le 6, 3) := by decide +kernel
theorem dX3_run_11 : decode cX3_run 11 = .ok (.ldc 30, 2) := by decide +kernel
theorem dX3_run_13 : decode cX3_run 13 = .ok (.ireturn, 1) := by decide +kernel
theorem dX3_run_14 : decode cX3_run 14 = .ok (.aload_n 0, 1) := by decide +kernel
theorem dX3_run_15 : decode cX3_run 15 = .ok (.getfield 19, 3) := by decide +kernel
theorem dX3_run_18 : decode cX3_run 18 = .ok (.aload_n 0, 1) := by decide +kernel
theorem dX3_run_19 : decode cX3_run 19 = .ok (.getfield 10, 3) := by decide +kernel
theorem dX3_run_22 : decode cX3_run 22 = .ok (.invokevirtual 31, 3) := by decide +kernel
theorem dX3_run_25 : decode cX3_run 25 = .ok (.iconst 0, 1) := by decide +kernel
theorem dX3_run_26 : decode cX3_run 26 = .ok (.istore_n 2, 1) := by decide +kernel
theorem dX3_run_27 : decode cX3_run 27 = .ok (.iconst 0, 1) := by decide +kernel
theorem dX3_run_28 : decode cX3_run 28 = .ok (.istore_n 3, 1) := by decide +kernel
theorem dX3_run_29 : decode cX3_run 29 = .ok (.iload_n 3, 1) := by decide +kernel
theorem dX3_run_30 : decode cX3_run 30 = .ok (.iload_n 1, 1) := by decide +kernel
theorem dX3_run_31 : decode cX3_run 31 = .ok (.if_icmp .ge 45, 3) := by decide +kernel
theorem dX3_run_34 : decode cX3_run 34 = .ok (.aload_n 0, 1) := by decide +kernel
theorem dX3_run_35 : decode cX3_run 35 = .ok (.getfield 10, 3) := by decide +kernel
theorem dX3_run_38 : decode cX3_run 38 = .ok (.invokevirtual 51, 3) := by decide +kernel
theorem dX3_run_41 : decode cX3_run 41 = .ok (.istore 4, 2) := by decide +kernel
theorem dX3_run_43 : decode cX3_run 43 = .ok (.iload 4, 2) := by decide +kernel
theorem dX3_run_45 : decode cX3_run 45 = .ok (.ldc 55, 2) := by decide +kernel
theorem dX3_run_47 : decode cX3_run 47 = .ok (.if_icmp .ne 10, 3) := by decide +kernel
theorem dX3_run_50 : decode cX3_run 50 = .ok (.aload_n 0, 1) := by decide +kernel
theorem dX3_run_51 : decode cX3_run 51 = .ok (.ldc 55, 2) := by decide +kernel
theorem dX3_run_53 : decode cX3_run 53 = .ok (.invokevirtual 39, 3) := by decide +kernel
theorem dX3_run_56 : decode cX3_run 56 = .ok (.ireturn, 1) := by decide +kernel
theorem dX3_run_57 : decode cX3_run 57 = .ok (.iload 4, 2) := by decide +kernel
theorem dX3_run_59 : decode cX3_run 59 = .ok (.ldc 56, 2) := by decide +kernel
theorem dX3_run_61 : decode cX3_run 61 = .ok (.if_icmp .ne 6, 3) := by decide +kernel
theorem dX3_run_64 : decode cX3_run 64 = .ok (.goto 12, 3) := by decide +kernel
theorem dX3_run_67 : decode cX3_run 67 = .ok (.iinc 2 1, 3) := by decide +kernel
theorem dX3_run_70 : decode cX3_run 70 = .ok (.iinc 3 1, 3) := by decide +kernel
theorem dX3_run_73 : decode cX3_run 73 = .ok (.goto (-44), 3) := by decide +kernel
theorem dX3_run_76 : decode cX3_run 76 = .ok (.aload_n 0, 1) := by decide +kernel
theorem dX3_run_77 : decode cX3_run 77 = .ok (.iload_n 2, 1) := by decide +kernel
theorem dX3_run_78 : decode cX3_run 78 = .ok (.invokevirtual 39, 3) := by decide +kernel
theorem dX3_run_81 : decode cX3_run 81 = .ok (.ireturn, 1) := by decide +kernel
set_option maxRecDepth 20000 in
theorem ggX3_empty_X0_putAside : GoodIn wsX3_empty wsX0_putAside := goodIn_r _ [6, 7, 8, 9, 10, 4, 11, 12, 13, 14, 15, 16, 17, 18, 19, 20, 21, 22, 23, 24, 25, 26, 27, 28, 29, 30, 31, 32, 33, 34, 35, 36, 37, 38, 39, 40, 41, 42, 74, 75, 61, 62, 63, 64, 65, 66, 67, 68, 69, 70, 71, 72, 73] (by decide +kernel) (by decide +kernel)
set_option maxRecDepth 20000 in
theorem gX3_empty_X0_putAside_n31 : GoodIn wsX3_empty (wsX0_putAside) := ggX3_empty_X0_putAside
set_option maxRecDepth 20000 in
theorem ggX3_empty_X3_settle : GoodIn wsX3_empty wsX3_settle := goodIn_r _ [46, 47, 1, 2, 48, 4, 49, 50, 7, 8, 9, 10, 11, 12, 13, 14, 15, 16, 17, 18, 19, 20, 21, 22, 23, 24, 25, 26, 27, 28, 29, 30, 31, 32, 33, 34, 35, 36, 37, 38, 39, 40, 41, 42, 51, 52, 53, 54, 55, 56, 57, 58, 59, 60, 74, 75, 61, 62, 63, 64, 65, 66, 67, 68, 69, 70, 71, 72, 73] (by decide +kernel) (by decide +kernel)
set_option maxRecDepth 20000 in
theorem gX3_empty_X3_settle : GoodIn wsX3_empty (wsV RX3 39 RX3 yX3_settle wsX3_settle) := goodIn_app (goodIn_of _ (by decide +kernel)) ggX3_empty_X3_settle
theorem dX3_empty_0 : decode cX3_empty 0 = .ok (.aload_n 0, 1) := by decide +kernel
theorem dX3_empty_1 : decode cX3_empty 1 = .ok (.getfield 19, 3) := by decide +kernel
theorem dX3_empty_4 : decode cX3_empty 4 = .ok (.aload_n 0, 1) := by decide +kernel
theorem dX3_empty_5 : decode cX3_empty 5 = .ok (.getfield 10, 3) := by decide +kernel
theorem dX3_empty_8 : decode cX3_empty 8 = .ok (.invokevirtual 31, 3) := by decide +kernel
theorem dX3_empty_11 : decode cX3_empty 11 = .ok (.aload_n 0, 1) := by decide +kernel
theorem dX3_empty_12 : decode cX3_empty 12 = .ok (.getfield 10, 3) := by decide +kernel
theorem dX3_empty_15 : decode cX3_empty 15 = .ok (.getfield 57, 3) := by decide +kernel
theorem dX3_empty_18 : decode cX3_empty 18 = .ok (.istore_n 1, 1) := by decide +kernel
theorem dX3_empty_19 : decode cX3_empty 19 = .ok (.aload_n 0, 1) := by decide +kernel
theorem dX3_empty_20 : decode cX3_empty 20 = .ok (.getfield 10, 3) := by decide +kernel
theorem dX3_empty_23 : decode cX3_empty 23 = .ok (.iconst 0, 1) := by decide +kernel
theorem dX3_empty_24 : decode cX3_empty 24 = .ok (.putfield 57, 3) := by decide +kernel
theorem dX3_empty_27 : decode cX3_empty 27 = .ok (.aload_n 0, 1) := by decide +kernel
theorem dX3_empty_28 : decode cX3_empty 28 = .ok (.getfield 10, 3) := by decide +kernel
theorem dX3_empty_31 : decode cX3_empty 31 = .ok (.iconst 0, 1) := by decide +kernel
theorem dX3_empty_32 : decode cX3_empty 32 = .ok (.putfield 60, 3) := by decide +kernel
theorem dX3_empty_35 : decode cX3_empty 35 = .ok (.aload_n 0, 1) := by decide +kernel
theorem dX3_empty_36 : decode cX3_empty 36 = .ok (.iload_n 1, 1) := by decide +kernel
theorem dX3_empty_37 : decode cX3_empty 37 = .ok (.invokevirtual 39, 3) := by decide +kernel
theorem dX3_empty_40 : decode cX3_empty 40 = .ok (.ireturn, 1) := by decide +kernel
set_option maxRecDepth 20000 in
theorem ggX3_clauseOf_X1_has : GoodIn wsX3_clauseOf wsX1_has := goodIn_r _ [6, 7, 46, 47, 48, 49, 50, 51, 52, 53, 54, 55, 56, 57, 58] (by decide +kernel) (by decide +kernel)
set_option maxRecDepth 20000 in
theorem gX3_clauseOf_X1_has_n63 : GoodIn wsX3_clauseOf (wsX1_has) := ggX3_clauseOf_X1_has
set_option maxRecDepth 20000 in
theorem ggX3_clauseOf_X3_at : GoodIn wsX3_clauseOf wsX3_at := goodIn_r _ [11] (by decide +kernel) (by decide +kernel)
set_option maxRecDepth 20000 in
theorem gX3_clauseOf_X3_at : GoodIn wsX3_clauseOf (va_wsS RX3 71 yX3_at wsX3_at) := goodIn_app (goodIn_of _ (by decide +kernel)) ggX3_clauseOf_X3_at
set_option maxRecDepth 20000 in
theorem ggX3_clauseOf_X1_greatestOf : GoodIn wsX3_clauseOf wsX1_greatestOf := goodIn_r _ [14, 15, 9, 10, 11, 46, 47, 48, 49, 50, 51, 52, 53, 54, 55, 56, 57, 58] (by decide +kernel) (by decide +kernel)
set_option maxRecDepth 20000 in
theorem gX3_clauseOf_X1_greatestOf_n78 : GoodIn wsX3_clauseOf (wsX1_greatestOf) := ggX3_clauseOf_X1_greatestOf
set_option maxRecDepth 20000 in
theorem ggX3_clauseOf_X3_foundOrNot : GoodIn wsX3_clauseOf wsX3_foundOrNot := goodIn_r _ [18, 19] (by decide +kernel) (by decide +kernel)
set_option maxRecDepth 20000 in
theorem gX3_clauseOf_X3_foundOrNot : GoodIn wsX3_clauseOf (va_wsS RX3 81 yX3_foundOrNot wsX3_foundOrNot) := goodIn_app (goodIn_of _ (by decide +kernel)) ggX3_clauseOf_X3_foundOrNot
set_option maxRecDepth 20000 in
theorem ggX3_clauseOf_J6_bitCount_0f7a4 : GoodIn wsX3_clauseOf wsJ6_bitCount_0f7a4 := goodIn_r _ [23, 24, 25, 26] (by decide +kernel) (by decide +kernel)
set_option maxRecDepth 20000 in
theorem gX3_clauseOf_J6_bitCount_0f7a4 : GoodIn wsX3_clauseOf (va_wsS RX3 93 yJ6_bitCount_0f7a4 wsJ6_bitCount_0f7a4) := goodIn_app (goodIn_of _ (by decide +kernel)) ggX3_clauseOf_J6_bitCount_0f7a4
set_option maxRecDepth 20000 in
theorem ggX3_clauseOf_X1_howManyLessThan : GoodIn wsX3_clauseOf wsX1_howManyLessThan := goodIn_r _ [29, 7, 30, 31, 32, 33, 4, 34, 35, 9, 10, 11, 36, 37, 38, 39, 40, 12, 13, 14, 15, 41, 42, 46, 47, 48, 49, 50, 51, 52, 53, 54, 55, 56, 57, 58] (by decide +kernel) (by decide +kernel)
set_option maxRecDepth 20000 in
theorem gX3_clauseOf_X1_howManyLessThan_n98 : GoodIn wsX3_clauseOf (wsX1_howManyLessThan) := ggX3_clauseOf_X1_howManyLessThan
theorem dX3_clauseOf_0 : decode cX3_clauseOf 0 = .ok (.aload_n 0, 1) := by decide +kernel
theorem dX3_clauseOf_1 : decode cX3_clauseOf 1 = .ok (.getfield 10, 3) := by decide +kernel
theorem dX3_clauseOf_4 : decode cX3_clauseOf 4 = .ok (.iload_n 1, 1) := by decide +kernel
theorem dX3_clauseOf_5 : decode cX3_clauseOf 5 = .ok (.invokevirtual 63, 3) := by decide +kernel
theorem dX3_clauseOf_8 : decode cX3_clauseOf 8 = .ok (.ifCond .ne 6, 3) := by decide +kernel
theorem dX3_clauseOf_11 : decode cX3_clauseOf 11 = .ok (.ldc 30, 2) := by decide +kernel
theorem dX3_clauseOf_13 : decode cX3_clauseOf 13 = .ok (.ireturn, 1) := by decide +kernel
theorem dX3_clauseOf_14 : decode cX3_clauseOf 14 = .ok (.iload_n 2, 1) := by decide +kernel
theorem dX3_clauseOf_15 : decode cX3_clauseOf 15 = .ok (.tableswitch 176 0 8 #[49, 61, 73, 95, 110, 125, 140, 155, 164], 49) := by decide +kernel
theorem dX3_clauseOf_64 : decode cX3_clauseOf 64 = .ok (.aload_n 0, 1) := by decide +kernel
theorem dX3_clauseOf_65 : decode cX3_clauseOf 65 = .ok (.getfield 10, 3) := by decide +kernel
theorem dX3_clauseOf_68 : decode cX3_clauseOf 68 = .ok (.getfield 67, 3) := by decide +kernel
theorem dX3_clauseOf_71 : decode cX3_clauseOf 71 = .ok (.iload_n 1, 1) := by decide +kernel
theorem dX3_clauseOf_72 : decode cX3_clauseOf 72 = .ok (.invokestatic 71, 3) := by decide +kernel
theorem dX3_clauseOf_75 : decode cX3_clauseOf 75 = .ok (.ireturn, 1) := by decide +kernel
theorem dX3_clauseOf_76 : decode cX3_clauseOf 76 = .ok (.aload_n 0, 1) := by decide +kernel
theorem dX3_clauseOf_77 : decode cX3_clauseOf 77 = .ok (.getfield 10, 3) := by decide +kernel
theorem dX3_clauseOf_80 : decode cX3_clauseOf 80 = .ok (.getfield 75, 3) := by decide +kernel
theorem dX3_clauseOf_83 : decode cX3_clauseOf 83 = .ok (.iload_n 1, 1) := by decide +kernel
theorem dX3_clauseOf_84 : decode cX3_clauseOf 84 = .ok (.invokestatic 71, 3) := by decide +kernel
theorem dX3_clauseOf_87 : decode cX3_clauseOf 87 = .ok (.ireturn, 1) := by decide +kernel
theorem dX3_clauseOf_88 : decode cX3_clauseOf 88 = .ok (.aload_n 0, 1) := by decide +kernel
theorem dX3_clauseOf_89 : decode cX3_clauseOf 89 = .ok (.getfield 10, 3) := by decide +kernel
theorem dX3_clauseOf_92 : decode cX3_clauseOf 92 = .ok (.aload_n 0, 1) := by decide +kernel
theorem dX3_clauseOf_93 : decode cX3_clauseOf 93 = .ok (.getfield 10, 3) := by decide +kernel
theorem dX3_clauseOf_96 : decode cX3_clauseOf 96 = .ok (.getfield 67, 3) := by decide +kernel
theorem dX3_clauseOf_99 : decode cX3_clauseOf 99 = .ok (.iload_n 1, 1) := by decide +kernel
theorem dX3_clauseOf_100 : decode cX3_clauseOf 100 = .ok (.invokestatic 71, 3) := by decide +kernel
theorem dX3_clauseOf_103 : decode cX3_clauseOf 103 = .ok (.invokevirtual 78, 3) := by decide +kernel
theorem dX3_clauseOf_106 : decode cX3_clauseOf 106 = .ok (.invokestatic 81, 3) := by decide +kernel
theorem dX3_clauseOf_109 : decode cX3_clauseOf 109 = .ok (.ireturn, 1) := by decide +kernel
theorem dX3_clauseOf_110 : decode cX3_clauseOf 110 = .ok (.aload_n 0, 1) := by decide +kernel
theorem dX3_clauseOf_111 : decode cX3_clauseOf 111 = .ok (.getfield 10, 3) := by decide +kernel
theorem dX3_clauseOf_114 : decode cX3_clauseOf 114 = .ok (.getfield 84, 3) := by decide +kernel
theorem dX3_clauseOf_117 : decode cX3_clauseOf 117 = .ok (.iload_n 1, 1) := by decide +kernel
theorem dX3_clauseOf_118 : decode cX3_clauseOf 118 = .ok (.invokestatic 71, 3) := by decide +kernel
theorem dX3_clauseOf_121 : decode cX3_clauseOf 121 = .ok (.invokestatic 81, 3) := by decide +kernel
theorem dX3_clauseOf_124 : decode cX3_clauseOf 124 = .ok (.ireturn, 1) := by decide +kernel
theorem dX3_clauseOf_125 : decode cX3_clauseOf 125 = .ok (.aload_n 0, 1) := by decide +kernel
theorem dX3_clauseOf_126 : decode cX3_clauseOf 126 = .ok (.getfield 10, 3) := by decide +kernel
theorem dX3_clauseOf_129 : decode cX3_clauseOf 129 = .ok (.getfield 87, 3) := by decide +kernel
theorem dX3_clauseOf_132 : decode cX3_clauseOf 132 = .ok (.iload_n 1, 1) := by decide +kernel
theorem dX3_clauseOf_133 : decode cX3_clauseOf 133 = .ok (.invokestatic 71, 3) := by decide +kernel
theorem dX3_clauseOf_136 : decode cX3_clauseOf 136 = .ok (.invokestatic 81, 3) := by decide +kernel
theorem dX3_clauseOf_139 : decode cX3_clauseOf 139 = .ok (.ireturn, 1) := by decide +kernel
theorem dX3_clauseOf_140 : decode cX3_clauseOf 140 = .ok (.aload_n 0, 1) := by decide +kernel
theorem dX3_clauseOf_141 : decode cX3_clauseOf 141 = .ok (.getfield 10, 3) := by decide +kernel
theorem dX3_clauseOf_144 : decode cX3_clauseOf 144 = .ok (.getfield 90, 3) := by decide +kernel
theorem dX3_clauseOf_147 : decode cX3_clauseOf 147 = .ok (.iload_n 1, 1) := by decide +kernel
theorem dX3_clauseOf_148 : decode cX3_clauseOf 148 = .ok (.invokestatic 71, 3) := by decide +kernel
theorem dX3_clauseOf_151 : decode cX3_clauseOf 151 = .ok (.invokestatic 81, 3) := by decide +kernel
theorem dX3_clauseOf_154 : decode cX3_clauseOf 154 = .ok (.ireturn, 1) := by decide +kernel
theorem dX3_clauseOf_155 : decode cX3_clauseOf 155 = .ok (.aload_n 0, 1) := by decide +kernel
theorem dX3_clauseOf_156 : decode cX3_clauseOf 156 = .ok (.getfield 10, 3) := by decide +kernel
theorem dX3_clauseOf_159 : decode cX3_clauseOf 159 = .ok (.getfield 67, 3) := by decide +kernel
theorem dX3_clauseOf_162 : decode cX3_clauseOf 162 = .ok (.iload_n 1, 1) := by decide +kernel
theorem dX3_clauseOf_163 : decode cX3_clauseOf 163 = .ok (.invokestatic 71, 3) := by decide +kernel
theorem dX3_clauseOf_166 : decode cX3_clauseOf 166 = .ok (.invokestatic 93, 3) := by decide +kernel
theorem dX3_clauseOf_169 : decode cX3_clauseOf 169 = .ok (.ireturn, 1) := by decide +kernel
theorem dX3_clauseOf_170 : decode cX3_clauseOf 170 = .ok (.aload_n 0, 1) := by decide +kernel
theorem dX3_clauseOf_171 : decode cX3_clauseOf 171 = .ok (.getfield 10, 3) := by decide +kernel
theorem dX3_clauseOf_174 : decode cX3_clauseOf 174 = .ok (.iload_n 1, 1) := by decide +kernel
theorem dX3_clauseOf_175 : decode cX3_clauseOf 175 = .ok (.invokevirtual 98, 3) := by decide +kernel
theorem dX3_clauseOf_178 : decode cX3_clauseOf 178 = .ok (.ireturn, 1) := by decide +kernel
theorem dX3_clauseOf_179 : decode cX3_clauseOf 179 = .ok (.aload_n 0, 1) := by decide +kernel
theorem dX3_clauseOf_180 : decode cX3_clauseOf 180 = .ok (.getfield 10, 3) := by decide +kernel
theorem dX3_clauseOf_183 : decode cX3_clauseOf 183 = .ok (.getfield 101, 3) := by decide +kernel
theorem dX3_clauseOf_186 : decode cX3_clauseOf 186 = .ok (.iload_n 1, 1) := by decide +kernel
theorem dX3_clauseOf_187 : decode cX3_clauseOf 187 = .ok (.invokestatic 71, 3) := by decide +kernel
theorem dX3_clauseOf_190 : decode cX3_clauseOf 190 = .ok (.ireturn, 1) := by decide +kernel
theorem dX3_clauseOf_191 : decode cX3_clauseOf 191 = .ok (.ldc 30, 2) := by decide +kernel
theorem dX3_clauseOf_193 : decode cX3_clauseOf 193 = .ok (.ireturn, 1) := by decide +kernel
set_option maxRecDepth 20000 in
theorem ggX3_tree_X1_has : GoodIn wsX3_tree wsX1_has := goodIn_r _ [6, 7, 23, 24, 25, 26, 27, 28, 29, 30, 31, 32, 33, 34, 35] (by decide +kernel) (by decide +kernel)
set_option maxRecDepth 20000 in
theorem gX3_tree_X1_has_n63 : GoodIn wsX3_tree (wsX1_has) := ggX3_tree_X1_has
set_option maxRecDepth 20000 in
theorem ggX3_tree_X1_treeOf : GoodIn wsX3_tree wsX1_treeOf := goodIn_r _ [10, 11, 12, 13, 14, 15, 16, 17, 18, 19, 23, 24, 25, 26, 27, 28, 29, 30, 31, 32, 33, 34, 35] (by decide +kernel) (by decide +kernel)
set_option maxRecDepth 20000 in
theorem gX3_tree_X1_treeOf_n104 : GoodIn wsX3_tree (wsX1_treeOf) := ggX3_tree_X1_treeOf
theorem dX3_tree_0 : decode cX3_tree 0 = .ok (.aload_n 0, 1) := by decide +kernel
theorem dX3_tree_1 : decode cX3_tree 1 = .ok (.getfield 10, 3) := by decide +kernel
theorem dX3_tree_4 : decode cX3_tree 4 = .ok (.iload_n 1, 1) := by decide +kernel
theorem dX3_tree_5 : decode cX3_tree 5 = .ok (.invokevirtual 63, 3) := by decide +kernel
theorem dX3_tree_8 : decode cX3_tree 8 = .ok (.ifCond .eq 14, 3) := by decide +kernel
theorem dX3_tree_11 : decode cX3_tree 11 = .ok (.aload_n 0, 1) := by decide +kernel
theorem dX3_tree_12 : decode cX3_tree 12 = .ok (.getfield 10, 3) := by decide +kernel
theorem dX3_tree_15 : decode cX3_tree 15 = .ok (.iload_n 1, 1) := by decide +kernel
theorem dX3_tree_16 : decode cX3_tree 16 = .ok (.invokevirtual 104, 3) := by decide +kernel
theorem dX3_tree_19 : decode cX3_tree 19 = .ok (.goto 6, 3) := by decide +kernel
theorem dX3_tree_22 : decode cX3_tree 22 = .ok (.ldc2_w 108, 3) := by decide +kernel
theorem dX3_tree_25 : decode cX3_tree 25 = .ok (.lreturn, 1) := by decide +kernel
set_option maxRecDepth 20000 in
theorem ggX3_widest_X1_has : GoodIn wsX3_widest wsX1_has := goodIn_r _ [6, 7, 38, 39, 40, 41, 42, 43, 44, 45, 46, 47, 48, 49, 50] (by decide +kernel) (by decide +kernel)
set_option maxRecDepth 20000 in
theorem gX3_widest_X1_has_n63 : GoodIn wsX3_widest (wsX1_has) := ggX3_widest_X1_has
set_option maxRecDepth 20000 in
theorem ggX3_widest_X1_treeOf : GoodIn wsX3_widest wsX1_treeOf := goodIn_r _ [10, 11, 12, 13, 14, 15, 16, 17, 18, 19, 38, 39, 40, 41, 42, 43, 44, 45, 46, 47, 48, 49, 50] (by decide +kernel) (by decide +kernel)
set_option maxRecDepth 20000 in
theorem gX3_widest_X1_treeOf_n104 : GoodIn wsX3_widest (wsX1_treeOf) := ggX3_widest_X1_treeOf
set_option maxRecDepth 20000 in
theorem ggX3_widest_X1_mostLiterals : GoodIn wsX3_widest wsX1_mostLiterals := goodIn_r _ [22, 7, 23, 24, 25, 26, 27, 16, 14, 17, 18, 19, 28, 29, 30, 31, 32, 33, 34, 38, 39, 40, 41, 42, 43, 44, 45, 46, 47, 48, 49, 50] (by decide +kernel) (by decide +kernel)
set_option maxRecDepth 20000 in
theorem gX3_widest_X1_mostLiterals_n110 : GoodIn wsX3_widest (wsX1_mostLiterals) := ggX3_widest_X1_mostLiterals
theorem dX3_widest_0 : decode cX3_widest 0 = .ok (.aload_n 0, 1) := by decide +kernel
theorem dX3_widest_1 : decode cX3_widest 1 = .ok (.getfield 10, 3) := by decide +kernel
theorem dX3_widest_4 : decode cX3_widest 4 = .ok (.iload_n 1, 1) := by decide +kernel
theorem dX3_widest_5 : decode cX3_widest 5 = .ok (.invokevirtual 63, 3) := by decide +kernel
theorem dX3_widest_8 : decode cX3_widest 8 = .ok (.ifCond .eq 21, 3) := by decide +kernel
theorem dX3_widest_11 : decode cX3_widest 11 = .ok (.aload_n 0, 1) := by decide +kernel
theorem dX3_widest_12 : decode cX3_widest 12 = .ok (.getfield 10, 3) := by decide +kernel
theorem dX3_widest_15 : decode cX3_widest 15 = .ok (.aload_n 0, 1) := by decide +kernel
theorem dX3_widest_16 : decode cX3_widest 16 = .ok (.getfield 10, 3) := by decide +kernel
theorem dX3_widest_19 : decode cX3_widest 19 = .ok (.iload_n 1, 1) := by decide +kernel
theorem dX3_widest_20 : decode cX3_widest 20 = .ok (.invokevirtual 104, 3) := by decide +kernel
theorem dX3_widest_23 : decode cX3_widest 23 = .ok (.invokevirtual 110, 3) := by decide +kernel
theorem dX3_widest_26 : decode cX3_widest 26 = .ok (.goto 5, 3) := by decide +kernel
theorem dX3_widest_29 : decode cX3_widest 29 = .ok (.ldc 30, 2) := by decide +kernel
theorem dX3_widest_31 : decode cX3_widest 31 = .ok (.ireturn, 1) := by decide +kernel
set_option maxRecDepth 20000 in
theorem ggX3_refutation_X1_emptyClause : GoodIn wsX3_refutation wsX1_emptyClause := goodIn_r _ [5, 6, 7, 8, 9, 10, 18, 19, 20, 21, 22, 23, 24, 25, 26, 27, 28, 29, 30] (by decide +kernel) (by decide +kernel)
set_option maxRecDepth 20000 in
theorem gX3_refutation_X1_emptyClause_n114 : GoodIn wsX3_refutation (wsX1_emptyClause) := ggX3_refutation_X1_emptyClause
set_option maxRecDepth 20000 in
theorem ggX3_refutation_X3_foundOrNot : GoodIn wsX3_refutation wsX3_foundOrNot := goodIn_r _ [13, 14] (by decide +kernel) (by decide +kernel)
set_option maxRecDepth 20000 in
theorem gX3_refutation_X3_foundOrNot : GoodIn wsX3_refutation (va_wsS RX3 81 yX3_foundOrNot wsX3_foundOrNot) := goodIn_app (goodIn_of _ (by decide +kernel)) ggX3_refutation_X3_foundOrNot
theorem dX3_refutation_0 : decode cX3_refutation 0 = .ok (.aload_n 0, 1) := by decide +kernel
theorem dX3_refutation_1 : decode cX3_refutation 1 = .ok (.getfield 10, 3) := by decide +kernel
theorem dX3_refutation_4 : decode cX3_refutation 4 = .ok (.invokevirtual 114, 3) := by decide +kernel
theorem dX3_refutation_7 : decode cX3_refutation 7 = .ok (.invokestatic 81, 3) := by decide +kernel
theorem dX3_refutation_10 : decode cX3_refutation 10 = .ok (.ireturn, 1) := by decide +kernel
set_option maxRecDepth 20000 in
theorem ggX3_models_X1_toldClauses : GoodIn wsX3_models wsX1_toldClauses := goodIn_r _ [5, 6, 7, 8, 9, 3, 10, 11, 12, 13, 14, 15, 16, 36, 37, 38, 39, 40, 41, 42, 43, 44, 45, 46, 47, 48] (by decide +kernel) (by decide +kernel)
set_option maxRecDepth 20000 in
theorem gX3_models_X1_toldClauses_n117 : GoodIn wsX3_models (wsX1_toldClauses) := ggX3_models_X1_toldClauses
set_option maxRecDepth 20000 in
theorem ggX3_models_X1_valuesFulfilling : GoodIn wsX3_models wsX1_valuesFulfilling := goodIn_r _ [19, 20, 6, 21, 22, 13, 23, 24, 25, 36, 37, 38, 39, 40, 41, 42, 43, 44, 45, 46, 47, 48] (by decide +kernel) (by decide +kernel)
set_option maxRecDepth 20000 in
theorem gX3_models_X1_valuesFulfilling_n121 : GoodIn wsX3_models (wsX1_valuesFulfilling) := ggX3_models_X1_valuesFulfilling
set_option maxRecDepth 20000 in
theorem ggX3_models_J13_bitCount_95d88 : GoodIn wsX3_models wsJ13_bitCount_95d88 := goodIn_r _ [29, 30, 31, 32] (by decide +kernel) (by decide +kernel)
set_option maxRecDepth 20000 in
theorem gX3_models_J13_bitCount_95d88 : GoodIn wsX3_models (va_wsS RX3 125 yJ13_bitCount_95d88 wsJ13_bitCount_95d88) := goodIn_app (goodIn_of _ (by decide +kernel)) ggX3_models_J13_bitCount_95d88
theorem dX3_models_0 : decode cX3_models 0 = .ok (.aload_n 0, 1) := by decide +kernel
theorem dX3_models_1 : decode cX3_models 1 = .ok (.getfield 10, 3) := by decide +kernel
theorem dX3_models_4 : decode cX3_models 4 = .ok (.aload_n 0, 1) := by decide +kernel
theorem dX3_models_5 : decode cX3_models 5 = .ok (.getfield 10, 3) := by decide +kernel
theorem dX3_models_8 : decode cX3_models 8 = .ok (.invokevirtual 117, 3) := by decide +kernel
theorem dX3_models_11 : decode cX3_models 11 = .ok (.invokevirtual 121, 3) := by decide +kernel
theorem dX3_models_14 : decode cX3_models 14 = .ok (.invokestatic 125, 3) := by decide +kernel
theorem dX3_models_17 : decode cX3_models 17 = .ok (.ireturn, 1) := by decide +kernel
set_option maxRecDepth 20000 in
theorem ggX3_model_X1_toldClauses : GoodIn wsX3_model wsX1_toldClauses := goodIn_r _ [7, 8, 9, 10, 11, 5, 12, 13, 14, 15, 16, 17, 18, 32, 33, 34, 35, 36, 37, 38, 39, 40, 41, 42, 43, 44] (by decide +kernel) (by decide +kernel)
set_option maxRecDepth 20000 in
theorem gX3_model_X1_toldClauses_n117 : GoodIn wsX3_model (wsX1_toldClauses) := ggX3_model_X1_toldClauses
set_option maxRecDepth 20000 in
theorem ggX3_model_X1_valuesFulfilling : GoodIn wsX3_model wsX1_valuesFulfilling := goodIn_r _ [21, 22, 8, 23, 24, 15, 25, 26, 27, 32, 33, 34, 35, 36, 37, 38, 39, 40, 41, 42, 43, 44] (by decide +kernel) (by decide +kernel)
set_option maxRecDepth 20000 in
theorem gX3_model_X1_valuesFulfilling_n121 : GoodIn wsX3_model (wsX1_valuesFulfilling) := ggX3_model_X1_valuesFulfilling
set_option maxRecDepth 20000 in
theorem ggX3_model_X3_isIn : GoodIn wsX3_model wsX3_isIn := goodIn_r _ [25] (by decide +kernel) (by decide +kernel)
set_option maxRecDepth 20000 in
theorem gX3_model_X3_isIn : GoodIn wsX3_model (va_wsS RX3 129 yX3_isIn wsX3_isIn) := goodIn_app (goodIn_of _ (by decide +kernel)) ggX3_model_X3_isIn
theorem dX3_model_0 : decode cX3_model 0 = .ok (.iload_n 1, 1) := by decide +kernel
theorem dX3_model_1 : decode cX3_model 1 = .ok (.ifCond .ge 6, 3) := by decide +kernel
theorem dX3_model_4 : decode cX3_model 4 = .ok (.ldc 30, 2) := by decide +kernel
theorem dX3_model_6 : decode cX3_model 6 = .ok (.ireturn, 1) := by decide +kernel
theorem dX3_model_7 : decode cX3_model 7 = .ok (.aload_n 0, 1) := by decide +kernel
theorem dX3_model_8 : decode cX3_model 8 = .ok (.getfield 10, 3) := by decide +kernel
theorem dX3_model_11 : decode cX3_model 11 = .ok (.aload_n 0, 1) := by decide +kernel
theorem dX3_model_12 : decode cX3_model 12 = .ok (.getfield 10, 3) := by decide +kernel
theorem dX3_model_15 : decode cX3_model 15 = .ok (.invokevirtual 117, 3) := by decide +kernel
theorem dX3_model_18 : decode cX3_model 18 = .ok (.invokevirtual 121, 3) := by decide +kernel
theorem dX3_model_21 : decode cX3_model 21 = .ok (.lstore_n 2, 1) := by decide +kernel
theorem dX3_model_22 : decode cX3_model 22 = .ok (.iconst 0, 1) := by decide +kernel
theorem dX3_model_23 : decode cX3_model 23 = .ok (.istore 4, 2) := by decide +kernel
theorem dX3_model_25 : decode cX3_model 25 = .ok (.iconst 0, 1) := by decide +kernel
theorem dX3_model_26 : decode cX3_model 26 = .ok (.istore 5, 2) := by decide +kernel
theorem dX3_model_28 : decode cX3_model 28 = .ok (.iload 5, 2) := by decide +kernel
theorem dX3_model_30 : decode cX3_model 30 = .ok (.bipush 64, 2) := by decide +kernel
theorem dX3_model_32 : decode cX3_model 32 = .ok (.if_icmp .ge 30, 3) := by decide +kernel
theorem dX3_model_35 : decode cX3_model 35 = .ok (.lload_n 2, 1) := by decide +kernel
theorem dX3_model_36 : decode cX3_model 36 = .ok (.iload 5, 2) := by decide +kernel
theorem dX3_model_38 : decode cX3_model 38 = .ok (.invokestatic 129, 3) := by decide +kernel
theorem dX3_model_41 : decode cX3_model 41 = .ok (.ifCond .eq 15, 3) := by decide +kernel
theorem dX3_model_44 : decode cX3_model 44 = .ok (.iload 4, 2) := by decide +kernel
theorem dX3_model_46 : decode cX3_model 46 = .ok (.iload_n 1, 1) := by decide +kernel
theorem dX3_model_47 : decode cX3_model 47 = .ok (.if_icmp .ne 6, 3) := by decide +kernel
theorem dX3_model_50 : decode cX3_model 50 = .ok (.iload 5, 2) := by decide +kernel
theorem dX3_model_52 : decode cX3_model 52 = .ok (.ireturn, 1) := by decide +kernel
theorem dX3_model_53 : decode cX3_model 53 = .ok (.iinc 4 1, 3) := by decide +kernel
theorem dX3_model_56 : decode cX3_model 56 = .ok (.iinc 5 1, 3) := by decide +kernel
theorem dX3_model_59 : decode cX3_model 59 = .ok (.goto (-31), 3) := by decide +kernel
theorem dX3_model_62 : decode cX3_model 62 = .ok (.ldc 133, 2) := by decide +kernel
theorem dX3_model_64 : decode cX3_model 64 = .ok (.ireturn, 1) := by decide +kernel
set_option maxRecDepth 20000 in
theorem ggX3_broken_X1_clausesBrokenBy : GoodIn wsX3_broken wsX1_clausesBrokenBy := goodIn_r _ [6, 7, 8, 9, 10, 11, 4, 12, 13, 14, 15, 16, 17, 18, 19, 20, 21, 22, 26, 27, 28, 29, 30, 31, 32, 33, 34, 35, 36, 37, 38] (by decide +kernel) (by decide +kernel)
set_option maxRecDepth 20000 in
theorem gX3_broken_X1_clausesBrokenBy_n134 : GoodIn wsX3_broken (wsX1_clausesBrokenBy) := ggX3_broken_X1_clausesBrokenBy
theorem dX3_broken_0 : decode cX3_broken 0 = .ok (.iload_n 1, 1) := by decide +kernel
theorem dX3_broken_1 : decode cX3_broken 1 = .ok (.ifCond .lt 9, 3) := by decide +kernel
theorem dX3_broken_4 : decode cX3_broken 4 = .ok (.iload_n 1, 1) := by decide +kernel
theorem dX3_broken_5 : decode cX3_broken 5 = .ok (.bipush 64, 2) := by decide +kernel
theorem dX3_broken_7 : decode cX3_broken 7 = .ok (.if_icmp .lt 7, 3) := by decide +kernel
theorem dX3_broken_10 : decode cX3_broken 10 = .ok (.ldc2_w 108, 3) := by decide +kernel
theorem dX3_broken_13 : decode cX3_broken 13 = .ok (.lreturn, 1) := by decide +kernel
theorem dX3_broken_14 : decode cX3_broken 14 = .ok (.aload_n 0, 1) := by decide +kernel
theorem dX3_broken_15 : decode cX3_broken 15 = .ok (.getfield 10, 3) := by decide +kernel
theorem dX3_broken_18 : decode cX3_broken 18 = .ok (.iload_n 1, 1) := by decide +kernel
theorem dX3_broken_19 : decode cX3_broken 19 = .ok (.invokevirtual 134, 3) := by decide +kernel
theorem dX3_broken_22 : decode cX3_broken 22 = .ok (.lreturn, 1) := by decide +kernel
set_option maxRecDepth 20000 in
theorem ggX3_core_X1_toldClauses : GoodIn wsX3_core wsX1_toldClauses := goodIn_r _ [6, 7, 8, 9, 10, 4, 11, 12, 13, 14, 15, 16, 17, 34, 35, 36, 37, 38, 39, 40, 41, 42, 43, 44, 45, 46] (by decide +kernel) (by decide +kernel)
set_option maxRecDepth 20000 in
theorem gX3_core_X1_toldClauses_n117 : GoodIn wsX3_core (wsX1_toldClauses) := ggX3_core_X1_toldClauses
set_option maxRecDepth 20000 in
theorem ggX3_core_X1_valuesFulfilling : GoodIn wsX3_core wsX1_valuesFulfilling := goodIn_r _ [20, 21, 7, 22, 23, 14, 24, 25, 26, 34, 35, 36, 37, 38, 39, 40, 41, 42, 43, 44, 45, 46] (by decide +kernel) (by decide +kernel)
set_option maxRecDepth 20000 in
theorem gX3_core_X1_valuesFulfilling_n121 : GoodIn wsX3_core (wsX1_valuesFulfilling) := ggX3_core_X1_valuesFulfilling
set_option maxRecDepth 20000 in
theorem ggX3_core_X1_fewestUnfulfillable : GoodIn wsX3_core wsX1_fewestUnfulfillable := goodIn_r _ [29, 7, 21, 16, 14, 17, 30, 18, 19, 4, 20, 22, 23, 24, 25, 26, 34, 35, 36, 37, 38, 39, 40, 41, 42, 43, 44, 45, 46] (by decide +kernel) (by decide +kernel)
set_option maxRecDepth 20000 in
theorem gX3_core_X1_fewestUnfulfillable_n137 : GoodIn wsX3_core (wsX1_fewestUnfulfillable) := ggX3_core_X1_fewestUnfulfillable
theorem dX3_core_0 : decode cX3_core 0 = .ok (.aload_n 0, 1) := by decide +kernel
theorem dX3_core_1 : decode cX3_core 1 = .ok (.getfield 10, 3) := by decide +kernel
theorem dX3_core_4 : decode cX3_core 4 = .ok (.invokevirtual 117, 3) := by decide +kernel
theorem dX3_core_7 : decode cX3_core 7 = .ok (.lstore_n 1, 1) := by decide +kernel
theorem dX3_core_8 : decode cX3_core 8 = .ok (.aload_n 0, 1) := by decide +kernel
theorem dX3_core_9 : decode cX3_core 9 = .ok (.getfield 10, 3) := by decide +kernel
theorem dX3_core_12 : decode cX3_core 12 = .ok (.lload_n 1, 1) := by decide +kernel
theorem dX3_core_13 : decode cX3_core 13 = .ok (.invokevirtual 121, 3) := by decide +kernel
theorem dX3_core_16 : decode cX3_core 16 = .ok (.lconst 0, 1) := by decide +kernel
theorem dX3_core_17 : decode cX3_core 17 = .ok (.lcmp, 1) := by decide +kernel
theorem dX3_core_18 : decode cX3_core 18 = .ok (.ifCond .ne 14, 3) := by decide +kernel
theorem dX3_core_21 : decode cX3_core 21 = .ok (.aload_n 0, 1) := by decide +kernel
theorem dX3_core_22 : decode cX3_core 22 = .ok (.getfield 10, 3) := by decide +kernel
theorem dX3_core_25 : decode cX3_core 25 = .ok (.lload_n 1, 1) := by decide +kernel
theorem dX3_core_26 : decode cX3_core 26 = .ok (.invokevirtual 137, 3) := by decide +kernel
theorem dX3_core_29 : decode cX3_core 29 = .ok (.goto 6, 3) := by decide +kernel
theorem dX3_core_32 : decode cX3_core 32 = .ok (.ldc2_w 140, 3) := by decide +kernel
theorem dX3_core_35 : decode cX3_core 35 = .ok (.lreturn, 1) := by decide +kernel
set_option maxRecDepth 20000 in
theorem ggX3_follows_X1_toldClauses : GoodIn wsX3_follows wsX1_toldClauses := goodIn_r _ [7, 8, 9, 10, 11, 5, 12, 13, 14, 15, 16, 17, 18, 36, 37, 38, 39, 40, 41, 42, 43, 44, 45, 46, 47, 48] (by decide +kernel) (by decide +kernel)
set_option maxRecDepth 20000 in
theorem gX3_follows_X1_toldClauses_n117 : GoodIn wsX3_follows (wsX1_toldClauses) := ggX3_follows_X1_toldClauses
set_option maxRecDepth 20000 in
theorem ggX3_follows_X1_valuesFulfilling : GoodIn wsX3_follows wsX1_valuesFulfilling := goodIn_r _ [21, 22, 8, 23, 24, 15, 25, 26, 27, 36, 37, 38, 39, 40, 41, 42, 43, 44, 45, 46, 47, 48] (by decide +kernel) (by decide +kernel)
set_option maxRecDepth 20000 in
theorem gX3_follows_X1_valuesFulfilling_n121 : GoodIn wsX3_follows (wsX1_valuesFulfilling) := ggX3_follows_X1_valuesFulfilling
set_option maxRecDepth 20000 in
theorem ggX3_follows_X3_valuesOfClause : GoodIn wsX3_follows wsX3_valuesOfClause := goodIn_r _ [30, 31, 3, 32, 26, 15, 27] (by decide +kernel) (by decide +kernel)
set_option maxRecDepth 20000 in
theorem gX3_follows_X3_valuesOfClause : GoodIn wsX3_follows (va_wsS RX3 142 yX3_valuesOfClause wsX3_valuesOfClause) := goodIn_app (goodIn_of _ (by decide +kernel)) ggX3_follows_X3_valuesOfClause
theorem dX3_follows_0 : decode cX3_follows 0 = .ok (.iload_n 1, 1) := by decide +kernel
theorem dX3_follows_1 : decode cX3_follows 1 = .ok (.ifCond .lt 10, 3) := by decide +kernel
theorem dX3_follows_4 : decode cX3_follows 4 = .ok (.iload_n 1, 1) := by decide +kernel
theorem dX3_follows_5 : decode cX3_follows 5 = .ok (.sipush 4095, 3) := by decide +kernel
theorem dX3_follows_8 : decode cX3_follows 8 = .ok (.if_icmp .le 6, 3) := by decide +kernel
theorem dX3_follows_11 : decode cX3_follows 11 = .ok (.ldc 30, 2) := by decide +kernel
theorem dX3_follows_13 : decode cX3_follows 13 = .ok (.ireturn, 1) := by decide +kernel
theorem dX3_follows_14 : decode cX3_follows 14 = .ok (.aload_n 0, 1) := by decide +kernel
theorem dX3_follows_15 : decode cX3_follows 15 = .ok (.getfield 10, 3) := by decide +kernel
theorem dX3_follows_18 : decode cX3_follows 18 = .ok (.aload_n 0, 1) := by decide +kernel
theorem dX3_follows_19 : decode cX3_follows 19 = .ok (.getfield 10, 3) := by decide +kernel
theorem dX3_follows_22 : decode cX3_follows 22 = .ok (.invokevirtual 117, 3) := by decide +kernel
theorem dX3_follows_25 : decode cX3_follows 25 = .ok (.invokevirtual 121, 3) := by decide +kernel
theorem dX3_follows_28 : decode cX3_follows 28 = .ok (.lstore_n 2, 1) := by decide +kernel
theorem dX3_follows_29 : decode cX3_follows 29 = .ok (.lload_n 2, 1) := by decide +kernel
theorem dX3_follows_30 : decode cX3_follows 30 = .ok (.iload_n 1, 1) := by decide +kernel
theorem dX3_follows_31 : decode cX3_follows 31 = .ok (.invokestatic 142, 3) := by decide +kernel
theorem dX3_follows_34 : decode cX3_follows 34 = .ok (.ldc2_w 145, 3) := by decide +kernel
theorem dX3_follows_37 : decode cX3_follows 37 = .ok (.lxor, 1) := by decide +kernel
theorem dX3_follows_38 : decode cX3_follows 38 = .ok (.land, 1) := by decide +kernel
theorem dX3_follows_39 : decode cX3_follows 39 = .ok (.lconst 0, 1) := by decide +kernel
theorem dX3_follows_40 : decode cX3_follows 40 = .ok (.lcmp, 1) := by decide +kernel
theorem dX3_follows_41 : decode cX3_follows 41 = .ok (.ifCond .ne 7, 3) := by decide +kernel
theorem dX3_follows_44 : decode cX3_follows 44 = .ok (.iconst 1, 1) := by decide +kernel
theorem dX3_follows_45 : decode cX3_follows 45 = .ok (.goto 4, 3) := by decide +kernel
theorem dX3_follows_48 : decode cX3_follows 48 = .ok (.iconst 0, 1) := by decide +kernel
theorem dX3_follows_49 : decode cX3_follows 49 = .ok (.ireturn, 1) := by decide +kernel
set_option maxRecDepth 20000 in
theorem ggX3_share_X3_valuesOfClause : GoodIn wsX3_share wsX3_valuesOfClause := goodIn_r _ [5, 6, 7, 8, 9, 4, 10] (by decide +kernel) (by decide +kernel)
set_option maxRecDepth 20000 in
theorem gX3_share_X3_valuesOfClause : GoodIn wsX3_share (va_wsS RX3 142 yX3_valuesOfClause wsX3_valuesOfClause) := goodIn_app (goodIn_of _ (by decide +kernel)) ggX3_share_X3_valuesOfClause
set_option maxRecDepth 20000 in
theorem ggX3_share_J13_bitCount_95d88 : GoodIn wsX3_share wsJ13_bitCount_95d88 := goodIn_r _ [14, 15, 16, 17] (by decide +kernel) (by decide +kernel)
set_option maxRecDepth 20000 in
theorem gX3_share_J13_bitCount_95d88 : GoodIn wsX3_share (va_wsS RX3 125 yJ13_bitCount_95d88 wsJ13_bitCount_95d88) := goodIn_app (goodIn_of _ (by decide +kernel)) ggX3_share_J13_bitCount_95d88
set_option maxRecDepth 20000 in
theorem ggX3_share_X3_floatBitsOf64ths : GoodIn wsX3_share wsX3_floatBitsOf64ths := goodIn_r _ [20, 21] (by decide +kernel) (by decide +kernel)
set_option maxRecDepth 20000 in
theorem gX3_share_X3_floatBitsOf64ths : GoodIn wsX3_share (va_wsS RX3 147 yX3_floatBitsOf64ths wsX3_floatBitsOf64ths) := goodIn_app (goodIn_of _ (by decide +kernel)) ggX3_share_X3_floatBitsOf64ths
theorem dX3_share_0 : decode cX3_share 0 = .ok (.iload_n 1, 1) := by decide +kernel
theorem dX3_share_1 : decode cX3_share 1 = .ok (.ifCond .lt 10, 3) := by decide +kernel
theorem dX3_share_4 : decode cX3_share 4 = .ok (.iload_n 1, 1) := by decide +kernel
theorem dX3_share_5 : decode cX3_share 5 = .ok (.sipush 4095, 3) := by decide +kernel
theorem dX3_share_8 : decode cX3_share 8 = .ok (.if_icmp .le 6, 3) := by decide +kernel
theorem dX3_share_11 : decode cX3_share 11 = .ok (.ldc 30, 2) := by decide +kernel
theorem dX3_share_13 : decode cX3_share 13 = .ok (.ireturn, 1) := by decide +kernel
theorem dX3_share_14 : decode cX3_share 14 = .ok (.iload_n 1, 1) := by decide +kernel
theorem dX3_share_15 : decode cX3_share 15 = .ok (.invokestatic 142, 3) := by decide +kernel
theorem dX3_share_18 : decode cX3_share 18 = .ok (.invokestatic 125, 3) := by decide +kernel
theorem dX3_share_21 : decode cX3_share 21 = .ok (.invokestatic 147, 3) := by decide +kernel
theorem dX3_share_24 : decode cX3_share 24 = .ok (.ireturn, 1) := by decide +kernel
set_option maxRecDepth 20000 in
theorem ggX3_count_X1_howMany : GoodIn wsX3_count wsX1_howMany := goodIn_r _ [8, 9, 10, 11, 12, 13, 21, 22, 23, 24, 25, 26, 27, 28, 29, 30, 31, 32, 33] (by decide +kernel) (by decide +kernel)
set_option maxRecDepth 20000 in
theorem gX3_count_X1_howMany_n150 : GoodIn wsX3_count (wsX1_howMany) := ggX3_count_X1_howMany
set_option maxRecDepth 20000 in
theorem ggX3_count_X1_rankOf : GoodIn wsX3_count wsX1_rankOf := goodIn_r _ [16, 17, 11, 12, 13, 21, 22, 23, 24, 25, 26, 27, 28, 29, 30, 31, 32, 33] (by decide +kernel) (by decide +kernel)
set_option maxRecDepth 20000 in
theorem gX3_count_X1_rankOf_n165 : GoodIn wsX3_count (wsX1_rankOf) := ggX3_count_X1_rankOf
theorem dX3_count_0 : decode cX3_count 0 = .ok (.iload_n 1, 1) := by decide +kernel
theorem dX3_count_1 : decode cX3_count 1 = .ok (.tableswitch 138 0 9 #[55, 63, 72, 81, 90, 98, 106, 114, 122, 130], 55) := by decide +kernel
theorem dX3_count_56 : decode cX3_count 56 = .ok (.aload_n 0, 1) := by decide +kernel
theorem dX3_count_57 : decode cX3_count 57 = .ok (.getfield 10, 3) := by decide +kernel
theorem dX3_count_60 : decode cX3_count 60 = .ok (.getfield 57, 3) := by decide +kernel
theorem dX3_count_63 : decode cX3_count 63 = .ok (.ireturn, 1) := by decide +kernel
theorem dX3_count_64 : decode cX3_count 64 = .ok (.aload_n 0, 1) := by decide +kernel
theorem dX3_count_65 : decode cX3_count 65 = .ok (.getfield 10, 3) := by decide +kernel
theorem dX3_count_68 : decode cX3_count 68 = .ok (.iconst 0, 1) := by decide +kernel
theorem dX3_count_69 : decode cX3_count 69 = .ok (.invokevirtual 150, 3) := by decide +kernel
theorem dX3_count_72 : decode cX3_count 72 = .ok (.ireturn, 1) := by decide +kernel
theorem dX3_count_73 : decode cX3_count 73 = .ok (.aload_n 0, 1) := by decide +kernel
theorem dX3_count_74 : decode cX3_count 74 = .ok (.getfield 10, 3) := by decide +kernel
theorem dX3_count_77 : decode cX3_count 77 = .ok (.iconst 1, 1) := by decide +kernel
theorem dX3_count_78 : decode cX3_count 78 = .ok (.invokevirtual 150, 3) := by decide +kernel
theorem dX3_count_81 : decode cX3_count 81 = .ok (.ireturn, 1) := by decide +kernel
theorem dX3_count_82 : decode cX3_count 82 = .ok (.aload_n 0, 1) := by decide +kernel
theorem dX3_count_83 : decode cX3_count 83 = .ok (.getfield 10, 3) := by decide +kernel
theorem dX3_count_86 : decode cX3_count 86 = .ok (.iconst 2, 1) := by decide +kernel
theorem dX3_count_87 : decode cX3_count 87 = .ok (.invokevirtual 150, 3) := by decide +kernel
theorem dX3_count_90 : decode cX3_count 90 = .ok (.ireturn, 1) := by decide +kernel
theorem dX3_count_91 : decode cX3_count 91 = .ok (.aload_n 0, 1) := by decide +kernel
theorem dX3_count_92 : decode cX3_count 92 = .ok (.getfield 10, 3) := by decide +kernel
theorem dX3_count_95 : decode cX3_count 95 = .ok (.getfield 60, 3) := by decide +kernel
theorem dX3_count_98 : decode cX3_count 98 = .ok (.ireturn, 1) := by decide +kernel
theorem dX3_count_99 : decode cX3_count 99 = .ok (.aload_n 0, 1) := by decide +kernel
theorem dX3_count_100 : decode cX3_count 100 = .ok (.getfield 10, 3) := by decide +kernel
theorem dX3_count_103 : decode cX3_count 103 = .ok (.getfield 47, 3) := by decide +kernel
theorem dX3_count_106 : decode cX3_count 106 = .ok (.ireturn, 1) := by decide +kernel
theorem dX3_count_107 : decode cX3_count 107 = .ok (.aload_n 0, 1) := by decide +kernel
theorem dX3_count_108 : decode cX3_count 108 = .ok (.getfield 10, 3) := by decide +kernel
theorem dX3_count_111 : decode cX3_count 111 = .ok (.getfield 153, 3) := by decide +kernel
theorem dX3_count_114 : decode cX3_count 114 = .ok (.ireturn, 1) := by decide +kernel
theorem dX3_count_115 : decode cX3_count 115 = .ok (.aload_n 0, 1) := by decide +kernel
theorem dX3_count_116 : decode cX3_count 116 = .ok (.getfield 10, 3) := by decide +kernel
theorem dX3_count_119 : decode cX3_count 119 = .ok (.getfield 156, 3) := by decide +kernel
theorem dX3_count_122 : decode cX3_count 122 = .ok (.ireturn, 1) := by decide +kernel
theorem dX3_count_123 : decode cX3_count 123 = .ok (.aload_n 0, 1) := by decide +kernel
theorem dX3_count_124 : decode cX3_count 124 = .ok (.getfield 19, 3) := by decide +kernel
theorem dX3_count_127 : decode cX3_count 127 = .ok (.getfield 159, 3) := by decide +kernel
theorem dX3_count_130 : decode cX3_count 130 = .ok (.ireturn, 1) := by decide +kernel
theorem dX3_count_131 : decode cX3_count 131 = .ok (.aload_n 0, 1) := by decide +kernel
theorem dX3_count_132 : decode cX3_count 132 = .ok (.getfield 26, 3) := by decide +kernel
theorem dX3_count_135 : decode cX3_count 135 = .ok (.getfield 162, 3) := by decide +kernel
theorem dX3_count_138 : decode cX3_count 138 = .ok (.ireturn, 1) := by decide +kernel
theorem dX3_count_139 : decode cX3_count 139 = .ok (.iload_n 1, 1) := by decide +kernel
theorem dX3_count_140 : decode cX3_count 140 = .ok (.bipush 10, 2) := by decide +kernel
theorem dX3_count_142 : decode cX3_count 142 = .ok (.if_icmp .lt 23, 3) := by decide +kernel
theorem dX3_count_145 : decode cX3_count 145 = .ok (.iload_n 1, 1) := by decide +kernel
theorem dX3_count_146 : decode cX3_count 146 = .ok (.bipush 16, 2) := by decide +kernel
theorem dX3_count_148 : decode cX3_count 148 = .ok (.if_icmp .ge 17, 3) := by decide +kernel
theorem dX3_count_151 : decode cX3_count 151 = .ok (.aload_n 0, 1) := by decide +kernel
theorem dX3_count_152 : decode cX3_count 152 = .ok (.getfield 10, 3) := by decide +kernel
theorem dX3_count_155 : decode cX3_count 155 = .ok (.iload_n 1, 1) := by decide +kernel
theorem dX3_count_156 : decode cX3_count 156 = .ok (.bipush 10, 2) := by decide +kernel
theorem dX3_count_158 : decode cX3_count 158 = .ok (.isub, 1) := by decide +kernel
theorem dX3_count_159 : decode cX3_count 159 = .ok (.invokevirtual 165, 3) := by decide +kernel
theorem dX3_count_162 : decode cX3_count 162 = .ok (.goto 5, 3) := by decide +kernel
theorem dX3_count_165 : decode cX3_count 165 = .ok (.ldc 30, 2) := by decide +kernel
theorem dX3_count_167 : decode cX3_count 167 = .ok (.ireturn, 1) := by decide +kernel
set_option maxRecDepth 20000 in
theorem ggX3_undo_X0_restoreLatest : GoodIn wsX3_undo wsX0_restoreLatest := goodIn_r _ [7, 8, 9, 10, 11, 5, 12, 13, 14, 15, 16, 17, 18, 19, 20, 21, 22, 23, 24, 25, 26, 27, 28, 29, 30, 31, 32, 33, 34, 35, 36, 37, 38, 39, 40, 41, 42, 43, 47, 48, 49, 50, 51, 52, 53, 54, 55, 56, 57, 58, 59, 60, 61] (by decide +kernel) (by decide +kernel)
set_option maxRecDepth 20000 in
theorem gX3_undo_X0_restoreLatest_n168 : GoodIn wsX3_undo (wsX0_restoreLatest) := ggX3_undo_X0_restoreLatest
theorem dX3_undo_0 : decode cX3_undo 0 = .ok (.aload_n 0, 1) := by decide +kernel
theorem dX3_undo_1 : decode cX3_undo 1 = .ok (.getfield 19, 3) := by decide +kernel
theorem dX3_undo_4 : decode cX3_undo 4 = .ok (.aload_n 0, 1) := by decide +kernel
theorem dX3_undo_5 : decode cX3_undo 5 = .ok (.getfield 10, 3) := by decide +kernel
theorem dX3_undo_8 : decode cX3_undo 8 = .ok (.invokevirtual 168, 3) := by decide +kernel
theorem dX3_undo_11 : decode cX3_undo 11 = .ok (.ifCond .eq 13, 3) := by decide +kernel
theorem dX3_undo_14 : decode cX3_undo 14 = .ok (.aload_n 0, 1) := by decide +kernel
theorem dX3_undo_15 : decode cX3_undo 15 = .ok (.getfield 19, 3) := by decide +kernel
theorem dX3_undo_18 : decode cX3_undo 18 = .ok (.getfield 159, 3) := by decide +kernel
theorem dX3_undo_21 : decode cX3_undo 21 = .ok (.goto 5, 3) := by decide +kernel
theorem dX3_undo_24 : decode cX3_undo 24 = .ok (.ldc 56, 2) := by decide +kernel
theorem dX3_undo_26 : decode cX3_undo 26 = .ok (.ireturn, 1) := by decide +kernel
set_option maxRecDepth 20000 in
theorem ggX3_type_X2_add : GoodIn wsX3_type wsX2_add := goodIn_r _ [7, 8, 9, 10, 11, 12, 16, 17] (by decide +kernel) (by decide +kernel)
set_option maxRecDepth 20000 in
theorem gX3_type_X2_add_n172 : GoodIn wsX3_type (wsX2_add) := ggX3_type_X2_add
theorem dX3_type_0 : decode cX3_type 0 = .ok (.iload_n 1, 1) := by decide +kernel
theorem dX3_type_1 : decode cX3_type 1 = .ok (.bipush 32, 2) := by decide +kernel
theorem dX3_type_3 : decode cX3_type 3 = .ok (.if_icmp .lt 9, 3) := by decide +kernel
theorem dX3_type_6 : decode cX3_type 6 = .ok (.iload_n 1, 1) := by decide +kernel
theorem dX3_type_7 : decode cX3_type 7 = .ok (.bipush 126, 2) := by decide +kernel
theorem dX3_type_9 : decode cX3_type 9 = .ok (.if_icmp .le 6, 3) := by decide +kernel
theorem dX3_type_12 : decode cX3_type 12 = .ok (.ldc 30, 2) := by decide +kernel
theorem dX3_type_14 : decode cX3_type 14 = .ok (.ireturn, 1) := by decide +kernel
theorem dX3_type_15 : decode cX3_type 15 = .ok (.aload_n 0, 1) := by decide +kernel
theorem dX3_type_16 : decode cX3_type 16 = .ok (.getfield 26, 3) := by decide +kernel
theorem dX3_type_19 : decode cX3_type 19 = .ok (.iload_n 1, 1) := by decide +kernel
theorem dX3_type_20 : decode cX3_type 20 = .ok (.invokevirtual 172, 3) := by decide +kernel
theorem dX3_type_23 : decode cX3_type 23 = .ok (.ifCond .eq 13, 3) := by decide +kernel
theorem dX3_type_26 : decode cX3_type 26 = .ok (.aload_n 0, 1) := by decide +kernel
theorem dX3_type_27 : decode cX3_type 27 = .ok (.getfield 26, 3) := by decide +kernel
theorem dX3_type_30 : decode cX3_type 30 = .ok (.getfield 162, 3) := by decide +kernel
theorem dX3_type_33 : decode cX3_type 33 = .ok (.goto 5, 3) := by decide +kernel
theorem dX3_type_36 : decode cX3_type 36 = .ok (.ldc 55, 2) := by decide +kernel
theorem dX3_type_38 : decode cX3_type 38 = .ok (.ireturn, 1) := by decide +kernel
theorem dX3_clearText_0 : decode cX3_clearText 0 = .ok (.aload_n 0, 1) := by decide +kernel
theorem dX3_clearText_1 : decode cX3_clearText 1 = .ok (.getfield 26, 3) := by decide +kernel
theorem dX3_clearText_4 : decode cX3_clearText 4 = .ok (.getfield 162, 3) := by decide +kernel
theorem dX3_clearText_7 : decode cX3_clearText 7 = .ok (.istore_n 1, 1) := by decide +kernel
theorem dX3_clearText_8 : decode cX3_clearText 8 = .ok (.aload_n 0, 1) := by decide +kernel
theorem dX3_clearText_9 : decode cX3_clearText 9 = .ok (.getfield 26, 3) := by decide +kernel
theorem dX3_clearText_12 : decode cX3_clearText 12 = .ok (.iconst 0, 1) := by decide +kernel
theorem dX3_clearText_13 : decode cX3_clearText 13 = .ok (.putfield 162, 3) := by decide +kernel
theorem dX3_clearText_16 : decode cX3_clearText 16 = .ok (.iload_n 1, 1) := by decide +kernel
theorem dX3_clearText_17 : decode cX3_clearText 17 = .ok (.ireturn, 1) := by decide +kernel
set_option maxRecDepth 20000 in
theorem ggX3_fault_X2_whereItBreaksOff : GoodIn wsX3_fault wsX2_whereItBreaksOff := goodIn_r _ [7, 8, 9, 10, 11, 12, 19, 20] (by decide +kernel) (by decide +kernel)
set_option maxRecDepth 20000 in
theorem gX3_fault_X2_whereItBreaksOff_n175 : GoodIn wsX3_fault (wsX2_whereItBreaksOff) := ggX3_fault_X2_whereItBreaksOff
set_option maxRecDepth 20000 in
theorem ggX3_fault_X2_startOfClause : GoodIn wsX3_fault wsX2_startOfClause := goodIn_r _ [15, 9, 10, 11, 12, 19, 20] (by decide +kernel) (by decide +kernel)
set_option maxRecDepth 20000 in
theorem gX3_fault_X2_startOfClause_n178 : GoodIn wsX3_fault (wsX2_startOfClause) := ggX3_fault_X2_startOfClause
theorem dX3_fault_0 : decode cX3_fault 0 = .ok (.iload_n 1, 1) := by decide +kernel
theorem dX3_fault_1 : decode cX3_fault 1 = .ok (.ifCond .lt 8, 3) := by decide +kernel
theorem dX3_fault_4 : decode cX3_fault 4 = .ok (.iload_n 1, 1) := by decide +kernel
theorem dX3_fault_5 : decode cX3_fault 5 = .ok (.iconst 1, 1) := by decide +kernel
theorem dX3_fault_6 : decode cX3_fault 6 = .ok (.if_icmp .le 6, 3) := by decide +kernel
theorem dX3_fault_9 : decode cX3_fault 9 = .ok (.ldc 30, 2) := by decide +kernel
theorem dX3_fault_11 : decode cX3_fault 11 = .ok (.ireturn, 1) := by decide +kernel
theorem dX3_fault_12 : decode cX3_fault 12 = .ok (.aload_n 0, 1) := by decide +kernel
theorem dX3_fault_13 : decode cX3_fault 13 = .ok (.getfield 26, 3) := by decide +kernel
theorem dX3_fault_16 : decode cX3_fault 16 = .ok (.invokevirtual 175, 3) := by decide +kernel
theorem dX3_fault_19 : decode cX3_fault 19 = .ok (.istore_n 2, 1) := by decide +kernel
theorem dX3_fault_20 : decode cX3_fault 20 = .ok (.iload_n 2, 1) := by decide +kernel
theorem dX3_fault_21 : decode cX3_fault 21 = .ok (.iconst (-1), 1) := by decide +kernel
theorem dX3_fault_22 : decode cX3_fault 22 = .ok (.if_icmp .ne 6, 3) := by decide +kernel
theorem dX3_fault_25 : decode cX3_fault 25 = .ok (.ldc 133, 2) := by decide +kernel
theorem dX3_fault_27 : decode cX3_fault 27 = .ok (.ireturn, 1) := by decide +kernel
theorem dX3_fault_28 : decode cX3_fault 28 = .ok (.aload_n 0, 1) := by decide +kernel
theorem dX3_fault_29 : decode cX3_fault 29 = .ok (.getfield 26, 3) := by decide +kernel
theorem dX3_fault_32 : decode cX3_fault 32 = .ok (.iload_n 2, 1) := by decide +kernel
theorem dX3_fault_33 : decode cX3_fault 33 = .ok (.invokevirtual 178, 3) := by decide +kernel
theorem dX3_fault_36 : decode cX3_fault 36 = .ok (.istore_n 3, 1) := by decide +kernel
theorem dX3_fault_37 : decode cX3_fault 37 = .ok (.iload_n 1, 1) := by decide +kernel
theorem dX3_fault_38 : decode cX3_fault 38 = .ok (.ifCond .ne 7, 3) := by decide +kernel
theorem dX3_fault_41 : decode cX3_fault 41 = .ok (.iload_n 3, 1) := by decide +kernel
theorem dX3_fault_42 : decode cX3_fault 42 = .ok (.goto 6, 3) := by decide +kernel
theorem dX3_fault_45 : decode cX3_fault 45 = .ok (.iload_n 2, 1) := by decide +kernel
theorem dX3_fault_46 : decode cX3_fault 46 = .ok (.iload_n 3, 1) := by decide +kernel
theorem dX3_fault_47 : decode cX3_fault 47 = .ok (.isub, 1) := by decide +kernel
theorem dX3_fault_48 : decode cX3_fault 48 = .ok (.ireturn, 1) := by decide +kernel
set_option maxRecDepth 20000 in
theorem ggX3_play_X2_whereItBreaksOff : GoodIn wsX3_play wsX2_whereItBreaksOff := goodIn_r _ [8, 9, 10, 11, 12, 13, 115, 116] (by decide +kernel) (by decide +kernel)
set_option maxRecDepth 20000 in
theorem gX3_play_X2_whereItBreaksOff_n175 : GoodIn wsX3_play (wsX2_whereItBreaksOff) := ggX3_play_X2_whereItBreaksOff
set_option maxRecDepth 20000 in
theorem ggX3_play_X0_putAside : GoodIn wsX3_play wsX0_putAside := goodIn_r _ [17, 18, 19, 20, 21, 15, 22, 23, 24, 25, 26, 27, 28, 29, 30, 31, 32, 33, 34, 35, 36, 37, 38, 39, 40, 41, 12, 42, 43, 44, 45, 46, 47, 48, 49, 50, 51, 52, 117, 118, 119, 120, 121, 122, 123, 124, 125, 126, 127, 128, 129, 130, 131] (by decide +kernel) (by decide +kernel)
set_option maxRecDepth 20000 in
theorem gX3_play_X0_putAside_n31 : GoodIn wsX3_play (wsX0_putAside) := ggX3_play_X0_putAside
set_option maxRecDepth 20000 in
theorem ggX3_play_X3_bringText : GoodIn wsX3_play wsX3_bringText := goodIn_r _ [56, 1, 4, 57, 58, 11, 12, 13, 59, 25, 60, 61, 39, 40, 36, 62, 63, 64, 65, 66, 67, 68, 29, 69, 70, 71, 72, 30, 73, 74, 75, 76, 77, 78, 79, 80, 81, 82, 83, 84, 31, 32, 33, 34, 85, 86, 45, 87, 35, 88, 89, 90, 91, 92, 93, 94, 95, 96, 112, 113, 114, 115, 116, 119, 120, 121, 122, 123, 124, 125, 126, 127, 128, 129, 130, 131] (by decide +kernel) (by decide +kernel)
set_option maxRecDepth 20000 in
theorem gX3_play_X3_bringText : GoodIn wsX3_play (wsV RX3 181 RX3 yX3_bringText wsX3_bringText) := goodIn_app (goodIn_of _ (by decide +kernel)) ggX3_play_X3_bringText
set_option maxRecDepth 20000 in
theorem ggX3_play_X3_settle : GoodIn wsX3_play wsX3_settle := goodIn_r _ [100, 101, 3, 4, 102, 15, 103, 104, 18, 19, 20, 21, 22, 23, 24, 25, 26, 27, 28, 29, 30, 31, 32, 33, 34, 35, 36, 37, 38, 39, 40, 41, 12, 42, 43, 44, 45, 46, 47, 48, 49, 50, 51, 52, 105, 106, 107, 108, 109, 110, 111, 112, 113, 114, 117, 118, 119, 120, 121, 122, 123, 124, 125, 126, 127, 128, 129, 130, 131] (by decide +kernel) (by decide +kernel)
set_option maxRecDepth 20000 in
theorem gX3_play_X3_settle : GoodIn wsX3_play (wsV RX3 39 RX3 yX3_settle wsX3_settle) := goodIn_app (goodIn_of _ (by decide +kernel)) ggX3_play_X3_settle
theorem dX3_play_0 : decode cX3_play 0 = .ok (.aload_n 0, 1) := by decide +kernel
theorem dX3_play_1 : decode cX3_play 1 = .ok (.getfield 26, 3) := by decide +kernel
theorem dX3_play_4 : decode cX3_play 4 = .ok (.invokevirtual 175, 3) := by decide +kernel
theorem dX3_play_7 : decode cX3_play 7 = .ok (.iconst (-1), 1) := by decide +kernel
theorem dX3_play_8 : decode cX3_play 8 = .ok (.if_icmp .eq 6, 3) := by decide +kernel
theorem dX3_play_11 : decode cX3_play 11 = .ok (.ldc 56, 2) := by decide +kernel
theorem dX3_play_13 : decode cX3_play 13 = .ok (.ireturn, 1) := by decide +kernel
theorem dX3_play_14 : decode cX3_play 14 = .ok (.aload_n 0, 1) := by decide +kernel
theorem dX3_play_15 : decode cX3_play 15 = .ok (.getfield 19, 3) := by decide +kernel
theorem dX3_play_18 : decode cX3_play 18 = .ok (.aload_n 0, 1) := by decide +kernel
theorem dX3_play_19 : decode cX3_play 19 = .ok (.getfield 10, 3) := by decide +kernel
theorem dX3_play_22 : decode cX3_play 22 = .ok (.invokevirtual 31, 3) := by decide +kernel
theorem dX3_play_25 : decode cX3_play 25 = .ok (.aload_n 0, 1) := by decide +kernel
theorem dX3_play_26 : decode cX3_play 26 = .ok (.aload_n 0, 1) := by decide +kernel
theorem dX3_play_27 : decode cX3_play 27 = .ok (.invokevirtual 181, 3) := by decide +kernel
theorem dX3_play_30 : decode cX3_play 30 = .ok (.invokevirtual 39, 3) := by decide +kernel
theorem dX3_play_33 : decode cX3_play 33 = .ok (.ireturn, 1) := by decide +kernel
set_option maxRecDepth 20000 in
theorem ggX3_settle_X0_takeBack : GoodIn wsX3_settle wsX0_takeBack := goodIn_r _ [7, 8, 9, 10, 11, 5, 12, 13, 14, 15, 16, 17, 18, 19, 20, 21, 22, 23, 24, 25, 26, 27, 28, 29, 30, 31, 32, 33, 34, 35, 36, 37, 38, 39, 40, 41, 42, 43, 54, 55, 56, 57, 58, 59, 60, 61, 62, 63, 64, 65, 66, 67, 68] (by decide +kernel) (by decide +kernel)
set_option maxRecDepth 20000 in
theorem gX3_settle_X0_takeBack_n184 : GoodIn wsX3_settle (wsX0_takeBack) := ggX3_settle_X0_takeBack
set_option maxRecDepth 20000 in
theorem ggX3_settle_X0_keep : GoodIn wsX3_settle wsX0_keep := goodIn_r _ [46, 8, 47, 48, 49, 5, 50, 13, 9, 10, 11, 12, 54, 55] (by decide +kernel) (by decide +kernel)
set_option maxRecDepth 20000 in
theorem gX3_settle_X0_keep_n187 : GoodIn wsX3_settle (wsX0_keep) := ggX3_settle_X0_keep
theorem dX3_settle_0 : decode cX3_settle 0 = .ok (.iload_n 1, 1) := by decide +kernel
theorem dX3_settle_1 : decode cX3_settle 1 = .ok (.ldc 30, 2) := by decide +kernel
theorem dX3_settle_3 : decode cX3_settle 3 = .ok (.if_icmp .gt 17, 3) := by decide +kernel
theorem dX3_settle_6 : decode cX3_settle 6 = .ok (.aload_n 0, 1) := by decide +kernel
theorem dX3_settle_7 : decode cX3_settle 7 = .ok (.getfield 19, 3) := by decide +kernel
theorem dX3_settle_10 : decode cX3_settle 10 = .ok (.aload_n 0, 1) := by decide +kernel
theorem dX3_settle_11 : decode cX3_settle 11 = .ok (.getfield 10, 3) := by decide +kernel
theorem dX3_settle_14 : decode cX3_settle 14 = .ok (.invokevirtual 184, 3) := by decide +kernel
theorem dX3_settle_17 : decode cX3_settle 17 = .ok (.goto 10, 3) := by decide +kernel
theorem dX3_settle_20 : decode cX3_settle 20 = .ok (.aload_n 0, 1) := by decide +kernel
theorem dX3_settle_21 : decode cX3_settle 21 = .ok (.getfield 19, 3) := by decide +kernel
theorem dX3_settle_24 : decode cX3_settle 24 = .ok (.invokevirtual 187, 3) := by decide +kernel
theorem dX3_settle_27 : decode cX3_settle 27 = .ok (.iload_n 1, 1) := by decide +kernel
theorem dX3_settle_28 : decode cX3_settle 28 = .ok (.ireturn, 1) := by decide +kernel
set_option maxRecDepth 20000 in
theorem ggX3_bringText_X3_at : GoodIn wsX3_bringText wsX3_at := goodIn_r _ [7] (by decide +kernel) (by decide +kernel)
set_option maxRecDepth 20000 in
theorem gX3_bringText_X3_at : GoodIn wsX3_bringText (va_wsS RX3 71 yX3_at wsX3_at) := goodIn_app (goodIn_of _ (by decide +kernel)) ggX3_bringText_X3_at
set_option maxRecDepth 20000 in
theorem ggX3_bringText_X1_bring : GoodIn wsX3_bringText wsX1_bring := goodIn_r _ [11, 12, 13, 14, 15, 16, 6, 17, 18, 19, 20, 9, 21, 22, 23, 24, 25, 26, 27, 5, 7, 28, 29, 30, 31, 32, 33, 34, 35, 36, 37, 38, 39, 40, 41, 42, 43, 44, 45, 46, 47, 48, 49, 50, 51, 52, 53, 54, 55, 56, 57, 63, 64, 65, 66, 67, 68, 69, 70, 71, 72, 73, 74, 75] (by decide +kernel) (by decide +kernel)
set_option maxRecDepth 20000 in
theorem gX3_bringText_X1_bring_n35 : GoodIn wsX3_bringText (wsX1_bring) := ggX3_bringText_X1_bring
theorem dX3_bringText_0 : decode cX3_bringText 0 = .ok (.iconst 0, 1) := by decide +kernel
theorem dX3_bringText_1 : decode cX3_bringText 1 = .ok (.istore_n 1, 1) := by decide +kernel
theorem dX3_bringText_2 : decode cX3_bringText 2 = .ok (.iconst 0, 1) := by decide +kernel
theorem dX3_bringText_3 : decode cX3_bringText 3 = .ok (.istore_n 2, 1) := by decide +kernel
theorem dX3_bringText_4 : decode cX3_bringText 4 = .ok (.iconst 0, 1) := by decide +kernel
theorem dX3_bringText_5 : decode cX3_bringText 5 = .ok (.istore_n 3, 1) := by decide +kernel
theorem dX3_bringText_6 : decode cX3_bringText 6 = .ok (.iconst 0, 1) := by decide +kernel
theorem dX3_bringText_7 : decode cX3_bringText 7 = .ok (.istore 4, 2) := by decide +kernel
theorem dX3_bringText_9 : decode cX3_bringText 9 = .ok (.iload 4, 2) := by decide +kernel
theorem dX3_bringText_11 : decode cX3_bringText 11 = .ok (.aload_n 0, 1) := by decide +kernel
theorem dX3_bringText_12 : decode cX3_bringText 12 = .ok (.getfield 26, 3) := by decide +kernel
theorem dX3_bringText_15 : decode cX3_bringText 15 = .ok (.getfield 162, 3) := by decide +kernel
theorem dX3_bringText_18 : decode cX3_bringText 18 = .ok (.if_icmp .ge 99, 3) := by decide +kernel
theorem dX3_bringText_21 : decode cX3_bringText 21 = .ok (.aload_n 0, 1) := by decide +kernel
theorem dX3_bringText_22 : decode cX3_bringText 22 = .ok (.getfield 26, 3) := by decide +kernel
theorem dX3_bringText_25 : decode cX3_bringText 25 = .ok (.getfield 190, 3) := by decide +kernel
theorem dX3_bringText_28 : decode cX3_bringText 28 = .ok (.iload 4, 2) := by decide +kernel
theorem dX3_bringText_30 : decode cX3_bringText 30 = .ok (.invokestatic 71, 3) := by decide +kernel
theorem dX3_bringText_33 : decode cX3_bringText 33 = .ok (.istore 5, 2) := by decide +kernel
theorem dX3_bringText_35 : decode cX3_bringText 35 = .ok (.iload 5, 2) := by decide +kernel
theorem dX3_bringText_37 : decode cX3_bringText 37 = .ok (.bipush 59, 2) := by decide +kernel
theorem dX3_bringText_39 : decode cX3_bringText 39 = .ok (.if_icmp .ne 44, 3) := by decide +kernel
theorem dX3_bringText_42 : decode cX3_bringText 42 = .ok (.aload_n 0, 1) := by decide +kernel
theorem dX3_bringText_43 : decode cX3_bringText 43 = .ok (.getfield 10, 3) := by decide +kernel
theorem dX3_bringText_46 : decode cX3_bringText 46 = .ok (.iload_n 2, 1) := by decide +kernel
theorem dX3_bringText_47 : decode cX3_bringText 47 = .ok (.iconst (-1), 1) := by decide +kernel
theorem dX3_bringText_48 : decode cX3_bringText 48 = .ok (.iconst (-1), 1) := by decide +kernel
theorem dX3_bringText_49 : decode cX3_bringText 49 = .ok (.iconst (-1), 1) := by decide +kernel
theorem dX3_bringText_50 : decode cX3_bringText 50 = .ok (.invokevirtual 35, 3) := by decide +kernel
theorem dX3_bringText_53 : decode cX3_bringText 53 = .ok (.istore 6, 2) := by decide +kernel
theorem dX3_bringText_55 : decode cX3_bringText 55 = .ok (.iload 6, 2) := by decide +kernel
theorem dX3_bringText_57 : decode cX3_bringText 57 = .ok (.ldc 55, 2) := by decide +kernel
theorem dX3_bringText_59 : decode cX3_bringText 59 = .ok (.if_icmp .ne 6, 3) := by decide +kernel
theorem dX3_bringText_62 : decode cX3_bringText 62 = .ok (.ldc 55, 2) := by decide +kernel
theorem dX3_bringText_64 : decode cX3_bringText 64 = .ok (.ireturn, 1) := by decide +kernel
theorem dX3_bringText_65 : decode cX3_bringText 65 = .ok (.iload_n 1, 1) := by decide +kernel
theorem dX3_bringText_66 : decode cX3_bringText 66 = .ok (.iload 6, 2) := by decide +kernel
theorem dX3_bringText_68 : decode cX3_bringText 68 = .ok (.ifCond .lt 7, 3) := by decide +kernel
theorem dX3_bringText_71 : decode cX3_bringText 71 = .ok (.iconst 1, 1) := by decide +kernel
theorem dX3_bringText_72 : decode cX3_bringText 72 = .ok (.goto 4, 3) := by decide +kernel
theorem dX3_bringText_75 : decode cX3_bringText 75 = .ok (.iconst 0, 1) := by decide +kernel
theorem dX3_bringText_76 : decode cX3_bringText 76 = .ok (.iadd, 1) := by decide +kernel
theorem dX3_bringText_77 : decode cX3_bringText 77 = .ok (.istore_n 1, 1) := by decide +kernel
theorem dX3_bringText_78 : decode cX3_bringText 78 = .ok (.iconst 0, 1) := by decide +kernel
theorem dX3_bringText_79 : decode cX3_bringText 79 = .ok (.istore_n 2, 1) := by decide +kernel
theorem dX3_bringText_80 : decode cX3_bringText 80 = .ok (.goto 31, 3) := by decide +kernel
theorem dX3_bringText_83 : decode cX3_bringText 83 = .ok (.iload 5, 2) := by decide +kernel
theorem dX3_bringText_85 : decode cX3_bringText 85 = .ok (.bipush 45, 2) := by decide +kernel
theorem dX3_bringText_87 : decode cX3_bringText 87 = .ok (.if_icmp .ne 8, 3) := by decide +kernel
theorem dX3_bringText_90 : decode cX3_bringText 90 = .ok (.iconst 1, 1) := by decide +kernel
theorem dX3_bringText_91 : decode cX3_bringText 91 = .ok (.istore_n 3, 1) := by decide +kernel
theorem dX3_bringText_92 : decode cX3_bringText 92 = .ok (.goto 19, 3) := by decide +kernel
theorem dX3_bringText_95 : decode cX3_bringText 95 = .ok (.iload_n 2, 1) := by decide +kernel
theorem dX3_bringText_96 : decode cX3_bringText 96 = .ok (.iconst 1, 1) := by decide +kernel
theorem dX3_bringText_97 : decode cX3_bringText 97 = .ok (.iconst 2, 1) := by decide +kernel
theorem dX3_bringText_98 : decode cX3_bringText 98 = .ok (.iload 5, 2) := by decide +kernel
theorem dX3_bringText_100 : decode cX3_bringText 100 = .ok (.bipush 97, 2) := by decide +kernel
theorem dX3_bringText_102 : decode cX3_bringText 102 = .ok (.isub, 1) := by decide +kernel
theorem dX3_bringText_103 : decode cX3_bringText 103 = .ok (.imul, 1) := by decide +kernel
theorem dX3_bringText_104 : decode cX3_bringText 104 = .ok (.iload_n 3, 1) := by decide +kernel
theorem dX3_bringText_105 : decode cX3_bringText 105 = .ok (.iadd, 1) := by decide +kernel
theorem dX3_bringText_106 : decode cX3_bringText 106 = .ok (.ishl, 1) := by decide +kernel
theorem dX3_bringText_107 : decode cX3_bringText 107 = .ok (.ior, 1) := by decide +kernel
theorem dX3_bringText_108 : decode cX3_bringText 108 = .ok (.istore_n 2, 1) := by decide +kernel
theorem dX3_bringText_109 : decode cX3_bringText 109 = .ok (.iconst 0, 1) := by decide +kernel
theorem dX3_bringText_110 : decode cX3_bringText 110 = .ok (.istore_n 3, 1) := by decide +kernel
theorem dX3_bringText_111 : decode cX3_bringText 111 = .ok (.iinc 4 1, 3) := by decide +kernel
theorem dX3_bringText_114 : decode cX3_bringText 114 = .ok (.goto (-105), 3) := by decide +kernel
theorem dX3_bringText_117 : decode cX3_bringText 117 = .ok (.iload_n 1, 1) := by decide +kernel
theorem dX3_bringText_118 : decode cX3_bringText 118 = .ok (.ireturn, 1) := by decide +kernel
theorem dX3_foundOrNot_0 : decode cX3_foundOrNot 0 = .ok (.iload_n 0, 1) := by decide +kernel
theorem dX3_foundOrNot_1 : decode cX3_foundOrNot 1 = .ok (.ifCond .ge 8, 3) := by decide +kernel
theorem dX3_foundOrNot_4 : decode cX3_foundOrNot 4 = .ok (.ldc 133, 2) := by decide +kernel
theorem dX3_foundOrNot_6 : decode cX3_foundOrNot 6 = .ok (.goto 4, 3) := by decide +kernel
theorem dX3_foundOrNot_9 : decode cX3_foundOrNot 9 = .ok (.iload_n 0, 1) := by decide +kernel
theorem dX3_foundOrNot_10 : decode cX3_foundOrNot 10 = .ok (.ireturn, 1) := by decide +kernel
theorem dX3_at_0 : decode cX3_at 0 = .ok (.aload_n 0, 1) := by decide +kernel
theorem dX3_at_1 : decode cX3_at 1 = .ok (.ifnull 19, 3) := by decide +kernel
theorem dX3_at_4 : decode cX3_at 4 = .ok (.iload_n 1, 1) := by decide +kernel
theorem dX3_at_5 : decode cX3_at 5 = .ok (.ifCond .lt 15, 3) := by decide +kernel
theorem dX3_at_8 : decode cX3_at 8 = .ok (.iload_n 1, 1) := by decide +kernel
theorem dX3_at_9 : decode cX3_at 9 = .ok (.aload_n 0, 1) := by decide +kernel
theorem dX3_at_10 : decode cX3_at 10 = .ok (.arraylength, 1) := by decide +kernel
theorem dX3_at_11 : decode cX3_at 11 = .ok (.if_icmp .ge 9, 3) := by decide +kernel
theorem dX3_at_14 : decode cX3_at 14 = .ok (.aload_n 0, 1) := by decide +kernel
theorem dX3_at_15 : decode cX3_at 15 = .ok (.iload_n 1, 1) := by decide +kernel
theorem dX3_at_16 : decode cX3_at 16 = .ok (.iaload, 1) := by decide +kernel
theorem dX3_at_17 : decode cX3_at 17 = .ok (.goto 4, 3) := by decide +kernel
theorem dX3_at_20 : decode cX3_at 20 = .ok (.iconst 0, 1) := by decide +kernel
theorem dX3_at_21 : decode cX3_at 21 = .ok (.ireturn, 1) := by decide +kernel
theorem dX3_put_0 : decode cX3_put 0 = .ok (.aload_n 0, 1) := by decide +kernel
theorem dX3_put_1 : decode cX3_put 1 = .ok (.ifnull 17, 3) := by decide +kernel
theorem dX3_put_4 : decode cX3_put 4 = .ok (.iload_n 1, 1) := by decide +kernel
theorem dX3_put_5 : decode cX3_put 5 = .ok (.ifCond .lt 13, 3) := by decide +kernel
theorem dX3_put_8 : decode cX3_put 8 = .ok (.iload_n 1, 1) := by decide +kernel
theorem dX3_put_9 : decode cX3_put 9 = .ok (.aload_n 0, 1) := by decide +kernel
theorem dX3_put_10 : decode cX3_put 10 = .ok (.arraylength, 1) := by decide +kernel
theorem dX3_put_11 : decode cX3_put 11 = .ok (.if_icmp .ge 7, 3) := by decide +kernel
theorem dX3_put_14 : decode cX3_put 14 = .ok (.aload_n 0, 1) := by decide +kernel
theorem dX3_put_15 : decode cX3_put 15 = .ok (.iload_n 1, 1) := by decide +kernel
theorem dX3_put_16 : decode cX3_put 16 = .ok (.iload_n 2, 1) := by decide +kernel
theorem dX3_put_17 : decode cX3_put 17 = .ok (.iastore, 1) := by decide +kernel
theorem dX3_put_18 : decode cX3_put 18 = .ok (.return_, 1) := by decide +kernel
theorem dX3_longAt_0 : decode cX3_longAt 0 = .ok (.aload_n 0, 1) := by decide +kernel
theorem dX3_longAt_1 : decode cX3_longAt 1 = .ok (.ifnull 19, 3) := by decide +kernel
theorem dX3_longAt_4 : decode cX3_longAt 4 = .ok (.iload_n 1, 1) := by decide +kernel
theorem dX3_longAt_5 : decode cX3_longAt 5 = .ok (.ifCond .lt 15, 3) := by decide +kernel
theorem dX3_longAt_8 : decode cX3_longAt 8 = .ok (.iload_n 1, 1) := by decide +kernel
theorem dX3_longAt_9 : decode cX3_longAt 9 = .ok (.aload_n 0, 1) := by decide +kernel
theorem dX3_longAt_10 : decode cX3_longAt 10 = .ok (.arraylength, 1) := by decide +kernel
theorem dX3_longAt_11 : decode cX3_longAt 11 = .ok (.if_icmp .ge 9, 3) := by decide +kernel
theorem dX3_longAt_14 : decode cX3_longAt 14 = .ok (.aload_n 0, 1) := by decide +kernel
theorem dX3_longAt_15 : decode cX3_longAt 15 = .ok (.iload_n 1, 1) := by decide +kernel
theorem dX3_longAt_16 : decode cX3_longAt 16 = .ok (.laload, 1) := by decide +kernel
theorem dX3_longAt_17 : decode cX3_longAt 17 = .ok (.goto 4, 3) := by decide +kernel
theorem dX3_longAt_20 : decode cX3_longAt 20 = .ok (.lconst 0, 1) := by decide +kernel
theorem dX3_longAt_21 : decode cX3_longAt 21 = .ok (.lreturn, 1) := by decide +kernel
theorem dX3_putLong_0 : decode cX3_putLong 0 = .ok (.aload_n 0, 1) := by decide +kernel
theorem dX3_putLong_1 : decode cX3_putLong 1 = .ok (.ifnull 17, 3) := by decide +kernel
theorem dX3_putLong_4 : decode cX3_putLong 4 = .ok (.iload_n 1, 1) := by decide +kernel
theorem dX3_putLong_5 : decode cX3_putLong 5 = .ok (.ifCond .lt 13, 3) := by decide +kernel
theorem dX3_putLong_8 : decode cX3_putLong 8 = .ok (.iload_n 1, 1) := by decide +kernel
theorem dX3_putLong_9 : decode cX3_putLong 9 = .ok (.aload_n 0, 1) := by decide +kernel
theorem dX3_putLong_10 : decode cX3_putLong 10 = .ok (.arraylength, 1) := by decide +kernel
theorem dX3_putLong_11 : decode cX3_putLong 11 = .ok (.if_icmp .ge 7, 3) := by decide +kernel
theorem dX3_putLong_14 : decode cX3_putLong 14 = .ok (.aload_n 0, 1) := by decide +kernel
theorem dX3_putLong_15 : decode cX3_putLong 15 = .ok (.iload_n 1, 1) := by decide +kernel
theorem dX3_putLong_16 : decode cX3_putLong 16 = .ok (.lload_n 2, 1) := by decide +kernel
theorem dX3_putLong_17 : decode cX3_putLong 17 = .ok (.lastore, 1) := by decide +kernel
theorem dX3_putLong_18 : decode cX3_putLong 18 = .ok (.return_, 1) := by decide +kernel
theorem dX3_copyRow_0 : decode cX3_copyRow 0 = .ok (.aload_n 0, 1) := by decide +kernel
theorem dX3_copyRow_1 : decode cX3_copyRow 1 = .ok (.ifnull 21, 3) := by decide +kernel
theorem dX3_copyRow_4 : decode cX3_copyRow 4 = .ok (.aload_n 1, 1) := by decide +kernel
theorem dX3_copyRow_5 : decode cX3_copyRow 5 = .ok (.ifnull 17, 3) := by decide +kernel
theorem dX3_copyRow_8 : decode cX3_copyRow 8 = .ok (.aload_n 0, 1) := by decide +kernel
theorem dX3_copyRow_9 : decode cX3_copyRow 9 = .ok (.iconst 0, 1) := by decide +kernel
theorem dX3_copyRow_10 : decode cX3_copyRow 10 = .ok (.aload_n 1, 1) := by decide +kernel
theorem dX3_copyRow_11 : decode cX3_copyRow 11 = .ok (.iconst 0, 1) := by decide +kernel
theorem dX3_copyRow_12 : decode cX3_copyRow 12 = .ok (.aload_n 0, 1) := by decide +kernel
theorem dX3_copyRow_13 : decode cX3_copyRow 13 = .ok (.arraylength, 1) := by decide +kernel
theorem dX3_copyRow_14 : decode cX3_copyRow 14 = .ok (.aload_n 1, 1) := by decide +kernel
theorem dX3_copyRow_15 : decode cX3_copyRow 15 = .ok (.arraylength, 1) := by decide +kernel
theorem dX3_copyRow_16 : decode cX3_copyRow 16 = .ok (.invokestatic 193, 3) := by decide +kernel
theorem dX3_copyRow_19 : decode cX3_copyRow 19 = .ok (.invokestatic 198, 3) := by decide +kernel
theorem dX3_copyRow_22 : decode cX3_copyRow 22 = .ok (.return_, 1) := by decide +kernel
theorem dX3_copyLongRow_0 : decode cX3_copyLongRow 0 = .ok (.aload_n 0, 1) := by decide +kernel
theorem dX3_copyLongRow_1 : decode cX3_copyLongRow 1 = .ok (.ifnull 21, 3) := by decide +kernel
theorem dX3_copyLongRow_4 : decode cX3_copyLongRow 4 = .ok (.aload_n 1, 1) := by decide +kernel
theorem dX3_copyLongRow_5 : decode cX3_copyLongRow 5 = .ok (.ifnull 17, 3) := by decide +kernel
theorem dX3_copyLongRow_8 : decode cX3_copyLongRow 8 = .ok (.aload_n 0, 1) := by decide +kernel
theorem dX3_copyLongRow_9 : decode cX3_copyLongRow 9 = .ok (.iconst 0, 1) := by decide +kernel
theorem dX3_copyLongRow_10 : decode cX3_copyLongRow 10 = .ok (.aload_n 1, 1) := by decide +kernel
theorem dX3_copyLongRow_11 : decode cX3_copyLongRow 11 = .ok (.iconst 0, 1) := by decide +kernel
theorem dX3_copyLongRow_12 : decode cX3_copyLongRow 12 = .ok (.aload_n 0, 1) := by decide +kernel
theorem dX3_copyLongRow_13 : decode cX3_copyLongRow 13 = .ok (.arraylength, 1) := by decide +kernel
theorem dX3_copyLongRow_14 : decode cX3_copyLongRow 14 = .ok (.aload_n 1, 1) := by decide +kernel
theorem dX3_copyLongRow_15 : decode cX3_copyLongRow 15 = .ok (.arraylength, 1) := by decide +kernel
theorem dX3_copyLongRow_16 : decode cX3_copyLongRow 16 = .ok (.invokestatic 193, 3) := by decide +kernel
theorem dX3_copyLongRow_19 : decode cX3_copyLongRow 19 = .ok (.invokestatic 198, 3) := by decide +kernel
theorem dX3_copyLongRow_22 : decode cX3_copyLongRow 22 = .ok (.return_, 1) := by decide +kernel
theorem dX3_isIn_0 : decode cX3_isIn 0 = .ok (.lload_n 0, 1) := by decide +kernel
theorem dX3_isIn_1 : decode cX3_isIn 1 = .ok (.iload_n 2, 1) := by decide +kernel
theorem dX3_isIn_2 : decode cX3_isIn 2 = .ok (.lushr, 1) := by decide +kernel
theorem dX3_isIn_3 : decode cX3_isIn 3 = .ok (.lconst 1, 1) := by decide +kernel
theorem dX3_isIn_4 : decode cX3_isIn 4 = .ok (.land, 1) := by decide +kernel
theorem dX3_isIn_5 : decode cX3_isIn 5 = .ok (.lconst 0, 1) := by decide +kernel
theorem dX3_isIn_6 : decode cX3_isIn 6 = .ok (.lcmp, 1) := by decide +kernel
theorem dX3_isIn_7 : decode cX3_isIn 7 = .ok (.ifCond .eq 7, 3) := by decide +kernel
theorem dX3_isIn_10 : decode cX3_isIn 10 = .ok (.iconst 1, 1) := by decide +kernel
theorem dX3_isIn_11 : decode cX3_isIn 11 = .ok (.goto 4, 3) := by decide +kernel
theorem dX3_isIn_14 : decode cX3_isIn 14 = .ok (.iconst 0, 1) := by decide +kernel
theorem dX3_isIn_15 : decode cX3_isIn 15 = .ok (.ireturn, 1) := by decide +kernel
end
section
theorem dX3_setOf_0 : decode cX3_setOf 0 = .ok (.iload_n 0, 1) := by decide +kernel
theorem dX3_setOf_1 : decode cX3_setOf 1 = .ok (.ifCond .ge 7, 3) := by decide +kernel
theorem dX3_setOf_4 : decode cX3_setOf 4 = .ok (.lconst 0, 1) := by decide +kernel
theorem dX3_setOf_5 : decode cX3_setOf 5 = .ok (.goto 6, 3) := by decide +kernel
theorem dX3_setOf_8 : decode cX3_setOf 8 = .ok (.lconst 1, 1) := by decide +kernel
theorem dX3_setOf_9 : decode cX3_setOf 9 = .ok (.iload_n 0, 1) := by decide +kernel
theorem dX3_setOf_10 : decode cX3_setOf 10 = .ok (.lshl, 1) := by decide +kernel
theorem dX3_setOf_11 : decode cX3_setOf 11 = .ok (.lreturn, 1) := by decide +kernel
theorem dX3_isWithin_0 : decode cX3_isWithin 0 = .ok (.iload_n 0, 1) := by decide +kernel
theorem dX3_isWithin_1 : decode cX3_isWithin 1 = .ok (.iload_n 1, 1) := by decide +kernel
theorem dX3_isWithin_2 : decode cX3_isWithin 2 = .ok (.iconst (-1), 1) := by decide +kernel
theorem dX3_isWithin_3 : decode cX3_isWithin 3 = .ok (.ixor, 1) := by decide +kernel
theorem dX3_isWithin_4 : decode cX3_isWithin 4 = .ok (.iand, 1) := by decide +kernel
theorem dX3_isWithin_5 : decode cX3_isWithin 5 = .ok (.ifCond .ne 7, 3) := by decide +kernel
theorem dX3_isWithin_8 : decode cX3_isWithin 8 = .ok (.iconst 1, 1) := by decide +kernel
theorem dX3_isWithin_9 : decode cX3_isWithin 9 = .ok (.goto 4, 3) := by decide +kernel
theorem dX3_isWithin_12 : decode cX3_isWithin 12 = .ok (.iconst 0, 1) := by decide +kernel
theorem dX3_isWithin_13 : decode cX3_isWithin 13 = .ok (.ireturn, 1) := by decide +kernel
theorem dX3_holdsAlways_0 : decode cX3_holdsAlways 0 = .ok (.iload_n 0, 1) := by decide +kernel
theorem dX3_holdsAlways_1 : decode cX3_holdsAlways 1 = .ok (.iload_n 0, 1) := by decide +kernel
theorem dX3_holdsAlways_2 : decode cX3_holdsAlways 2 = .ok (.iconst 1, 1) := by decide +kernel
theorem dX3_holdsAlways_3 : decode cX3_holdsAlways 3 = .ok (.ishr, 1) := by decide +kernel
theorem dX3_holdsAlways_4 : decode cX3_holdsAlways 4 = .ok (.iand, 1) := by decide +kernel
theorem dX3_holdsAlways_5 : decode cX3_holdsAlways 5 = .ok (.sipush 1365, 3) := by decide +kernel
theorem dX3_holdsAlways_8 : decode cX3_holdsAlways 8 = .ok (.iand, 1) := by decide +kernel
theorem dX3_holdsAlways_9 : decode cX3_holdsAlways 9 = .ok (.ifCond .eq 7, 3) := by decide +kernel
theorem dX3_holdsAlways_12 : decode cX3_holdsAlways 12 = .ok (.iconst 1, 1) := by decide +kernel
theorem dX3_holdsAlways_13 : decode cX3_holdsAlways 13 = .ok (.goto 4, 3) := by decide +kernel
theorem dX3_holdsAlways_16 : decode cX3_holdsAlways 16 = .ok (.iconst 0, 1) := by decide +kernel
theorem dX3_holdsAlways_17 : decode cX3_holdsAlways 17 = .ok (.ireturn, 1) := by decide +kernel
set_option maxRecDepth 20000 in
theorem ggX3_valuesOfClause_X3_longAt : GoodIn wsX3_valuesOfClause wsX3_longAt := goodIn_r _ [6] (by decide +kernel) (by decide +kernel)
set_option maxRecDepth 20000 in
theorem gX3_valuesOfClause_X3_longAt : GoodIn wsX3_valuesOfClause (va_wsS RX3 208 yX3_longAt wsX3_longAt) := goodIn_app (goodIn_of _ (by decide +kernel)) ggX3_valuesOfClause_X3_longAt
theorem dX3_valuesOfClause_0 : decode cX3_valuesOfClause 0 = .ok (.lconst 0, 1) := by decide +kernel
theorem dX3_valuesOfClause_1 : decode cX3_valuesOfClause 1 = .ok (.lstore_n 1, 1) := by decide +kernel
theorem dX3_valuesOfClause_2 : decode cX3_valuesOfClause 2 = .ok (.iconst 0, 1) := by decide +kernel
theorem dX3_valuesOfClause_3 : decode cX3_valuesOfClause 3 = .ok (.istore_n 3, 1) := by decide +kernel
theorem dX3_valuesOfClause_4 : decode cX3_valuesOfClause 4 = .ok (.iload_n 3, 1) := by decide +kernel
theorem dX3_valuesOfClause_5 : decode cX3_valuesOfClause 5 = .ok (.bipush 6, 2) := by decide +kernel
theorem dX3_valuesOfClause_7 : decode cX3_valuesOfClause 7 = .ok (.if_icmp .ge 63, 3) := by decide +kernel
theorem dX3_valuesOfClause_10 : decode cX3_valuesOfClause 10 = .ok (.iload_n 0, 1) := by decide +kernel
theorem dX3_valuesOfClause_11 : decode cX3_valuesOfClause 11 = .ok (.iconst 2, 1) := by decide +kernel
theorem dX3_valuesOfClause_12 : decode cX3_valuesOfClause 12 = .ok (.iload_n 3, 1) := by decide +kernel
theorem dX3_valuesOfClause_13 : decode cX3_valuesOfClause 13 = .ok (.imul, 1) := by decide +kernel
theorem dX3_valuesOfClause_14 : decode cX3_valuesOfClause 14 = .ok (.ishr, 1) := by decide +kernel
theorem dX3_valuesOfClause_15 : decode cX3_valuesOfClause 15 = .ok (.iconst 3, 1) := by decide +kernel
theorem dX3_valuesOfClause_16 : decode cX3_valuesOfClause 16 = .ok (.iand, 1) := by decide +kernel
theorem dX3_valuesOfClause_17 : decode cX3_valuesOfClause 17 = .ok (.istore 4, 2) := by decide +kernel
theorem dX3_valuesOfClause_19 : decode cX3_valuesOfClause 19 = .ok (.getstatic 204, 3) := by decide +kernel
theorem dX3_valuesOfClause_22 : decode cX3_valuesOfClause 22 = .ok (.iload_n 3, 1) := by decide +kernel
theorem dX3_valuesOfClause_23 : decode cX3_valuesOfClause 23 = .ok (.invokestatic 208, 3) := by decide +kernel
theorem dX3_valuesOfClause_26 : decode cX3_valuesOfClause 26 = .ok (.lstore 5, 2) := by decide +kernel
theorem dX3_valuesOfClause_28 : decode cX3_valuesOfClause 28 = .ok (.lload_n 1, 1) := by decide +kernel
theorem dX3_valuesOfClause_29 : decode cX3_valuesOfClause 29 = .ok (.iload 4, 2) := by decide +kernel
theorem dX3_valuesOfClause_31 : decode cX3_valuesOfClause 31 = .ok (.iconst 1, 1) := by decide +kernel
theorem dX3_valuesOfClause_32 : decode cX3_valuesOfClause 32 = .ok (.iand, 1) := by decide +kernel
theorem dX3_valuesOfClause_33 : decode cX3_valuesOfClause 33 = .ok (.ifCond .eq 8, 3) := by decide +kernel
theorem dX3_valuesOfClause_36 : decode cX3_valuesOfClause 36 = .ok (.lload 5, 2) := by decide +kernel
theorem dX3_valuesOfClause_38 : decode cX3_valuesOfClause 38 = .ok (.goto 4, 3) := by decide +kernel
theorem dX3_valuesOfClause_41 : decode cX3_valuesOfClause 41 = .ok (.lconst 0, 1) := by decide +kernel
theorem dX3_valuesOfClause_42 : decode cX3_valuesOfClause 42 = .ok (.lor, 1) := by decide +kernel
theorem dX3_valuesOfClause_43 : decode cX3_valuesOfClause 43 = .ok (.lstore_n 1, 1) := by decide +kernel
theorem dX3_valuesOfClause_44 : decode cX3_valuesOfClause 44 = .ok (.lload_n 1, 1) := by decide +kernel
theorem dX3_valuesOfClause_45 : decode cX3_valuesOfClause 45 = .ok (.iload 4, 2) := by decide +kernel
theorem dX3_valuesOfClause_47 : decode cX3_valuesOfClause 47 = .ok (.iconst 2, 1) := by decide +kernel
theorem dX3_valuesOfClause_48 : decode cX3_valuesOfClause 48 = .ok (.iand, 1) := by decide +kernel
theorem dX3_valuesOfClause_49 : decode cX3_valuesOfClause 49 = .ok (.ifCond .eq 12, 3) := by decide +kernel
theorem dX3_valuesOfClause_52 : decode cX3_valuesOfClause 52 = .ok (.lload 5, 2) := by decide +kernel
theorem dX3_valuesOfClause_54 : decode cX3_valuesOfClause 54 = .ok (.ldc2_w 145, 3) := by decide +kernel
theorem dX3_valuesOfClause_57 : decode cX3_valuesOfClause 57 = .ok (.lxor, 1) := by decide +kernel
theorem dX3_valuesOfClause_58 : decode cX3_valuesOfClause 58 = .ok (.goto 4, 3) := by decide +kernel
theorem dX3_valuesOfClause_61 : decode cX3_valuesOfClause 61 = .ok (.lconst 0, 1) := by decide +kernel
theorem dX3_valuesOfClause_62 : decode cX3_valuesOfClause 62 = .ok (.lor, 1) := by decide +kernel
theorem dX3_valuesOfClause_63 : decode cX3_valuesOfClause 63 = .ok (.lstore_n 1, 1) := by decide +kernel
theorem dX3_valuesOfClause_64 : decode cX3_valuesOfClause 64 = .ok (.iinc 3 1, 3) := by decide +kernel
theorem dX3_valuesOfClause_67 : decode cX3_valuesOfClause 67 = .ok (.goto (-63), 3) := by decide +kernel
theorem dX3_valuesOfClause_70 : decode cX3_valuesOfClause 70 = .ok (.lload_n 1, 1) := by decide +kernel
theorem dX3_valuesOfClause_71 : decode cX3_valuesOfClause 71 = .ok (.lreturn, 1) := by decide +kernel
theorem dX3_floatBitsOf64ths_0 : decode cX3_floatBitsOf64ths 0 = .ok (.iload_n 0, 1) := by decide +kernel
theorem dX3_floatBitsOf64ths_1 : decode cX3_floatBitsOf64ths 1 = .ok (.ifCond .gt 5, 3) := by decide +kernel
theorem dX3_floatBitsOf64ths_4 : decode cX3_floatBitsOf64ths 4 = .ok (.iconst 0, 1) := by decide +kernel
theorem dX3_floatBitsOf64ths_5 : decode cX3_floatBitsOf64ths 5 = .ok (.ireturn, 1) := by decide +kernel
theorem dX3_floatBitsOf64ths_6 : decode cX3_floatBitsOf64ths 6 = .ok (.iconst 0, 1) := by decide +kernel
theorem dX3_floatBitsOf64ths_7 : decode cX3_floatBitsOf64ths 7 = .ok (.istore_n 1, 1) := by decide +kernel
theorem dX3_floatBitsOf64ths_8 : decode cX3_floatBitsOf64ths 8 = .ok (.iconst 1, 1) := by decide +kernel
theorem dX3_floatBitsOf64ths_9 : decode cX3_floatBitsOf64ths 9 = .ok (.istore_n 2, 1) := by decide +kernel
theorem dX3_floatBitsOf64ths_10 : decode cX3_floatBitsOf64ths 10 = .ok (.iload_n 2, 1) := by decide +kernel
theorem dX3_floatBitsOf64ths_11 : decode cX3_floatBitsOf64ths 11 = .ok (.bipush 6, 2) := by decide +kernel
theorem dX3_floatBitsOf64ths_13 : decode cX3_floatBitsOf64ths 13 = .ok (.if_icmp .gt 21, 3) := by decide +kernel
theorem dX3_floatBitsOf64ths_16 : decode cX3_floatBitsOf64ths 16 = .ok (.iload_n 0, 1) := by decide +kernel
theorem dX3_floatBitsOf64ths_17 : decode cX3_floatBitsOf64ths 17 = .ok (.iload_n 2, 1) := by decide +kernel
theorem dX3_floatBitsOf64ths_18 : decode cX3_floatBitsOf64ths 18 = .ok (.ishr, 1) := by decide +kernel
theorem dX3_floatBitsOf64ths_19 : decode cX3_floatBitsOf64ths 19 = .ok (.ifCond .eq 7, 3) := by decide +kernel
theorem dX3_floatBitsOf64ths_22 : decode cX3_floatBitsOf64ths 22 = .ok (.iload_n 2, 1) := by decide +kernel
theorem dX3_floatBitsOf64ths_23 : decode cX3_floatBitsOf64ths 23 = .ok (.goto 4, 3) := by decide +kernel
theorem dX3_floatBitsOf64ths_26 : decode cX3_floatBitsOf64ths 26 = .ok (.iload_n 1, 1) := by decide +kernel
theorem dX3_floatBitsOf64ths_27 : decode cX3_floatBitsOf64ths 27 = .ok (.istore_n 1, 1) := by decide +kernel
theorem dX3_floatBitsOf64ths_28 : decode cX3_floatBitsOf64ths 28 = .ok (.iinc 2 1, 3) := by decide +kernel
theorem dX3_floatBitsOf64ths_31 : decode cX3_floatBitsOf64ths 31 = .ok (.goto (-21), 3) := by decide +kernel
theorem dX3_floatBitsOf64ths_34 : decode cX3_floatBitsOf64ths 34 = .ok (.bipush 127, 2) := by decide +kernel
theorem dX3_floatBitsOf64ths_36 : decode cX3_floatBitsOf64ths 36 = .ok (.iload_n 1, 1) := by decide +kernel
theorem dX3_floatBitsOf64ths_37 : decode cX3_floatBitsOf64ths 37 = .ok (.iadd, 1) := by decide +kernel
theorem dX3_floatBitsOf64ths_38 : decode cX3_floatBitsOf64ths 38 = .ok (.bipush 6, 2) := by decide +kernel
theorem dX3_floatBitsOf64ths_40 : decode cX3_floatBitsOf64ths 40 = .ok (.isub, 1) := by decide +kernel
theorem dX3_floatBitsOf64ths_41 : decode cX3_floatBitsOf64ths 41 = .ok (.istore_n 2, 1) := by decide +kernel
theorem dX3_floatBitsOf64ths_42 : decode cX3_floatBitsOf64ths 42 = .ok (.iload_n 2, 1) := by decide +kernel
theorem dX3_floatBitsOf64ths_43 : decode cX3_floatBitsOf64ths 43 = .ok (.bipush 23, 2) := by decide +kernel
theorem dX3_floatBitsOf64ths_45 : decode cX3_floatBitsOf64ths 45 = .ok (.ishl, 1) := by decide +kernel
theorem dX3_floatBitsOf64ths_46 : decode cX3_floatBitsOf64ths 46 = .ok (.iload_n 0, 1) := by decide +kernel
theorem dX3_floatBitsOf64ths_47 : decode cX3_floatBitsOf64ths 47 = .ok (.bipush 23, 2) := by decide +kernel
theorem dX3_floatBitsOf64ths_49 : decode cX3_floatBitsOf64ths 49 = .ok (.iload_n 1, 1) := by decide +kernel
theorem dX3_floatBitsOf64ths_50 : decode cX3_floatBitsOf64ths 50 = .ok (.isub, 1) := by decide +kernel
theorem dX3_floatBitsOf64ths_51 : decode cX3_floatBitsOf64ths 51 = .ok (.ishl, 1) := by decide +kernel
theorem dX3_floatBitsOf64ths_52 : decode cX3_floatBitsOf64ths 52 = .ok (.ldc 212, 2) := by decide +kernel
theorem dX3_floatBitsOf64ths_54 : decode cX3_floatBitsOf64ths 54 = .ok (.iand, 1) := by decide +kernel
theorem dX3_floatBitsOf64ths_55 : decode cX3_floatBitsOf64ths 55 = .ok (.ior, 1) := by decide +kernel
theorem dX3_floatBitsOf64ths_56 : decode cX3_floatBitsOf64ths 56 = .ok (.ireturn, 1) := by decide +kernel
theorem dX4_init_0 : decode cX4_init 0 = .ok (.aload_n 0, 1) := by decide +kernel
theorem dX4_init_1 : decode cX4_init 1 = .ok (.invokespecial 1, 3) := by decide +kernel
theorem dX4_init_4 : decode cX4_init 4 = .ok (.aload_n 0, 1) := by decide +kernel
theorem dX4_init_5 : decode cX4_init 5 = .ok (.sipush 251, 3) := by decide +kernel
theorem dX4_init_8 : decode cX4_init 8 = .ok (.newarray .int, 2) := by decide +kernel
theorem dX4_init_10 : decode cX4_init 10 = .ok (.putfield 7, 3) := by decide +kernel
theorem dX4_init_13 : decode cX4_init 13 = .ok (.aload_n 0, 1) := by decide +kernel
theorem dX4_init_14 : decode cX4_init 14 = .ok (.sipush 251, 3) := by decide +kernel
theorem dX4_init_17 : decode cX4_init 17 = .ok (.newarray .int, 2) := by decide +kernel
theorem dX4_init_19 : decode cX4_init 19 = .ok (.putfield 13, 3) := by decide +kernel
theorem dX4_init_22 : decode cX4_init 22 = .ok (.aload_n 0, 1) := by decide +kernel
theorem dX4_init_23 : decode cX4_init 23 = .ok (.sipush 1004, 3) := by decide +kernel
theorem dX4_init_26 : decode cX4_init 26 = .ok (.newarray .int, 2) := by decide +kernel
theorem dX4_init_28 : decode cX4_init 28 = .ok (.putfield 16, 3) := by decide +kernel
theorem dX4_init_31 : decode cX4_init 31 = .ok (.aload_n 0, 1) := by decide +kernel
theorem dX4_init_32 : decode cX4_init 32 = .ok (.bipush 60, 2) := by decide +kernel
theorem dX4_init_34 : decode cX4_init 34 = .ok (.newarray .int, 2) := by decide +kernel
theorem dX4_init_36 : decode cX4_init 36 = .ok (.putfield 19, 3) := by decide +kernel
theorem dX4_init_39 : decode cX4_init 39 = .ok (.aload_n 0, 1) := by decide +kernel
theorem dX4_init_40 : decode cX4_init 40 = .ok (.getfield 7, 3) := by decide +kernel
theorem dX4_init_43 : decode cX4_init 43 = .ok (.iconst 2, 1) := by decide +kernel
theorem dX4_init_44 : decode cX4_init 44 = .ok (.iconst 4, 1) := by decide +kernel
theorem dX4_init_45 : decode cX4_init 45 = .ok (.iastore, 1) := by decide +kernel
theorem dX4_init_46 : decode cX4_init 46 = .ok (.iconst 0, 1) := by decide +kernel
theorem dX4_init_47 : decode cX4_init 47 = .ok (.istore_n 1, 1) := by decide +kernel
theorem dX4_init_48 : decode cX4_init 48 = .ok (.iload_n 1, 1) := by decide +kernel
theorem dX4_init_49 : decode cX4_init 49 = .ok (.bipush 6, 2) := by decide +kernel
theorem dX4_init_51 : decode cX4_init 51 = .ok (.if_icmp .ge 18, 3) := by decide +kernel
theorem dX4_init_54 : decode cX4_init 54 = .ok (.aload_n 0, 1) := by decide +kernel
theorem dX4_init_55 : decode cX4_init 55 = .ok (.getfield 7, 3) := by decide +kernel
theorem dX4_init_58 : decode cX4_init 58 = .ok (.iconst 5, 1) := by decide +kernel
theorem dX4_init_59 : decode cX4_init 59 = .ok (.iload_n 1, 1) := by decide +kernel
theorem dX4_init_60 : decode cX4_init 60 = .ok (.iadd, 1) := by decide +kernel
theorem dX4_init_61 : decode cX4_init 61 = .ok (.iload_n 1, 1) := by decide +kernel
theorem dX4_init_62 : decode cX4_init 62 = .ok (.iastore, 1) := by decide +kernel
theorem dX4_init_63 : decode cX4_init 63 = .ok (.iinc 1 1, 3) := by decide +kernel
theorem dX4_init_66 : decode cX4_init 66 = .ok (.goto (-18), 3) := by decide +kernel
theorem dX4_init_69 : decode cX4_init 69 = .ok (.return_, 1) := by decide +kernel
theorem dX4_in_0 : decode cX4_in 0 = .ok (.iload_n 0, 1) := by decide +kernel
theorem dX4_in_1 : decode cX4_in 1 = .ok (.iload_n 1, 1) := by decide +kernel
theorem dX4_in_2 : decode cX4_in 2 = .ok (.if_icmp .lt 12, 3) := by decide +kernel
theorem dX4_in_5 : decode cX4_in 5 = .ok (.iload_n 0, 1) := by decide +kernel
theorem dX4_in_6 : decode cX4_in 6 = .ok (.iload_n 2, 1) := by decide +kernel
theorem dX4_in_7 : decode cX4_in 7 = .ok (.if_icmp .gt 7, 3) := by decide +kernel
theorem dX4_in_10 : decode cX4_in 10 = .ok (.iconst 1, 1) := by decide +kernel
theorem dX4_in_11 : decode cX4_in 11 = .ok (.goto 4, 3) := by decide +kernel
theorem dX4_in_14 : decode cX4_in 14 = .ok (.iconst 0, 1) := by decide +kernel
theorem dX4_in_15 : decode cX4_in 15 = .ok (.ireturn, 1) := by decide +kernel
theorem dX4_begins_0 : decode cX4_begins 0 = .ok (.iconst 0, 1) := by decide +kernel
theorem dX4_begins_1 : decode cX4_begins 1 = .ok (.istore_n 1, 1) := by decide +kernel
theorem dX4_begins_2 : decode cX4_begins 2 = .ok (.iload_n 1, 1) := by decide +kernel
theorem dX4_begins_3 : decode cX4_begins 3 = .ok (.sipush 251, 3) := by decide +kernel
theorem dX4_begins_6 : decode cX4_begins 6 = .ok (.if_icmp .ge 21, 3) := by decide +kernel
theorem dX4_begins_9 : decode cX4_begins 9 = .ok (.aload_n 0, 1) := by decide +kernel
theorem dX4_begins_10 : decode cX4_begins 10 = .ok (.getfield 13, 3) := by decide +kernel
theorem dX4_begins_13 : decode cX4_begins 13 = .ok (.iload_n 1, 1) := by decide +kernel
theorem dX4_begins_14 : decode cX4_begins 14 = .ok (.aload_n 0, 1) := by decide +kernel
theorem dX4_begins_15 : decode cX4_begins 15 = .ok (.getfield 7, 3) := by decide +kernel
theorem dX4_begins_18 : decode cX4_begins 18 = .ok (.iload_n 1, 1) := by decide +kernel
theorem dX4_begins_19 : decode cX4_begins 19 = .ok (.iaload, 1) := by decide +kernel
theorem dX4_begins_20 : decode cX4_begins 20 = .ok (.iastore, 1) := by decide +kernel
theorem dX4_begins_21 : decode cX4_begins 21 = .ok (.iinc 1 1, 3) := by decide +kernel
theorem dX4_begins_24 : decode cX4_begins 24 = .ok (.goto (-22), 3) := by decide +kernel
theorem dX4_begins_27 : decode cX4_begins 27 = .ok (.return_, 1) := by decide +kernel
theorem dX4_returns_0 : decode cX4_returns 0 = .ok (.iconst 0, 1) := by decide +kernel
theorem dX4_returns_1 : decode cX4_returns 1 = .ok (.istore_n 1, 1) := by decide +kernel
theorem dX4_returns_2 : decode cX4_returns 2 = .ok (.iload_n 1, 1) := by decide +kernel
theorem dX4_returns_3 : decode cX4_returns 3 = .ok (.sipush 251, 3) := by decide +kernel
theorem dX4_returns_6 : decode cX4_returns 6 = .ok (.if_icmp .ge 21, 3) := by decide +kernel
theorem dX4_returns_9 : decode cX4_returns 9 = .ok (.aload_n 0, 1) := by decide +kernel
theorem dX4_returns_10 : decode cX4_returns 10 = .ok (.getfield 7, 3) := by decide +kernel
theorem dX4_returns_13 : decode cX4_returns 13 = .ok (.iload_n 1, 1) := by decide +kernel
theorem dX4_returns_14 : decode cX4_returns 14 = .ok (.aload_n 0, 1) := by decide +kernel
theorem dX4_returns_15 : decode cX4_returns 15 = .ok (.getfield 13, 3) := by decide +kernel
theorem dX4_returns_18 : decode cX4_returns 18 = .ok (.iload_n 1, 1) := by decide +kernel
theorem dX4_returns_19 : decode cX4_returns 19 = .ok (.iaload, 1) := by decide +kernel
theorem dX4_returns_20 : decode cX4_returns 20 = .ok (.iastore, 1) := by decide +kernel
theorem dX4_returns_21 : decode cX4_returns 21 = .ok (.iinc 1 1, 3) := by decide +kernel
theorem dX4_returns_24 : decode cX4_returns 24 = .ok (.goto (-22), 3) := by decide +kernel
theorem dX4_returns_27 : decode cX4_returns 27 = .ok (.return_, 1) := by decide +kernel
set_option maxRecDepth 20000 in
theorem ggX4_acted_X4_returns : GoodIn wsX4_acted wsX4_returns := goodIn_r _ [9, 10, 4, 11, 12, 13, 14, 15, 16, 17, 18] (by decide +kernel) (by decide +kernel)
set_option maxRecDepth 20000 in
theorem gX4_acted_X4_returns : GoodIn wsX4_acted (wsV RX4 23 RX4 yX4_returns wsX4_returns) := goodIn_app (goodIn_of _ (by decide +kernel)) ggX4_acted_X4_returns
theorem dX4_acted_0 : decode cX4_acted 0 = .ok (.iload_n 1, 1) := by decide +kernel
theorem dX4_acted_1 : decode cX4_acted 1 = .ok (.ldc 22, 2) := by decide +kernel
theorem dX4_acted_3 : decode cX4_acted 3 = .ok (.if_icmp .gt 9, 3) := by decide +kernel
theorem dX4_acted_6 : decode cX4_acted 6 = .ok (.aload_n 0, 1) := by decide +kernel
theorem dX4_acted_7 : decode cX4_acted 7 = .ok (.invokevirtual 23, 3) := by decide +kernel
theorem dX4_acted_10 : decode cX4_acted 10 = .ok (.iload_n 1, 1) := by decide +kernel
theorem dX4_acted_11 : decode cX4_acted 11 = .ok (.ireturn, 1) := by decide +kernel
theorem dX4_acted_12 : decode cX4_acted 12 = .ok (.aload_n 0, 1) := by decide +kernel
theorem dX4_acted_13 : decode cX4_acted 13 = .ok (.getfield 26, 3) := by decide +kernel
theorem dX4_acted_16 : decode cX4_acted 16 = .ok (.iconst 4, 1) := by decide +kernel
theorem dX4_acted_17 : decode cX4_acted 17 = .ok (.if_icmp .ne 44, 3) := by decide +kernel
theorem dX4_acted_20 : decode cX4_acted 20 = .ok (.iconst 0, 1) := by decide +kernel
theorem dX4_acted_21 : decode cX4_acted 21 = .ok (.istore_n 2, 1) := by decide +kernel
theorem dX4_acted_22 : decode cX4_acted 22 = .ok (.iload_n 2, 1) := by decide +kernel
theorem dX4_acted_23 : decode cX4_acted 23 = .ok (.sipush 753, 3) := by decide +kernel
theorem dX4_acted_26 : decode cX4_acted 26 = .ok (.if_icmp .ge 25, 3) := by decide +kernel
theorem dX4_acted_29 : decode cX4_acted 29 = .ok (.aload_n 0, 1) := by decide +kernel
theorem dX4_acted_30 : decode cX4_acted 30 = .ok (.getfield 16, 3) := by decide +kernel
theorem dX4_acted_33 : decode cX4_acted 33 = .ok (.iload_n 2, 1) := by decide +kernel
theorem dX4_acted_34 : decode cX4_acted 34 = .ok (.aload_n 0, 1) := by decide +kernel
theorem dX4_acted_35 : decode cX4_acted 35 = .ok (.getfield 16, 3) := by decide +kernel
theorem dX4_acted_38 : decode cX4_acted 38 = .ok (.iload_n 2, 1) := by decide +kernel
theorem dX4_acted_39 : decode cX4_acted 39 = .ok (.sipush 251, 3) := by decide +kernel
theorem dX4_acted_42 : decode cX4_acted 42 = .ok (.iadd, 1) := by decide +kernel
theorem dX4_acted_43 : decode cX4_acted 43 = .ok (.iaload, 1) := by decide +kernel
theorem dX4_acted_44 : decode cX4_acted 44 = .ok (.iastore, 1) := by decide +kernel
theorem dX4_acted_45 : decode cX4_acted 45 = .ok (.iinc 2 1, 3) := by decide +kernel
theorem dX4_acted_48 : decode cX4_acted 48 = .ok (.goto (-26), 3) := by decide +kernel
theorem dX4_acted_51 : decode cX4_acted 51 = .ok (.aload_n 0, 1) := by decide +kernel
theorem dX4_acted_52 : decode cX4_acted 52 = .ok (.dup, 1) := by decide +kernel
theorem dX4_acted_53 : decode cX4_acted 53 = .ok (.getfield 26, 3) := by decide +kernel
theorem dX4_acted_56 : decode cX4_acted 56 = .ok (.iconst 1, 1) := by decide +kernel
theorem dX4_acted_57 : decode cX4_acted 57 = .ok (.isub, 1) := by decide +kernel
theorem dX4_acted_58 : decode cX4_acted 58 = .ok (.putfield 26, 3) := by decide +kernel
theorem dX4_acted_61 : decode cX4_acted 61 = .ok (.iconst 0, 1) := by decide +kernel
theorem dX4_acted_62 : decode cX4_acted 62 = .ok (.istore_n 2, 1) := by decide +kernel
theorem dX4_acted_63 : decode cX4_acted 63 = .ok (.iload_n 2, 1) := by decide +kernel
theorem dX4_acted_64 : decode cX4_acted 64 = .ok (.sipush 251, 3) := by decide +kernel
theorem dX4_acted_67 : decode cX4_acted 67 = .ok (.if_icmp .ge 30, 3) := by decide +kernel
theorem dX4_acted_70 : decode cX4_acted 70 = .ok (.aload_n 0, 1) := by decide +kernel
theorem dX4_acted_71 : decode cX4_acted 71 = .ok (.getfield 16, 3) := by decide +kernel
theorem dX4_acted_74 : decode cX4_acted 74 = .ok (.sipush 251, 3) := by decide +kernel
theorem dX4_acted_77 : decode cX4_acted 77 = .ok (.aload_n 0, 1) := by decide +kernel
theorem dX4_acted_78 : decode cX4_acted 78 = .ok (.getfield 26, 3) := by decide +kernel
theorem dX4_acted_81 : decode cX4_acted 81 = .ok (.imul, 1) := by decide +kernel
theorem dX4_acted_82 : decode cX4_acted 82 = .ok (.iload_n 2, 1) := by decide +kernel
theorem dX4_acted_83 : decode cX4_acted 83 = .ok (.iadd, 1) := by decide +kernel
theorem dX4_acted_84 : decode cX4_acted 84 = .ok (.aload_n 0, 1) := by decide +kernel
theorem dX4_acted_85 : decode cX4_acted 85 = .ok (.getfield 13, 3) := by decide +kernel
theorem dX4_acted_88 : decode cX4_acted 88 = .ok (.iload_n 2, 1) := by decide +kernel
theorem dX4_acted_89 : decode cX4_acted 89 = .ok (.iaload, 1) := by decide +kernel
theorem dX4_acted_90 : decode cX4_acted 90 = .ok (.iastore, 1) := by decide +kernel
theorem dX4_acted_91 : decode cX4_acted 91 = .ok (.iinc 2 1, 3) := by decide +kernel
theorem dX4_acted_94 : decode cX4_acted 94 = .ok (.goto (-31), 3) := by decide +kernel
theorem dX4_acted_97 : decode cX4_acted 97 = .ok (.aload_n 0, 1) := by decide +kernel
theorem dX4_acted_98 : decode cX4_acted 98 = .ok (.dup, 1) := by decide +kernel
theorem dX4_acted_99 : decode cX4_acted 99 = .ok (.getfield 26, 3) := by decide +kernel
theorem dX4_acted_102 : decode cX4_acted 102 = .ok (.iconst 1, 1) := by decide +kernel
theorem dX4_acted_103 : decode cX4_acted 103 = .ok (.iadd, 1) := by decide +kernel
theorem dX4_acted_104 : decode cX4_acted 104 = .ok (.putfield 26, 3) := by decide +kernel
theorem dX4_acted_107 : decode cX4_acted 107 = .ok (.iload_n 1, 1) := by decide +kernel
theorem dX4_acted_108 : decode cX4_acted 108 = .ok (.ireturn, 1) := by decide +kernel
theorem dX4_of_0 : decode cX4_of 0 = .ok (.aload_n 0, 1) := by decide +kernel
theorem dX4_of_1 : decode cX4_of 1 = .ok (.getfield 7, 3) := by decide +kernel
theorem dX4_of_4 : decode cX4_of 4 = .ok (.bipush 11, 2) := by decide +kernel
theorem dX4_of_6 : decode cX4_of 6 = .ok (.bipush 6, 2) := by decide +kernel
theorem dX4_of_8 : decode cX4_of 8 = .ok (.iload_n 1, 1) := by decide +kernel
theorem dX4_of_9 : decode cX4_of 9 = .ok (.imul, 1) := by decide +kernel
theorem dX4_of_10 : decode cX4_of 10 = .ok (.iadd, 1) := by decide +kernel
theorem dX4_of_11 : decode cX4_of 11 = .ok (.iload_n 2, 1) := by decide +kernel
theorem dX4_of_12 : decode cX4_of 12 = .ok (.iadd, 1) := by decide +kernel
theorem dX4_of_13 : decode cX4_of 13 = .ok (.iaload, 1) := by decide +kernel
theorem dX4_of_14 : decode cX4_of 14 = .ok (.ireturn, 1) := by decide +kernel
theorem dX4_puts_0 : decode cX4_puts 0 = .ok (.aload_n 0, 1) := by decide +kernel
theorem dX4_puts_1 : decode cX4_puts 1 = .ok (.getfield 7, 3) := by decide +kernel
theorem dX4_puts_4 : decode cX4_puts 4 = .ok (.bipush 11, 2) := by decide +kernel
theorem dX4_puts_6 : decode cX4_puts 6 = .ok (.bipush 6, 2) := by decide +kernel
theorem dX4_puts_8 : decode cX4_puts 8 = .ok (.iload_n 1, 1) := by decide +kernel
theorem dX4_puts_9 : decode cX4_puts 9 = .ok (.imul, 1) := by decide +kernel
theorem dX4_puts_10 : decode cX4_puts 10 = .ok (.iadd, 1) := by decide +kernel
theorem dX4_puts_11 : decode cX4_puts 11 = .ok (.iload_n 2, 1) := by decide +kernel
theorem dX4_puts_12 : decode cX4_puts 12 = .ok (.iadd, 1) := by decide +kernel
theorem dX4_puts_13 : decode cX4_puts 13 = .ok (.iload_n 3, 1) := by decide +kernel
theorem dX4_puts_14 : decode cX4_puts 14 = .ok (.iastore, 1) := by decide +kernel
theorem dX4_puts_15 : decode cX4_puts 15 = .ok (.return_, 1) := by decide +kernel
set_option maxRecDepth 20000 in
theorem ggX4_isClause_X4_in : GoodIn wsX4_isClause wsX4_in := goodIn_r _ [5] (by decide +kernel) (by decide +kernel)
set_option maxRecDepth 20000 in
theorem gX4_isClause_X4_in : GoodIn wsX4_isClause (va_wsS RX4 30 yX4_in wsX4_in) := goodIn_app (goodIn_of _ (by decide +kernel)) ggX4_isClause_X4_in
theorem dX4_isClause_0 : decode cX4_isClause 0 = .ok (.iload_n 1, 1) := by decide +kernel
theorem dX4_isClause_1 : decode cX4_isClause 1 = .ok (.iconst 0, 1) := by decide +kernel
theorem dX4_isClause_2 : decode cX4_isClause 2 = .ok (.aload_n 0, 1) := by decide +kernel
theorem dX4_isClause_3 : decode cX4_isClause 3 = .ok (.getfield 7, 3) := by decide +kernel
theorem dX4_isClause_6 : decode cX4_isClause 6 = .ok (.iconst 0, 1) := by decide +kernel
theorem dX4_isClause_7 : decode cX4_isClause 7 = .ok (.iaload, 1) := by decide +kernel
theorem dX4_isClause_8 : decode cX4_isClause 8 = .ok (.iconst 1, 1) := by decide +kernel
theorem dX4_isClause_9 : decode cX4_isClause 9 = .ok (.isub, 1) := by decide +kernel
theorem dX4_isClause_10 : decode cX4_isClause 10 = .ok (.invokestatic 30, 3) := by decide +kernel
theorem dX4_isClause_13 : decode cX4_isClause 13 = .ok (.ireturn, 1) := by decide +kernel
set_option maxRecDepth 20000 in
theorem ggX4_isKept_X4_of : GoodIn wsX4_isKept wsX4_of := goodIn_r _ [5, 6, 7, 8, 9, 10, 11, 12, 13, 14] (by decide +kernel) (by decide +kernel)
set_option maxRecDepth 20000 in
theorem gX4_isKept_X4_of : GoodIn wsX4_isKept (wsV RX4 34 RX4 yX4_of wsX4_of) := goodIn_app (goodIn_of _ (by decide +kernel)) ggX4_isKept_X4_of
theorem dX4_isKept_0 : decode cX4_isKept 0 = .ok (.aload_n 0, 1) := by decide +kernel
theorem dX4_isKept_1 : decode cX4_isKept 1 = .ok (.iload_n 1, 1) := by decide +kernel
theorem dX4_isKept_2 : decode cX4_isKept 2 = .ok (.iconst 1, 1) := by decide +kernel
theorem dX4_isKept_3 : decode cX4_isKept 3 = .ok (.invokevirtual 34, 3) := by decide +kernel
theorem dX4_isKept_6 : decode cX4_isKept 6 = .ok (.iconst 2, 1) := by decide +kernel
theorem dX4_isKept_7 : decode cX4_isKept 7 = .ok (.if_icmp .eq 7, 3) := by decide +kernel
theorem dX4_isKept_10 : decode cX4_isKept 10 = .ok (.iconst 1, 1) := by decide +kernel
theorem dX4_isKept_11 : decode cX4_isKept 11 = .ok (.goto 4, 3) := by decide +kernel
theorem dX4_isKept_14 : decode cX4_isKept 14 = .ok (.iconst 0, 1) := by decide +kernel
theorem dX4_isKept_15 : decode cX4_isKept 15 = .ok (.ireturn, 1) := by decide +kernel
theorem dX4_has_0 : decode cX4_has 0 = .ok (.iload_n 0, 1) := by decide +kernel
theorem dX4_has_1 : decode cX4_has 1 = .ok (.iload_n 1, 1) := by decide +kernel
theorem dX4_has_2 : decode cX4_has 2 = .ok (.ishr, 1) := by decide +kernel
theorem dX4_has_3 : decode cX4_has 3 = .ok (.iconst 1, 1) := by decide +kernel
theorem dX4_has_4 : decode cX4_has 4 = .ok (.iand, 1) := by decide +kernel
theorem dX4_has_5 : decode cX4_has 5 = .ok (.iconst 1, 1) := by decide +kernel
theorem dX4_has_6 : decode cX4_has 6 = .ok (.if_icmp .ne 7, 3) := by decide +kernel
theorem dX4_has_9 : decode cX4_has 9 = .ok (.iconst 1, 1) := by decide +kernel
theorem dX4_has_10 : decode cX4_has 10 = .ok (.goto 4, 3) := by decide +kernel
theorem dX4_has_13 : decode cX4_has 13 = .ok (.iconst 0, 1) := by decide +kernel
theorem dX4_has_14 : decode cX4_has 14 = .ok (.ireturn, 1) := by decide +kernel
theorem dX4_ones_0 : decode cX4_ones 0 = .ok (.iconst 0, 1) := by decide +kernel
theorem dX4_ones_1 : decode cX4_ones 1 = .ok (.istore_n 1, 1) := by decide +kernel
theorem dX4_ones_2 : decode cX4_ones 2 = .ok (.iload_n 0, 1) := by decide +kernel
theorem dX4_ones_3 : decode cX4_ones 3 = .ok (.istore_n 2, 1) := by decide +kernel
theorem dX4_ones_4 : decode cX4_ones 4 = .ok (.iload_n 2, 1) := by decide +kernel
theorem dX4_ones_5 : decode cX4_ones 5 = .ok (.ifCond .eq 16, 3) := by decide +kernel
theorem dX4_ones_8 : decode cX4_ones 8 = .ok (.iload_n 1, 1) := by decide +kernel
theorem dX4_ones_9 : decode cX4_ones 9 = .ok (.iload_n 2, 1) := by decide +kernel
theorem dX4_ones_10 : decode cX4_ones 10 = .ok (.iconst 2, 1) := by decide +kernel
theorem dX4_ones_11 : decode cX4_ones 11 = .ok (.irem, 1) := by decide +kernel
theorem dX4_ones_12 : decode cX4_ones 12 = .ok (.iadd, 1) := by decide +kernel
theorem dX4_ones_13 : decode cX4_ones 13 = .ok (.istore_n 1, 1) := by decide +kernel
theorem dX4_ones_14 : decode cX4_ones 14 = .ok (.iload_n 2, 1) := by decide +kernel
theorem dX4_ones_15 : decode cX4_ones 15 = .ok (.iconst 2, 1) := by decide +kernel
theorem dX4_ones_16 : decode cX4_ones 16 = .ok (.idiv, 1) := by decide +kernel
theorem dX4_ones_17 : decode cX4_ones 17 = .ok (.istore_n 2, 1) := by decide +kernel
theorem dX4_ones_18 : decode cX4_ones 18 = .ok (.goto (-14), 3) := by decide +kernel
theorem dX4_ones_21 : decode cX4_ones 21 = .ok (.iload_n 1, 1) := by decide +kernel
theorem dX4_ones_22 : decode cX4_ones 22 = .ok (.ireturn, 1) := by decide +kernel
theorem dX4_keyOf_0 : decode cX4_keyOf 0 = .ok (.iconst 2, 1) := by decide +kernel
theorem dX4_keyOf_1 : decode cX4_keyOf 1 = .ok (.aload_n 0, 1) := by decide +kernel
theorem dX4_keyOf_2 : decode cX4_keyOf 2 = .ok (.getfield 7, 3) := by decide +kernel
theorem dX4_keyOf_5 : decode cX4_keyOf 5 = .ok (.iconst 5, 1) := by decide +kernel
theorem dX4_keyOf_6 : decode cX4_keyOf 6 = .ok (.iload_n 1, 1) := by decide +kernel
theorem dX4_keyOf_7 : decode cX4_keyOf 7 = .ok (.iconst 2, 1) := by decide +kernel
theorem dX4_keyOf_8 : decode cX4_keyOf 8 = .ok (.idiv, 1) := by decide +kernel
theorem dX4_keyOf_9 : decode cX4_keyOf 9 = .ok (.iadd, 1) := by decide +kernel
theorem dX4_keyOf_10 : decode cX4_keyOf 10 = .ok (.iaload, 1) := by decide +kernel
theorem dX4_keyOf_11 : decode cX4_keyOf 11 = .ok (.imul, 1) := by decide +kernel
theorem dX4_keyOf_12 : decode cX4_keyOf 12 = .ok (.iload_n 1, 1) := by decide +kernel
theorem dX4_keyOf_13 : decode cX4_keyOf 13 = .ok (.iconst 2, 1) := by decide +kernel
theorem dX4_keyOf_14 : decode cX4_keyOf 14 = .ok (.irem, 1) := by decide +kernel
theorem dX4_keyOf_15 : decode cX4_keyOf 15 = .ok (.iadd, 1) := by decide +kernel
theorem dX4_keyOf_16 : decode cX4_keyOf 16 = .ok (.ireturn, 1) := by decide +kernel
set_option maxRecDepth 20000 in
theorem ggX4_greatest_X4_has : GoodIn wsX4_greatest wsX4_has := goodIn_r _ [4] (by decide +kernel) (by decide +kernel)
set_option maxRecDepth 20000 in
theorem gX4_greatest_X4_has : GoodIn wsX4_greatest (va_wsS RX4 38 yX4_has wsX4_has) := goodIn_app (goodIn_of _ (by decide +kernel)) ggX4_greatest_X4_has
set_option maxRecDepth 20000 in
theorem ggX4_greatest_X4_keyOf : GoodIn wsX4_greatest wsX4_keyOf := goodIn_r _ [8, 9, 10, 11, 12, 13, 14, 15, 16, 17] (by decide +kernel) (by decide +kernel)
set_option maxRecDepth 20000 in
theorem gX4_greatest_X4_keyOf : GoodIn wsX4_greatest (wsV RX4 42 RX4 yX4_keyOf wsX4_keyOf) := goodIn_app (goodIn_of _ (by decide +kernel)) ggX4_greatest_X4_keyOf
theorem dX4_greatest_0 : decode cX4_greatest 0 = .ok (.iconst (-1), 1) := by decide +kernel
theorem dX4_greatest_1 : decode cX4_greatest 1 = .ok (.istore_n 2, 1) := by decide +kernel
theorem dX4_greatest_2 : decode cX4_greatest 2 = .ok (.iconst 0, 1) := by decide +kernel
theorem dX4_greatest_3 : decode cX4_greatest 3 = .ok (.istore_n 3, 1) := by decide +kernel
theorem dX4_greatest_4 : decode cX4_greatest 4 = .ok (.iload_n 3, 1) := by decide +kernel
theorem dX4_greatest_5 : decode cX4_greatest 5 = .ok (.bipush 12, 2) := by decide +kernel
theorem dX4_greatest_7 : decode cX4_greatest 7 = .ok (.if_icmp .ge 40, 3) := by decide +kernel
theorem dX4_greatest_10 : decode cX4_greatest 10 = .ok (.iload_n 1, 1) := by decide +kernel
theorem dX4_greatest_11 : decode cX4_greatest 11 = .ok (.iload_n 3, 1) := by decide +kernel
theorem dX4_greatest_12 : decode cX4_greatest 12 = .ok (.invokestatic 38, 3) := by decide +kernel
theorem dX4_greatest_15 : decode cX4_greatest 15 = .ok (.ifCond .eq 24, 3) := by decide +kernel
theorem dX4_greatest_18 : decode cX4_greatest 18 = .ok (.iload_n 2, 1) := by decide +kernel
theorem dX4_greatest_19 : decode cX4_greatest 19 = .ok (.ifCond .lt 16, 3) := by decide +kernel
theorem dX4_greatest_22 : decode cX4_greatest 22 = .ok (.aload_n 0, 1) := by decide +kernel
theorem dX4_greatest_23 : decode cX4_greatest 23 = .ok (.iload_n 3, 1) := by decide +kernel
theorem dX4_greatest_24 : decode cX4_greatest 24 = .ok (.invokevirtual 42, 3) := by decide +kernel
theorem dX4_greatest_27 : decode cX4_greatest 27 = .ok (.aload_n 0, 1) := by decide +kernel
theorem dX4_greatest_28 : decode cX4_greatest 28 = .ok (.iload_n 2, 1) := by decide +kernel
theorem dX4_greatest_29 : decode cX4_greatest 29 = .ok (.invokevirtual 42, 3) := by decide +kernel
theorem dX4_greatest_32 : decode cX4_greatest 32 = .ok (.if_icmp .le 7, 3) := by decide +kernel
theorem dX4_greatest_35 : decode cX4_greatest 35 = .ok (.iload_n 3, 1) := by decide +kernel
theorem dX4_greatest_36 : decode cX4_greatest 36 = .ok (.goto 4, 3) := by decide +kernel
theorem dX4_greatest_39 : decode cX4_greatest 39 = .ok (.iload_n 2, 1) := by decide +kernel
theorem dX4_greatest_40 : decode cX4_greatest 40 = .ok (.istore_n 2, 1) := by decide +kernel
theorem dX4_greatest_41 : decode cX4_greatest 41 = .ok (.iinc 3 1, 3) := by decide +kernel
theorem dX4_greatest_44 : decode cX4_greatest 44 = .ok (.goto (-40), 3) := by decide +kernel
theorem dX4_greatest_47 : decode cX4_greatest 47 = .ok (.iload_n 2, 1) := by decide +kernel
theorem dX4_greatest_48 : decode cX4_greatest 48 = .ok (.ireturn, 1) := by decide +kernel
set_option maxRecDepth 20000 in
theorem ggX4_isLess_X4_greatest : GoodIn wsX4_isLess wsX4_greatest := goodIn_r _ [5, 6, 7, 4, 8, 9, 10, 11, 12, 13, 14, 15, 16, 17, 18, 19, 20, 21] (by decide +kernel) (by decide +kernel)
set_option maxRecDepth 20000 in
theorem gX4_isLess_X4_greatest : GoodIn wsX4_isLess (wsV RX4 46 RX4 yX4_greatest wsX4_greatest) := goodIn_app (goodIn_of _ (by decide +kernel)) ggX4_isLess_X4_greatest
set_option maxRecDepth 20000 in
theorem ggX4_isLess_X4_has : GoodIn wsX4_isLess wsX4_has := goodIn_r _ [8] (by decide +kernel) (by decide +kernel)
set_option maxRecDepth 20000 in
theorem gX4_isLess_X4_has : GoodIn wsX4_isLess (va_wsS RX4 38 yX4_has wsX4_has) := goodIn_app (goodIn_of _ (by decide +kernel)) ggX4_isLess_X4_has
theorem dX4_isLess_0 : decode cX4_isLess 0 = .ok (.aload_n 0, 1) := by decide +kernel
theorem dX4_isLess_1 : decode cX4_isLess 1 = .ok (.iload_n 1, 1) := by decide +kernel
theorem dX4_isLess_2 : decode cX4_isLess 2 = .ok (.iload_n 2, 1) := by decide +kernel
theorem dX4_isLess_3 : decode cX4_isLess 3 = .ok (.ixor, 1) := by decide +kernel
theorem dX4_isLess_4 : decode cX4_isLess 4 = .ok (.invokevirtual 46, 3) := by decide +kernel
theorem dX4_isLess_7 : decode cX4_isLess 7 = .ok (.istore_n 3, 1) := by decide +kernel
theorem dX4_isLess_8 : decode cX4_isLess 8 = .ok (.iload_n 3, 1) := by decide +kernel
theorem dX4_isLess_9 : decode cX4_isLess 9 = .ok (.ifCond .lt 15, 3) := by decide +kernel
theorem dX4_isLess_12 : decode cX4_isLess 12 = .ok (.iload_n 2, 1) := by decide +kernel
theorem dX4_isLess_13 : decode cX4_isLess 13 = .ok (.iload_n 3, 1) := by decide +kernel
theorem dX4_isLess_14 : decode cX4_isLess 14 = .ok (.invokestatic 38, 3) := by decide +kernel
theorem dX4_isLess_17 : decode cX4_isLess 17 = .ok (.ifCond .eq 7, 3) := by decide +kernel
theorem dX4_isLess_20 : decode cX4_isLess 20 = .ok (.iconst 1, 1) := by decide +kernel
theorem dX4_isLess_21 : decode cX4_isLess 21 = .ok (.goto 4, 3) := by decide +kernel
theorem dX4_isLess_24 : decode cX4_isLess 24 = .ok (.iconst 0, 1) := by decide +kernel
theorem dX4_isLess_25 : decode cX4_isLess 25 = .ok (.ireturn, 1) := by decide +kernel
theorem dX4_holdsAlways_0 : decode cX4_holdsAlways 0 = .ok (.iconst 0, 1) := by decide +kernel
theorem dX4_holdsAlways_1 : decode cX4_holdsAlways 1 = .ok (.istore_n 1, 1) := by decide +kernel
theorem dX4_holdsAlways_2 : decode cX4_holdsAlways 2 = .ok (.iconst 0, 1) := by decide +kernel
theorem dX4_holdsAlways_3 : decode cX4_holdsAlways 3 = .ok (.istore_n 2, 1) := by decide +kernel
theorem dX4_holdsAlways_4 : decode cX4_holdsAlways 4 = .ok (.iload_n 2, 1) := by decide +kernel
theorem dX4_holdsAlways_5 : decode cX4_holdsAlways 5 = .ok (.bipush 6, 2) := by decide +kernel
theorem dX4_holdsAlways_7 : decode cX4_holdsAlways 7 = .ok (.if_icmp .ge 30, 3) := by decide +kernel
theorem dX4_holdsAlways_10 : decode cX4_holdsAlways 10 = .ok (.iload_n 1, 1) := by decide +kernel
theorem dX4_holdsAlways_11 : decode cX4_holdsAlways 11 = .ok (.ifCond .ne 14, 3) := by decide +kernel
theorem dX4_holdsAlways_14 : decode cX4_holdsAlways 14 = .ok (.iload_n 0, 1) := by decide +kernel
theorem dX4_holdsAlways_15 : decode cX4_holdsAlways 15 = .ok (.iconst 2, 1) := by decide +kernel
theorem dX4_holdsAlways_16 : decode cX4_holdsAlways 16 = .ok (.iload_n 2, 1) := by decide +kernel
theorem dX4_holdsAlways_17 : decode cX4_holdsAlways 17 = .ok (.imul, 1) := by decide +kernel
theorem dX4_holdsAlways_18 : decode cX4_holdsAlways 18 = .ok (.ishr, 1) := by decide +kernel
theorem dX4_holdsAlways_19 : decode cX4_holdsAlways 19 = .ok (.iconst 3, 1) := by decide +kernel
theorem dX4_holdsAlways_20 : decode cX4_holdsAlways 20 = .ok (.iand, 1) := by decide +kernel
theorem dX4_holdsAlways_21 : decode cX4_holdsAlways 21 = .ok (.iconst 3, 1) := by decide +kernel
theorem dX4_holdsAlways_22 : decode cX4_holdsAlways 22 = .ok (.if_icmp .ne 7, 3) := by decide +kernel
theorem dX4_holdsAlways_25 : decode cX4_holdsAlways 25 = .ok (.iconst 1, 1) := by decide +kernel
theorem dX4_holdsAlways_26 : decode cX4_holdsAlways 26 = .ok (.goto 4, 3) := by decide +kernel
theorem dX4_holdsAlways_29 : decode cX4_holdsAlways 29 = .ok (.iconst 0, 1) := by decide +kernel
theorem dX4_holdsAlways_30 : decode cX4_holdsAlways 30 = .ok (.istore_n 1, 1) := by decide +kernel
theorem dX4_holdsAlways_31 : decode cX4_holdsAlways 31 = .ok (.iinc 2 1, 3) := by decide +kernel
theorem dX4_holdsAlways_34 : decode cX4_holdsAlways 34 = .ok (.goto (-30), 3) := by decide +kernel
theorem dX4_holdsAlways_37 : decode cX4_holdsAlways 37 = .ok (.iload_n 1, 1) := by decide +kernel
theorem dX4_holdsAlways_38 : decode cX4_holdsAlways 38 = .ok (.ireturn, 1) := by decide +kernel
set_option maxRecDepth 20000 in
theorem ggX4_hasWithin_X4_isKept : GoodIn wsX4_hasWithin wsX4_isKept := goodIn_r _ [6, 7, 8, 9, 5, 10, 1, 11, 12, 13, 14, 15, 16, 17, 18] (by decide +kernel) (by decide +kernel)
set_option maxRecDepth 20000 in
theorem gX4_hasWithin_X4_isKept : GoodIn wsX4_hasWithin (wsV RX4 49 RX4 yX4_isKept wsX4_isKept) := goodIn_app (goodIn_of _ (by decide +kernel)) ggX4_hasWithin_X4_isKept
set_option maxRecDepth 20000 in
theorem ggX4_hasWithin_X4_of : GoodIn wsX4_hasWithin wsX4_of := goodIn_r _ [10, 1, 11, 12, 13, 14, 15, 16, 17, 18] (by decide +kernel) (by decide +kernel)
set_option maxRecDepth 20000 in
theorem gX4_hasWithin_X4_of : GoodIn wsX4_hasWithin (wsV RX4 34 RX4 yX4_of wsX4_of) := goodIn_app (goodIn_of _ (by decide +kernel)) ggX4_hasWithin_X4_of
theorem dX4_hasWithin_0 : decode cX4_hasWithin 0 = .ok (.iconst 0, 1) := by decide +kernel
theorem dX4_hasWithin_1 : decode cX4_hasWithin 1 = .ok (.istore_n 2, 1) := by decide +kernel
theorem dX4_hasWithin_2 : decode cX4_hasWithin 2 = .ok (.iconst 0, 1) := by decide +kernel
theorem dX4_hasWithin_3 : decode cX4_hasWithin 3 = .ok (.istore_n 3, 1) := by decide +kernel
theorem dX4_hasWithin_4 : decode cX4_hasWithin 4 = .ok (.iload_n 3, 1) := by decide +kernel
theorem dX4_hasWithin_5 : decode cX4_hasWithin 5 = .ok (.aload_n 0, 1) := by decide +kernel
theorem dX4_hasWithin_6 : decode cX4_hasWithin 6 = .ok (.getfield 7, 3) := by decide +kernel
theorem dX4_hasWithin_9 : decode cX4_hasWithin 9 = .ok (.iconst 0, 1) := by decide +kernel
theorem dX4_hasWithin_10 : decode cX4_hasWithin 10 = .ok (.iaload, 1) := by decide +kernel
theorem dX4_hasWithin_11 : decode cX4_hasWithin 11 = .ok (.if_icmp .ge 40, 3) := by decide +kernel
theorem dX4_hasWithin_14 : decode cX4_hasWithin 14 = .ok (.iload_n 2, 1) := by decide +kernel
theorem dX4_hasWithin_15 : decode cX4_hasWithin 15 = .ok (.ifCond .ne 24, 3) := by decide +kernel
theorem dX4_hasWithin_18 : decode cX4_hasWithin 18 = .ok (.aload_n 0, 1) := by decide +kernel
theorem dX4_hasWithin_19 : decode cX4_hasWithin 19 = .ok (.iload_n 3, 1) := by decide +kernel
theorem dX4_hasWithin_20 : decode cX4_hasWithin 20 = .ok (.invokevirtual 49, 3) := by decide +kernel
theorem dX4_hasWithin_23 : decode cX4_hasWithin 23 = .ok (.ifCond .eq 20, 3) := by decide +kernel
theorem dX4_hasWithin_26 : decode cX4_hasWithin 26 = .ok (.aload_n 0, 1) := by decide +kernel
theorem dX4_hasWithin_27 : decode cX4_hasWithin 27 = .ok (.iload_n 3, 1) := by decide +kernel
theorem dX4_hasWithin_28 : decode cX4_hasWithin 28 = .ok (.iconst 0, 1) := by decide +kernel
theorem dX4_hasWithin_29 : decode cX4_hasWithin 29 = .ok (.invokevirtual 34, 3) := by decide +kernel
theorem dX4_hasWithin_32 : decode cX4_hasWithin 32 = .ok (.iload_n 1, 1) := by decide +kernel
theorem dX4_hasWithin_33 : decode cX4_hasWithin 33 = .ok (.iconst (-1), 1) := by decide +kernel
theorem dX4_hasWithin_34 : decode cX4_hasWithin 34 = .ok (.ixor, 1) := by decide +kernel
theorem dX4_hasWithin_35 : decode cX4_hasWithin 35 = .ok (.iand, 1) := by decide +kernel
theorem dX4_hasWithin_36 : decode cX4_hasWithin 36 = .ok (.ifCond .ne 7, 3) := by decide +kernel
theorem dX4_hasWithin_39 : decode cX4_hasWithin 39 = .ok (.iconst 1, 1) := by decide +kernel
theorem dX4_hasWithin_40 : decode cX4_hasWithin 40 = .ok (.goto 4, 3) := by decide +kernel
theorem dX4_hasWithin_43 : decode cX4_hasWithin 43 = .ok (.iconst 0, 1) := by decide +kernel
theorem dX4_hasWithin_44 : decode cX4_hasWithin 44 = .ok (.istore_n 2, 1) := by decide +kernel
theorem dX4_hasWithin_45 : decode cX4_hasWithin 45 = .ok (.iinc 3 1, 3) := by decide +kernel
theorem dX4_hasWithin_48 : decode cX4_hasWithin 48 = .ok (.goto (-44), 3) := by decide +kernel
theorem dX4_hasWithin_51 : decode cX4_hasWithin 51 = .ok (.iload_n 2, 1) := by decide +kernel
theorem dX4_hasWithin_52 : decode cX4_hasWithin 52 = .ok (.ireturn, 1) := by decide +kernel
set_option maxRecDepth 20000 in
theorem ggX4_comes_X4_holdsAlways : GoodIn wsX4_comes wsX4_holdsAlways := goodIn_r _ [6] (by decide +kernel) (by decide +kernel)
set_option maxRecDepth 20000 in
theorem gX4_comes_X4_holdsAlways : GoodIn wsX4_comes (va_wsS RX4 53 yX4_holdsAlways wsX4_holdsAlways) := goodIn_app (goodIn_of _ (by decide +kernel)) ggX4_comes_X4_holdsAlways
set_option maxRecDepth 20000 in
theorem ggX4_comes_X4_hasWithin : GoodIn wsX4_comes wsX4_hasWithin := goodIn_r _ [10, 1, 11, 12, 13, 5, 14, 15, 16, 17, 18, 23, 24, 25, 26, 27, 28, 29, 30] (by decide +kernel) (by decide +kernel)
set_option maxRecDepth 20000 in
theorem gX4_comes_X4_hasWithin : GoodIn wsX4_comes (wsV RX4 56 RX4 yX4_hasWithin wsX4_hasWithin) := goodIn_app (goodIn_of _ (by decide +kernel)) ggX4_comes_X4_hasWithin
set_option maxRecDepth 20000 in
theorem ggX4_comes_X4_of : GoodIn wsX4_comes wsX4_of := goodIn_r _ [18, 1, 23, 24, 25, 26, 27, 28, 29, 30] (by decide +kernel) (by decide +kernel)
set_option maxRecDepth 20000 in
theorem gX4_comes_X4_of : GoodIn wsX4_comes (wsV RX4 34 RX4 yX4_of wsX4_of) := goodIn_app (goodIn_of _ (by decide +kernel)) ggX4_comes_X4_of
set_option maxRecDepth 20000 in
theorem ggX4_comes_X4_puts : GoodIn wsX4_comes wsX4_puts := goodIn_r _ [22, 1, 23, 24, 25, 26, 27, 28, 29, 30] (by decide +kernel) (by decide +kernel)
set_option maxRecDepth 20000 in
theorem gX4_comes_X4_puts : GoodIn wsX4_comes (wsV RX4 60 RX4 yX4_puts wsX4_puts) := goodIn_app (goodIn_of _ (by decide +kernel)) ggX4_comes_X4_puts
theorem dX4_comes_0 : decode cX4_comes 0 = .ok (.iload_n 1, 1) := by decide +kernel
theorem dX4_comes_1 : decode cX4_comes 1 = .ok (.invokestatic 53, 3) := by decide +kernel
theorem dX4_comes_4 : decode cX4_comes 4 = .ok (.ifCond .eq 15, 3) := by decide +kernel
theorem dX4_comes_7 : decode cX4_comes 7 = .ok (.aload_n 0, 1) := by decide +kernel
theorem dX4_comes_8 : decode cX4_comes 8 = .ok (.getfield 7, 3) := by decide +kernel
theorem dX4_comes_11 : decode cX4_comes 11 = .ok (.iconst 3, 1) := by decide +kernel
theorem dX4_comes_12 : decode cX4_comes 12 = .ok (.dup2, 1) := by decide +kernel
theorem dX4_comes_13 : decode cX4_comes 13 = .ok (.iaload, 1) := by decide +kernel
theorem dX4_comes_14 : decode cX4_comes 14 = .ok (.iconst 1, 1) := by decide +kernel
theorem dX4_comes_15 : decode cX4_comes 15 = .ok (.iadd, 1) := by decide +kernel
theorem dX4_comes_16 : decode cX4_comes 16 = .ok (.iastore, 1) := by decide +kernel
theorem dX4_comes_17 : decode cX4_comes 17 = .ok (.iconst (-1), 1) := by decide +kernel
theorem dX4_comes_18 : decode cX4_comes 18 = .ok (.ireturn, 1) := by decide +kernel
theorem dX4_comes_19 : decode cX4_comes 19 = .ok (.aload_n 0, 1) := by decide +kernel
theorem dX4_comes_20 : decode cX4_comes 20 = .ok (.iload_n 1, 1) := by decide +kernel
theorem dX4_comes_21 : decode cX4_comes 21 = .ok (.invokevirtual 56, 3) := by decide +kernel
theorem dX4_comes_24 : decode cX4_comes 24 = .ok (.ifCond .eq 16, 3) := by decide +kernel
theorem dX4_comes_27 : decode cX4_comes 27 = .ok (.aload_n 0, 1) := by decide +kernel
theorem dX4_comes_28 : decode cX4_comes 28 = .ok (.getfield 7, 3) := by decide +kernel
theorem dX4_comes_31 : decode cX4_comes 31 = .ok (.iconst 4, 1) := by decide +kernel
theorem dX4_comes_32 : decode cX4_comes 32 = .ok (.dup2, 1) := by decide +kernel
theorem dX4_comes_33 : decode cX4_comes 33 = .ok (.iaload, 1) := by decide +kernel
theorem dX4_comes_34 : decode cX4_comes 34 = .ok (.iconst 1, 1) := by decide +kernel
theorem dX4_comes_35 : decode cX4_comes 35 = .ok (.iadd, 1) := by decide +kernel
theorem dX4_comes_36 : decode cX4_comes 36 = .ok (.iastore, 1) := by decide +kernel
theorem dX4_comes_37 : decode cX4_comes 37 = .ok (.bipush (-2), 2) := by decide +kernel
theorem dX4_comes_39 : decode cX4_comes 39 = .ok (.ireturn, 1) := by decide +kernel
theorem dX4_comes_40 : decode cX4_comes 40 = .ok (.aload_n 0, 1) := by decide +kernel
theorem dX4_comes_41 : decode cX4_comes 41 = .ok (.getfield 7, 3) := by decide +kernel
theorem dX4_comes_44 : decode cX4_comes 44 = .ok (.iconst 0, 1) := by decide +kernel
theorem dX4_comes_45 : decode cX4_comes 45 = .ok (.iaload, 1) := by decide +kernel
theorem dX4_comes_46 : decode cX4_comes 46 = .ok (.bipush 40, 2) := by decide +kernel
theorem dX4_comes_48 : decode cX4_comes 48 = .ok (.if_icmp .ne 6, 3) := by decide +kernel
theorem dX4_comes_51 : decode cX4_comes 51 = .ok (.ldc 59, 2) := by decide +kernel
theorem dX4_comes_53 : decode cX4_comes 53 = .ok (.ireturn, 1) := by decide +kernel
theorem dX4_comes_54 : decode cX4_comes 54 = .ok (.iconst 0, 1) := by decide +kernel
theorem dX4_comes_55 : decode cX4_comes 55 = .ok (.istore 5, 2) := by decide +kernel
theorem dX4_comes_57 : decode cX4_comes 57 = .ok (.iload 5, 2) := by decide +kernel
theorem dX4_comes_59 : decode cX4_comes 59 = .ok (.aload_n 0, 1) := by decide +kernel
theorem dX4_comes_60 : decode cX4_comes 60 = .ok (.getfield 7, 3) := by decide +kernel
theorem dX4_comes_63 : decode cX4_comes 63 = .ok (.iconst 0, 1) := by decide +kernel
theorem dX4_comes_64 : decode cX4_comes 64 = .ok (.iaload, 1) := by decide +kernel
theorem dX4_comes_65 : decode cX4_comes 65 = .ok (.if_icmp .ge 31, 3) := by decide +kernel
theorem dX4_comes_68 : decode cX4_comes 68 = .ok (.iload_n 1, 1) := by decide +kernel
theorem dX4_comes_69 : decode cX4_comes 69 = .ok (.aload_n 0, 1) := by decide +kernel
theorem dX4_comes_70 : decode cX4_comes 70 = .ok (.iload 5, 2) := by decide +kernel
theorem dX4_comes_72 : decode cX4_comes 72 = .ok (.iconst 0, 1) := by decide +kernel
theorem dX4_comes_73 : decode cX4_comes 73 = .ok (.invokevirtual 34, 3) := by decide +kernel
theorem dX4_comes_76 : decode cX4_comes 76 = .ok (.iconst (-1), 1) := by decide +kernel
theorem dX4_comes_77 : decode cX4_comes 77 = .ok (.ixor, 1) := by decide +kernel
theorem dX4_comes_78 : decode cX4_comes 78 = .ok (.iand, 1) := by decide +kernel
theorem dX4_comes_79 : decode cX4_comes 79 = .ok (.ifCond .ne 11, 3) := by decide +kernel
theorem dX4_comes_82 : decode cX4_comes 82 = .ok (.aload_n 0, 1) := by decide +kernel
theorem dX4_comes_83 : decode cX4_comes 83 = .ok (.iload 5, 2) := by decide +kernel
theorem dX4_comes_85 : decode cX4_comes 85 = .ok (.iconst 1, 1) := by decide +kernel
theorem dX4_comes_86 : decode cX4_comes 86 = .ok (.iconst 2, 1) := by decide +kernel
theorem dX4_comes_87 : decode cX4_comes 87 = .ok (.invokevirtual 60, 3) := by decide +kernel
theorem dX4_comes_90 : decode cX4_comes 90 = .ok (.iinc 5 1, 3) := by decide +kernel
theorem dX4_comes_93 : decode cX4_comes 93 = .ok (.goto (-36), 3) := by decide +kernel
theorem dX4_comes_96 : decode cX4_comes 96 = .ok (.aload_n 0, 1) := by decide +kernel
theorem dX4_comes_97 : decode cX4_comes 97 = .ok (.getfield 7, 3) := by decide +kernel
theorem dX4_comes_100 : decode cX4_comes 100 = .ok (.iconst 0, 1) := by decide +kernel
theorem dX4_comes_101 : decode cX4_comes 101 = .ok (.iaload, 1) := by decide +kernel
theorem dX4_comes_102 : decode cX4_comes 102 = .ok (.istore 5, 2) := by decide +kernel
theorem dX4_comes_104 : decode cX4_comes 104 = .ok (.aload_n 0, 1) := by decide +kernel
theorem dX4_comes_105 : decode cX4_comes 105 = .ok (.getfield 7, 3) := by decide +kernel
theorem dX4_comes_108 : decode cX4_comes 108 = .ok (.iconst 0, 1) := by decide +kernel
theorem dX4_comes_109 : decode cX4_comes 109 = .ok (.dup2, 1) := by decide +kernel
theorem dX4_comes_110 : decode cX4_comes 110 = .ok (.iaload, 1) := by decide +kernel
theorem dX4_comes_111 : decode cX4_comes 111 = .ok (.iconst 1, 1) := by decide +kernel
theorem dX4_comes_112 : decode cX4_comes 112 = .ok (.iadd, 1) := by decide +kernel
theorem dX4_comes_113 : decode cX4_comes 113 = .ok (.iastore, 1) := by decide +kernel
theorem dX4_comes_114 : decode cX4_comes 114 = .ok (.aload_n 0, 1) := by decide +kernel
theorem dX4_comes_115 : decode cX4_comes 115 = .ok (.iload 5, 2) := by decide +kernel
theorem dX4_comes_117 : decode cX4_comes 117 = .ok (.iconst 0, 1) := by decide +kernel
theorem dX4_comes_118 : decode cX4_comes 118 = .ok (.iload_n 1, 1) := by decide +kernel
theorem dX4_comes_119 : decode cX4_comes 119 = .ok (.invokevirtual 60, 3) := by decide +kernel
theorem dX4_comes_122 : decode cX4_comes 122 = .ok (.aload_n 0, 1) := by decide +kernel
theorem dX4_comes_123 : decode cX4_comes 123 = .ok (.iload 5, 2) := by decide +kernel
theorem dX4_comes_125 : decode cX4_comes 125 = .ok (.iconst 1, 1) := by decide +kernel
theorem dX4_comes_126 : decode cX4_comes 126 = .ok (.iconst 0, 1) := by decide +kernel
theorem dX4_comes_127 : decode cX4_comes 127 = .ok (.invokevirtual 60, 3) := by decide +kernel
theorem dX4_comes_130 : decode cX4_comes 130 = .ok (.aload_n 0, 1) := by decide +kernel
theorem dX4_comes_131 : decode cX4_comes 131 = .ok (.iload 5, 2) := by decide +kernel
theorem dX4_comes_133 : decode cX4_comes 133 = .ok (.iconst 2, 1) := by decide +kernel
theorem dX4_comes_134 : decode cX4_comes 134 = .ok (.iload_n 2, 1) := by decide +kernel
theorem dX4_comes_135 : decode cX4_comes 135 = .ok (.iconst 1, 1) := by decide +kernel
theorem dX4_comes_136 : decode cX4_comes 136 = .ok (.iadd, 1) := by decide +kernel
theorem dX4_comes_137 : decode cX4_comes 137 = .ok (.invokevirtual 60, 3) := by decide +kernel
theorem dX4_comes_140 : decode cX4_comes 140 = .ok (.aload_n 0, 1) := by decide +kernel
theorem dX4_comes_141 : decode cX4_comes 141 = .ok (.iload 5, 2) := by decide +kernel
theorem dX4_comes_143 : decode cX4_comes 143 = .ok (.iconst 3, 1) := by decide +kernel
theorem dX4_comes_144 : decode cX4_comes 144 = .ok (.iload_n 3, 1) := by decide +kernel
theorem dX4_comes_145 : decode cX4_comes 145 = .ok (.iconst 1, 1) := by decide +kernel
theorem dX4_comes_146 : decode cX4_comes 146 = .ok (.iadd, 1) := by decide +kernel
theorem dX4_comes_147 : decode cX4_comes 147 = .ok (.invokevirtual 60, 3) := by decide +kernel
theorem dX4_comes_150 : decode cX4_comes 150 = .ok (.aload_n 0, 1) := by decide +kernel
theorem dX4_comes_151 : decode cX4_comes 151 = .ok (.iload 5, 2) := by decide +kernel
theorem dX4_comes_153 : decode cX4_comes 153 = .ok (.iconst 4, 1) := by decide +kernel
theorem dX4_comes_154 : decode cX4_comes 154 = .ok (.iload 4, 2) := by decide +kernel
theorem dX4_comes_156 : decode cX4_comes 156 = .ok (.invokevirtual 60, 3) := by decide +kernel
theorem dX4_comes_159 : decode cX4_comes 159 = .ok (.aload_n 0, 1) := by decide +kernel
theorem dX4_comes_160 : decode cX4_comes 160 = .ok (.iload 5, 2) := by decide +kernel
theorem dX4_comes_162 : decode cX4_comes 162 = .ok (.iconst 5, 1) := by decide +kernel
theorem dX4_comes_163 : decode cX4_comes 163 = .ok (.iconst 0, 1) := by decide +kernel
theorem dX4_comes_164 : decode cX4_comes 164 = .ok (.invokevirtual 60, 3) := by decide +kernel
theorem dX4_comes_167 : decode cX4_comes 167 = .ok (.iload_n 2, 1) := by decide +kernel
theorem dX4_comes_168 : decode cX4_comes 168 = .ok (.ifCond .lt 42, 3) := by decide +kernel
theorem dX4_comes_171 : decode cX4_comes 171 = .ok (.aload_n 0, 1) := by decide +kernel
theorem dX4_comes_172 : decode cX4_comes 172 = .ok (.iload_n 2, 1) := by decide +kernel
theorem dX4_comes_173 : decode cX4_comes 173 = .ok (.iconst 5, 1) := by decide +kernel
theorem dX4_comes_174 : decode cX4_comes 174 = .ok (.invokevirtual 34, 3) := by decide +kernel
theorem dX4_comes_177 : decode cX4_comes 177 = .ok (.istore 6, 2) := by decide +kernel
theorem dX4_comes_179 : decode cX4_comes 179 = .ok (.aload_n 0, 1) := by decide +kernel
theorem dX4_comes_180 : decode cX4_comes 180 = .ok (.iload_n 3, 1) := by decide +kernel
theorem dX4_comes_181 : decode cX4_comes 181 = .ok (.iconst 5, 1) := by decide +kernel
theorem dX4_comes_182 : decode cX4_comes 182 = .ok (.invokevirtual 34, 3) := by decide +kernel
theorem dX4_comes_185 : decode cX4_comes 185 = .ok (.istore 7, 2) := by decide +kernel
theorem dX4_comes_187 : decode cX4_comes 187 = .ok (.aload_n 0, 1) := by decide +kernel
theorem dX4_comes_188 : decode cX4_comes 188 = .ok (.iload 5, 2) := by decide +kernel
theorem dX4_comes_190 : decode cX4_comes 190 = .ok (.iconst 5, 1) := by decide +kernel
theorem dX4_comes_191 : decode cX4_comes 191 = .ok (.iload 6, 2) := by decide +kernel
theorem dX4_comes_193 : decode cX4_comes 193 = .ok (.iload 7, 2) := by decide +kernel
theorem dX4_comes_195 : decode cX4_comes 195 = .ok (.if_icmp .le 8, 3) := by decide +kernel
theorem dX4_comes_198 : decode cX4_comes 198 = .ok (.iload 6, 2) := by decide +kernel
theorem dX4_comes_200 : decode cX4_comes 200 = .ok (.goto 5, 3) := by decide +kernel
theorem dX4_comes_203 : decode cX4_comes 203 = .ok (.iload 7, 2) := by decide +kernel
theorem dX4_comes_205 : decode cX4_comes 205 = .ok (.iconst 1, 1) := by decide +kernel
theorem dX4_comes_206 : decode cX4_comes 206 = .ok (.iadd, 1) := by decide +kernel
theorem dX4_comes_207 : decode cX4_comes 207 = .ok (.invokevirtual 60, 3) := by decide +kernel
theorem dX4_comes_210 : decode cX4_comes 210 = .ok (.iload 5, 2) := by decide +kernel
theorem dX4_comes_212 : decode cX4_comes 212 = .ok (.ireturn, 1) := by decide +kernel
set_option maxRecDepth 20000 in
theorem ggX4_empties_X4_of : GoodIn wsX4_empties wsX4_of := goodIn_r _ [6, 1, 7, 8, 9, 10, 11, 12, 13, 14] (by decide +kernel) (by decide +kernel)
set_option maxRecDepth 20000 in
theorem gX4_empties_X4_of : GoodIn wsX4_empties (wsV RX4 34 RX4 yX4_of wsX4_of) := goodIn_app (goodIn_of _ (by decide +kernel)) ggX4_empties_X4_of
theorem dX4_empties_0 : decode cX4_empties 0 = .ok (.iconst (-1), 1) := by decide +kernel
theorem dX4_empties_1 : decode cX4_empties 1 = .ok (.istore_n 1, 1) := by decide +kernel
theorem dX4_empties_2 : decode cX4_empties 2 = .ok (.iconst 0, 1) := by decide +kernel
theorem dX4_empties_3 : decode cX4_empties 3 = .ok (.istore_n 2, 1) := by decide +kernel
theorem dX4_empties_4 : decode cX4_empties 4 = .ok (.iload_n 2, 1) := by decide +kernel
theorem dX4_empties_5 : decode cX4_empties 5 = .ok (.aload_n 0, 1) := by decide +kernel
theorem dX4_empties_6 : decode cX4_empties 6 = .ok (.getfield 7, 3) := by decide +kernel
theorem dX4_empties_9 : decode cX4_empties 9 = .ok (.iconst 0, 1) := by decide +kernel
theorem dX4_empties_10 : decode cX4_empties 10 = .ok (.iaload, 1) := by decide +kernel
theorem dX4_empties_11 : decode cX4_empties 11 = .ok (.if_icmp .ge 24, 3) := by decide +kernel
theorem dX4_empties_14 : decode cX4_empties 14 = .ok (.aload_n 0, 1) := by decide +kernel
theorem dX4_empties_15 : decode cX4_empties 15 = .ok (.iload_n 2, 1) := by decide +kernel
theorem dX4_empties_16 : decode cX4_empties 16 = .ok (.iconst 0, 1) := by decide +kernel
theorem dX4_empties_17 : decode cX4_empties 17 = .ok (.invokevirtual 34, 3) := by decide +kernel
theorem dX4_empties_20 : decode cX4_empties 20 = .ok (.ifCond .ne 7, 3) := by decide +kernel
theorem dX4_empties_23 : decode cX4_empties 23 = .ok (.iload_n 2, 1) := by decide +kernel
theorem dX4_empties_24 : decode cX4_empties 24 = .ok (.goto 4, 3) := by decide +kernel
theorem dX4_empties_27 : decode cX4_empties 27 = .ok (.iload_n 1, 1) := by decide +kernel
theorem dX4_empties_28 : decode cX4_empties 28 = .ok (.istore_n 1, 1) := by decide +kernel
theorem dX4_empties_29 : decode cX4_empties 29 = .ok (.iinc 2 1, 3) := by decide +kernel
theorem dX4_empties_32 : decode cX4_empties 32 = .ok (.goto (-28), 3) := by decide +kernel
theorem dX4_empties_35 : decode cX4_empties 35 = .ok (.iload_n 1, 1) := by decide +kernel
theorem dX4_empties_36 : decode cX4_empties 36 = .ok (.ireturn, 1) := by decide +kernel
set_option maxRecDepth 20000 in
theorem ggX4_chosen_X4_of : GoodIn wsX4_chosen wsX4_of := goodIn_r _ [6, 1, 14, 15, 16, 17, 18, 19, 20, 21] (by decide +kernel) (by decide +kernel)
set_option maxRecDepth 20000 in
theorem gX4_chosen_X4_of : GoodIn wsX4_chosen (wsV RX4 34 RX4 yX4_of wsX4_of) := goodIn_app (goodIn_of _ (by decide +kernel)) ggX4_chosen_X4_of
set_option maxRecDepth 20000 in
theorem ggX4_chosen_X4_ones : GoodIn wsX4_chosen wsX4_ones := goodIn_r _ [9] (by decide +kernel) (by decide +kernel)
set_option maxRecDepth 20000 in
theorem gX4_chosen_X4_ones : GoodIn wsX4_chosen (va_wsS RX4 64 yX4_ones wsX4_ones) := goodIn_app (goodIn_of _ (by decide +kernel)) ggX4_chosen_X4_ones
set_option maxRecDepth 20000 in
theorem ggX4_chosen_X4_empties : GoodIn wsX4_chosen wsX4_empties := goodIn_r _ [13, 1, 2, 3, 4, 5, 6, 14, 15, 16, 17, 18, 19, 20, 21] (by decide +kernel) (by decide +kernel)
set_option maxRecDepth 20000 in
theorem gX4_chosen_X4_empties : GoodIn wsX4_chosen (wsV RX4 67 RX4 yX4_empties wsX4_empties) := goodIn_app (goodIn_of _ (by decide +kernel)) ggX4_chosen_X4_empties
theorem dX4_chosen_0 : decode cX4_chosen 0 = .ok (.aload_n 0, 1) := by decide +kernel
theorem dX4_chosen_1 : decode cX4_chosen 1 = .ok (.getfield 7, 3) := by decide +kernel
theorem dX4_chosen_4 : decode cX4_chosen 4 = .ok (.iconst 1, 1) := by decide +kernel
theorem dX4_chosen_5 : decode cX4_chosen 5 = .ok (.iaload, 1) := by decide +kernel
theorem dX4_chosen_6 : decode cX4_chosen 6 = .ok (.iconst 1, 1) := by decide +kernel
theorem dX4_chosen_7 : decode cX4_chosen 7 = .ok (.iadd, 1) := by decide +kernel
theorem dX4_chosen_8 : decode cX4_chosen 8 = .ok (.aload_n 0, 1) := by decide +kernel
theorem dX4_chosen_9 : decode cX4_chosen 9 = .ok (.getfield 7, 3) := by decide +kernel
theorem dX4_chosen_12 : decode cX4_chosen 12 = .ok (.iconst 2, 1) := by decide +kernel
theorem dX4_chosen_13 : decode cX4_chosen 13 = .ok (.iaload, 1) := by decide +kernel
theorem dX4_chosen_14 : decode cX4_chosen 14 = .ok (.irem, 1) := by decide +kernel
theorem dX4_chosen_15 : decode cX4_chosen 15 = .ok (.ifCond .ne 7, 3) := by decide +kernel
theorem dX4_chosen_18 : decode cX4_chosen 18 = .ok (.iconst 1, 1) := by decide +kernel
theorem dX4_chosen_19 : decode cX4_chosen 19 = .ok (.goto 4, 3) := by decide +kernel
theorem dX4_chosen_22 : decode cX4_chosen 22 = .ok (.iconst 0, 1) := by decide +kernel
theorem dX4_chosen_23 : decode cX4_chosen 23 = .ok (.istore_n 1, 1) := by decide +kernel
theorem dX4_chosen_24 : decode cX4_chosen 24 = .ok (.iconst (-1), 1) := by decide +kernel
theorem dX4_chosen_25 : decode cX4_chosen 25 = .ok (.istore_n 2, 1) := by decide +kernel
theorem dX4_chosen_26 : decode cX4_chosen 26 = .ok (.aload_n 0, 1) := by decide +kernel
theorem dX4_chosen_27 : decode cX4_chosen 27 = .ok (.getfield 7, 3) := by decide +kernel
theorem dX4_chosen_30 : decode cX4_chosen 30 = .ok (.iconst 0, 1) := by decide +kernel
theorem dX4_chosen_31 : decode cX4_chosen 31 = .ok (.iaload, 1) := by decide +kernel
theorem dX4_chosen_32 : decode cX4_chosen 32 = .ok (.iconst 1, 1) := by decide +kernel
theorem dX4_chosen_33 : decode cX4_chosen 33 = .ok (.isub, 1) := by decide +kernel
theorem dX4_chosen_34 : decode cX4_chosen 34 = .ok (.istore_n 3, 1) := by decide +kernel
theorem dX4_chosen_35 : decode cX4_chosen 35 = .ok (.iload_n 3, 1) := by decide +kernel
theorem dX4_chosen_36 : decode cX4_chosen 36 = .ok (.ifCond .lt 65, 3) := by decide +kernel
theorem dX4_chosen_39 : decode cX4_chosen 39 = .ok (.aload_n 0, 1) := by decide +kernel
theorem dX4_chosen_40 : decode cX4_chosen 40 = .ok (.iload_n 3, 1) := by decide +kernel
theorem dX4_chosen_41 : decode cX4_chosen 41 = .ok (.iconst 1, 1) := by decide +kernel
theorem dX4_chosen_42 : decode cX4_chosen 42 = .ok (.invokevirtual 34, 3) := by decide +kernel
theorem dX4_chosen_45 : decode cX4_chosen 45 = .ok (.ifCond .ne 36, 3) := by decide +kernel
theorem dX4_chosen_48 : decode cX4_chosen 48 = .ok (.iload_n 2, 1) := by decide +kernel
theorem dX4_chosen_49 : decode cX4_chosen 49 = .ok (.ifCond .lt 28, 3) := by decide +kernel
theorem dX4_chosen_52 : decode cX4_chosen 52 = .ok (.iload_n 1, 1) := by decide +kernel
theorem dX4_chosen_53 : decode cX4_chosen 53 = .ok (.ifCond .ne 24, 3) := by decide +kernel
theorem dX4_chosen_56 : decode cX4_chosen 56 = .ok (.aload_n 0, 1) := by decide +kernel
theorem dX4_chosen_57 : decode cX4_chosen 57 = .ok (.iload_n 3, 1) := by decide +kernel
theorem dX4_chosen_58 : decode cX4_chosen 58 = .ok (.iconst 0, 1) := by decide +kernel
theorem dX4_chosen_59 : decode cX4_chosen 59 = .ok (.invokevirtual 34, 3) := by decide +kernel
theorem dX4_chosen_62 : decode cX4_chosen 62 = .ok (.invokestatic 64, 3) := by decide +kernel
theorem dX4_chosen_65 : decode cX4_chosen 65 = .ok (.aload_n 0, 1) := by decide +kernel
theorem dX4_chosen_66 : decode cX4_chosen 66 = .ok (.iload_n 2, 1) := by decide +kernel
theorem dX4_chosen_67 : decode cX4_chosen 67 = .ok (.iconst 0, 1) := by decide +kernel
theorem dX4_chosen_68 : decode cX4_chosen 68 = .ok (.invokevirtual 34, 3) := by decide +kernel
theorem dX4_chosen_71 : decode cX4_chosen 71 = .ok (.invokestatic 64, 3) := by decide +kernel
theorem dX4_chosen_74 : decode cX4_chosen 74 = .ok (.if_icmp .gt 7, 3) := by decide +kernel
theorem dX4_chosen_77 : decode cX4_chosen 77 = .ok (.iconst 1, 1) := by decide +kernel
theorem dX4_chosen_78 : decode cX4_chosen 78 = .ok (.goto 4, 3) := by decide +kernel
theorem dX4_chosen_81 : decode cX4_chosen 81 = .ok (.iconst 0, 1) := by decide +kernel
theorem dX4_chosen_82 : decode cX4_chosen 82 = .ok (.istore 4, 2) := by decide +kernel
theorem dX4_chosen_84 : decode cX4_chosen 84 = .ok (.iload 4, 2) := by decide +kernel
theorem dX4_chosen_86 : decode cX4_chosen 86 = .ok (.ifCond .eq 7, 3) := by decide +kernel
theorem dX4_chosen_89 : decode cX4_chosen 89 = .ok (.iload_n 3, 1) := by decide +kernel
theorem dX4_chosen_90 : decode cX4_chosen 90 = .ok (.goto 4, 3) := by decide +kernel
theorem dX4_chosen_93 : decode cX4_chosen 93 = .ok (.iload_n 2, 1) := by decide +kernel
theorem dX4_chosen_94 : decode cX4_chosen 94 = .ok (.istore_n 2, 1) := by decide +kernel
theorem dX4_chosen_95 : decode cX4_chosen 95 = .ok (.iinc 3 (-1), 3) := by decide +kernel
theorem dX4_chosen_98 : decode cX4_chosen 98 = .ok (.goto (-63), 3) := by decide +kernel
theorem dX4_chosen_101 : decode cX4_chosen 101 = .ok (.aload_n 0, 1) := by decide +kernel
theorem dX4_chosen_102 : decode cX4_chosen 102 = .ok (.invokevirtual 67, 3) := by decide +kernel
theorem dX4_chosen_105 : decode cX4_chosen 105 = .ok (.ifCond .ge 7, 3) := by decide +kernel
theorem dX4_chosen_108 : decode cX4_chosen 108 = .ok (.iload_n 2, 1) := by decide +kernel
theorem dX4_chosen_109 : decode cX4_chosen 109 = .ok (.goto 4, 3) := by decide +kernel
theorem dX4_chosen_112 : decode cX4_chosen 112 = .ok (.iconst (-1), 1) := by decide +kernel
theorem dX4_chosen_113 : decode cX4_chosen 113 = .ok (.ireturn, 1) := by decide +kernel
set_option maxRecDepth 20000 in
theorem ggX4_resolves_X4_of : GoodIn wsX4_resolves wsX4_of := goodIn_r _ [5, 6, 38, 39, 40, 41, 42, 43, 44, 45] (by decide +kernel) (by decide +kernel)
set_option maxRecDepth 20000 in
theorem gX4_resolves_X4_of : GoodIn wsX4_resolves (wsV RX4 34 RX4 yX4_of wsX4_of) := goodIn_app (goodIn_of _ (by decide +kernel)) ggX4_resolves_X4_of
set_option maxRecDepth 20000 in
theorem ggX4_resolves_X4_greatest : GoodIn wsX4_resolves wsX4_greatest := goodIn_r _ [10, 11, 12, 4, 13, 14, 15, 16, 17, 6, 38, 39, 40, 41, 42, 43, 44, 45] (by decide +kernel) (by decide +kernel)
set_option maxRecDepth 20000 in
theorem gX4_resolves_X4_greatest : GoodIn wsX4_resolves (wsV RX4 46 RX4 yX4_greatest wsX4_greatest) := goodIn_app (goodIn_of _ (by decide +kernel)) ggX4_resolves_X4_greatest
set_option maxRecDepth 20000 in
theorem ggX4_resolves_X4_comes : GoodIn wsX4_resolves wsX4_comes := goodIn_r _ [21, 6, 22, 23, 24, 4, 25, 26, 27, 28, 29, 30, 31, 32, 33, 1, 2, 3, 5, 34, 35, 36, 37, 38, 39, 40, 41, 42, 43, 44, 45] (by decide +kernel) (by decide +kernel)
set_option maxRecDepth 20000 in
theorem gX4_resolves_X4_comes : GoodIn wsX4_resolves (wsV RX4 71 RX4 yX4_comes wsX4_comes) := goodIn_app (goodIn_of _ (by decide +kernel)) ggX4_resolves_X4_comes
theorem dX4_resolves_0 : decode cX4_resolves 0 = .ok (.aload_n 0, 1) := by decide +kernel
theorem dX4_resolves_1 : decode cX4_resolves 1 = .ok (.aload_n 0, 1) := by decide +kernel
theorem dX4_resolves_2 : decode cX4_resolves 2 = .ok (.iload_n 1, 1) := by decide +kernel
theorem dX4_resolves_3 : decode cX4_resolves 3 = .ok (.iconst 0, 1) := by decide +kernel
theorem dX4_resolves_4 : decode cX4_resolves 4 = .ok (.invokevirtual 34, 3) := by decide +kernel
theorem dX4_resolves_7 : decode cX4_resolves 7 = .ok (.invokevirtual 46, 3) := by decide +kernel
theorem dX4_resolves_10 : decode cX4_resolves 10 = .ok (.istore_n 3, 1) := by decide +kernel
theorem dX4_resolves_11 : decode cX4_resolves 11 = .ok (.iload_n 3, 1) := by decide +kernel
theorem dX4_resolves_12 : decode cX4_resolves 12 = .ok (.iconst 2, 1) := by decide +kernel
theorem dX4_resolves_13 : decode cX4_resolves 13 = .ok (.irem, 1) := by decide +kernel
theorem dX4_resolves_14 : decode cX4_resolves 14 = .ok (.ifCond .ne 7, 3) := by decide +kernel
theorem dX4_resolves_17 : decode cX4_resolves 17 = .ok (.iconst 1, 1) := by decide +kernel
theorem dX4_resolves_18 : decode cX4_resolves 18 = .ok (.goto 4, 3) := by decide +kernel
theorem dX4_resolves_21 : decode cX4_resolves 21 = .ok (.iconst 0, 1) := by decide +kernel
theorem dX4_resolves_22 : decode cX4_resolves 22 = .ok (.istore 4, 2) := by decide +kernel
theorem dX4_resolves_24 : decode cX4_resolves 24 = .ok (.aload_n 0, 1) := by decide +kernel
theorem dX4_resolves_25 : decode cX4_resolves 25 = .ok (.iload_n 1, 1) := by decide +kernel
theorem dX4_resolves_26 : decode cX4_resolves 26 = .ok (.iconst 0, 1) := by decide +kernel
theorem dX4_resolves_27 : decode cX4_resolves 27 = .ok (.invokevirtual 34, 3) := by decide +kernel
theorem dX4_resolves_30 : decode cX4_resolves 30 = .ok (.aload_n 0, 1) := by decide +kernel
theorem dX4_resolves_31 : decode cX4_resolves 31 = .ok (.iload_n 2, 1) := by decide +kernel
theorem dX4_resolves_32 : decode cX4_resolves 32 = .ok (.iconst 0, 1) := by decide +kernel
theorem dX4_resolves_33 : decode cX4_resolves 33 = .ok (.invokevirtual 34, 3) := by decide +kernel
theorem dX4_resolves_36 : decode cX4_resolves 36 = .ok (.ior, 1) := by decide +kernel
theorem dX4_resolves_37 : decode cX4_resolves 37 = .ok (.iconst 3, 1) := by decide +kernel
theorem dX4_resolves_38 : decode cX4_resolves 38 = .ok (.iload_n 3, 1) := by decide +kernel
theorem dX4_resolves_39 : decode cX4_resolves 39 = .ok (.iconst 2, 1) := by decide +kernel
theorem dX4_resolves_40 : decode cX4_resolves 40 = .ok (.idiv, 1) := by decide +kernel
theorem dX4_resolves_41 : decode cX4_resolves 41 = .ok (.iconst 2, 1) := by decide +kernel
theorem dX4_resolves_42 : decode cX4_resolves 42 = .ok (.imul, 1) := by decide +kernel
theorem dX4_resolves_43 : decode cX4_resolves 43 = .ok (.ishl, 1) := by decide +kernel
theorem dX4_resolves_44 : decode cX4_resolves 44 = .ok (.iconst (-1), 1) := by decide +kernel
theorem dX4_resolves_45 : decode cX4_resolves 45 = .ok (.ixor, 1) := by decide +kernel
theorem dX4_resolves_46 : decode cX4_resolves 46 = .ok (.iand, 1) := by decide +kernel
theorem dX4_resolves_47 : decode cX4_resolves 47 = .ok (.istore 5, 2) := by decide +kernel
theorem dX4_resolves_49 : decode cX4_resolves 49 = .ok (.aload_n 0, 1) := by decide +kernel
theorem dX4_resolves_50 : decode cX4_resolves 50 = .ok (.iload 5, 2) := by decide +kernel
theorem dX4_resolves_52 : decode cX4_resolves 52 = .ok (.iload 4, 2) := by decide +kernel
theorem dX4_resolves_54 : decode cX4_resolves 54 = .ok (.ifCond .eq 7, 3) := by decide +kernel
theorem dX4_resolves_57 : decode cX4_resolves 57 = .ok (.iload_n 1, 1) := by decide +kernel
theorem dX4_resolves_58 : decode cX4_resolves 58 = .ok (.goto 4, 3) := by decide +kernel
theorem dX4_resolves_61 : decode cX4_resolves 61 = .ok (.iload_n 2, 1) := by decide +kernel
theorem dX4_resolves_62 : decode cX4_resolves 62 = .ok (.iload 4, 2) := by decide +kernel
theorem dX4_resolves_64 : decode cX4_resolves 64 = .ok (.ifCond .eq 7, 3) := by decide +kernel
theorem dX4_resolves_67 : decode cX4_resolves 67 = .ok (.iload_n 2, 1) := by decide +kernel
theorem dX4_resolves_68 : decode cX4_resolves 68 = .ok (.goto 4, 3) := by decide +kernel
theorem dX4_resolves_71 : decode cX4_resolves 71 = .ok (.iload_n 1, 1) := by decide +kernel
theorem dX4_resolves_72 : decode cX4_resolves 72 = .ok (.iload_n 3, 1) := by decide +kernel
theorem dX4_resolves_73 : decode cX4_resolves 73 = .ok (.iconst 2, 1) := by decide +kernel
theorem dX4_resolves_74 : decode cX4_resolves 74 = .ok (.idiv, 1) := by decide +kernel
theorem dX4_resolves_75 : decode cX4_resolves 75 = .ok (.invokevirtual 71, 3) := by decide +kernel
theorem dX4_resolves_78 : decode cX4_resolves 78 = .ok (.ireturn, 1) := by decide +kernel
set_option maxRecDepth 20000 in
theorem ggX4_arePartners_X4_of : GoodIn wsX4_arePartners wsX4_of := goodIn_r _ [5, 6, 18, 19, 20, 21, 22, 23, 24, 25] (by decide +kernel) (by decide +kernel)
set_option maxRecDepth 20000 in
theorem gX4_arePartners_X4_of : GoodIn wsX4_arePartners (wsV RX4 34 RX4 yX4_of wsX4_of) := goodIn_app (goodIn_of _ (by decide +kernel)) ggX4_arePartners_X4_of
set_option maxRecDepth 20000 in
theorem ggX4_arePartners_X4_greatest : GoodIn wsX4_arePartners wsX4_greatest := goodIn_r _ [10, 11, 12, 4, 13, 14, 15, 16, 17, 6, 18, 19, 20, 21, 22, 23, 24, 25] (by decide +kernel) (by decide +kernel)
set_option maxRecDepth 20000 in
theorem gX4_arePartners_X4_greatest : GoodIn wsX4_arePartners (wsV RX4 46 RX4 yX4_greatest wsX4_greatest) := goodIn_app (goodIn_of _ (by decide +kernel)) ggX4_arePartners_X4_greatest
theorem dX4_arePartners_0 : decode cX4_arePartners 0 = .ok (.aload_n 0, 1) := by decide +kernel
theorem dX4_arePartners_1 : decode cX4_arePartners 1 = .ok (.aload_n 0, 1) := by decide +kernel
theorem dX4_arePartners_2 : decode cX4_arePartners 2 = .ok (.iload_n 1, 1) := by decide +kernel
theorem dX4_arePartners_3 : decode cX4_arePartners 3 = .ok (.iconst 0, 1) := by decide +kernel
theorem dX4_arePartners_4 : decode cX4_arePartners 4 = .ok (.invokevirtual 34, 3) := by decide +kernel
theorem dX4_arePartners_7 : decode cX4_arePartners 7 = .ok (.invokevirtual 46, 3) := by decide +kernel
theorem dX4_arePartners_10 : decode cX4_arePartners 10 = .ok (.istore_n 3, 1) := by decide +kernel
theorem dX4_arePartners_11 : decode cX4_arePartners 11 = .ok (.iload_n 2, 1) := by decide +kernel
theorem dX4_arePartners_12 : decode cX4_arePartners 12 = .ok (.iload_n 1, 1) := by decide +kernel
theorem dX4_arePartners_13 : decode cX4_arePartners 13 = .ok (.if_icmp .eq 33, 3) := by decide +kernel
theorem dX4_arePartners_16 : decode cX4_arePartners 16 = .ok (.aload_n 0, 1) := by decide +kernel
theorem dX4_arePartners_17 : decode cX4_arePartners 17 = .ok (.iload_n 2, 1) := by decide +kernel
theorem dX4_arePartners_18 : decode cX4_arePartners 18 = .ok (.iconst 1, 1) := by decide +kernel
theorem dX4_arePartners_19 : decode cX4_arePartners 19 = .ok (.invokevirtual 34, 3) := by decide +kernel
theorem dX4_arePartners_22 : decode cX4_arePartners 22 = .ok (.iconst 1, 1) := by decide +kernel
theorem dX4_arePartners_23 : decode cX4_arePartners 23 = .ok (.if_icmp .ne 23, 3) := by decide +kernel
theorem dX4_arePartners_26 : decode cX4_arePartners 26 = .ok (.aload_n 0, 1) := by decide +kernel
theorem dX4_arePartners_27 : decode cX4_arePartners 27 = .ok (.aload_n 0, 1) := by decide +kernel
theorem dX4_arePartners_28 : decode cX4_arePartners 28 = .ok (.iload_n 2, 1) := by decide +kernel
theorem dX4_arePartners_29 : decode cX4_arePartners 29 = .ok (.iconst 0, 1) := by decide +kernel
theorem dX4_arePartners_30 : decode cX4_arePartners 30 = .ok (.invokevirtual 34, 3) := by decide +kernel
theorem dX4_arePartners_33 : decode cX4_arePartners 33 = .ok (.invokevirtual 46, 3) := by decide +kernel
theorem dX4_arePartners_36 : decode cX4_arePartners 36 = .ok (.iload_n 3, 1) := by decide +kernel
theorem dX4_arePartners_37 : decode cX4_arePartners 37 = .ok (.iconst 1, 1) := by decide +kernel
theorem dX4_arePartners_38 : decode cX4_arePartners 38 = .ok (.ixor, 1) := by decide +kernel
theorem dX4_arePartners_39 : decode cX4_arePartners 39 = .ok (.if_icmp .ne 7, 3) := by decide +kernel
theorem dX4_arePartners_42 : decode cX4_arePartners 42 = .ok (.iconst 1, 1) := by decide +kernel
theorem dX4_arePartners_43 : decode cX4_arePartners 43 = .ok (.goto 4, 3) := by decide +kernel
theorem dX4_arePartners_46 : decode cX4_arePartners 46 = .ok (.iconst 0, 1) := by decide +kernel
theorem dX4_arePartners_47 : decode cX4_arePartners 47 = .ok (.ireturn, 1) := by decide +kernel
set_option maxRecDepth 20000 in
theorem ggX4_steps_X4_chosen : GoodIn wsX4_steps wsX4_chosen := goodIn_r _ [8, 2, 9, 10, 11, 7, 12, 13, 14, 15, 16, 17, 18, 19, 58, 59, 60, 61, 62, 63, 64, 65] (by decide +kernel) (by decide +kernel)
set_option maxRecDepth 20000 in
theorem gX4_steps_X4_chosen : GoodIn wsX4_steps (wsV RX4 75 RX4 yX4_chosen wsX4_chosen) := goodIn_app (goodIn_of _ (by decide +kernel)) ggX4_steps_X4_chosen
set_option maxRecDepth 20000 in
theorem ggX4_steps_X4_puts : GoodIn wsX4_steps wsX4_puts := goodIn_r _ [23, 2, 58, 59, 60, 61, 62, 63, 64, 65] (by decide +kernel) (by decide +kernel)
set_option maxRecDepth 20000 in
theorem gX4_steps_X4_puts : GoodIn wsX4_steps (wsV RX4 60 RX4 yX4_puts wsX4_puts) := goodIn_app (goodIn_of _ (by decide +kernel)) ggX4_steps_X4_puts
set_option maxRecDepth 20000 in
theorem ggX4_steps_X4_isKept : GoodIn wsX4_steps wsX4_isKept := goodIn_r _ [27, 9, 10, 11, 7, 12, 2, 58, 59, 60, 61, 62, 63, 64, 65] (by decide +kernel) (by decide +kernel)
set_option maxRecDepth 20000 in
theorem gX4_steps_X4_isKept : GoodIn wsX4_steps (wsV RX4 49 RX4 yX4_isKept wsX4_isKept) := goodIn_app (goodIn_of _ (by decide +kernel)) ggX4_steps_X4_isKept
set_option maxRecDepth 20000 in
theorem ggX4_steps_X4_arePartners : GoodIn wsX4_steps wsX4_arePartners := goodIn_r _ [31, 9, 10, 11, 7, 12, 2, 32, 33, 34, 35, 36, 37, 38, 39, 40, 41, 42, 58, 59, 60, 61, 62, 63, 64, 65] (by decide +kernel) (by decide +kernel)
set_option maxRecDepth 20000 in
theorem gX4_steps_X4_arePartners : GoodIn wsX4_steps (wsV RX4 79 RX4 yX4_arePartners wsX4_arePartners) := goodIn_app (goodIn_of _ (by decide +kernel)) ggX4_steps_X4_arePartners
set_option maxRecDepth 20000 in
theorem ggX4_steps_X4_resolves : GoodIn wsX4_steps wsX4_resolves := goodIn_r _ [46, 9, 10, 11, 7, 12, 2, 32, 33, 34, 35, 36, 37, 38, 39, 40, 41, 42, 47, 48, 49, 50, 3, 51, 52, 53, 54, 55, 56, 57, 24, 25, 26, 27, 20, 21, 22, 23, 58, 59, 60, 61, 62, 63, 64, 65] (by decide +kernel) (by decide +kernel)
set_option maxRecDepth 20000 in
theorem gX4_steps_X4_resolves : GoodIn wsX4_steps (wsV RX4 82 RX4 yX4_resolves wsX4_resolves) := goodIn_app (goodIn_of _ (by decide +kernel)) ggX4_steps_X4_resolves
set_option maxRecDepth 20000 in
theorem ggX4_steps_X4_of : GoodIn wsX4_steps wsX4_of := goodIn_r _ [12, 2, 58, 59, 60, 61, 62, 63, 64, 65] (by decide +kernel) (by decide +kernel)
set_option maxRecDepth 20000 in
theorem gX4_steps_X4_of : GoodIn wsX4_steps (wsV RX4 34 RX4 yX4_of wsX4_of) := goodIn_app (goodIn_of _ (by decide +kernel)) ggX4_steps_X4_of
theorem dX4_steps_0 : decode cX4_steps 0 = .ok (.aload_n 0, 1) := by decide +kernel
theorem dX4_steps_1 : decode cX4_steps 1 = .ok (.invokevirtual 75, 3) := by decide +kernel
theorem dX4_steps_4 : decode cX4_steps 4 = .ok (.istore_n 1, 1) := by decide +kernel
theorem dX4_steps_5 : decode cX4_steps 5 = .ok (.iload_n 1, 1) := by decide +kernel
theorem dX4_steps_6 : decode cX4_steps 6 = .ok (.ifCond .ge 6, 3) := by decide +kernel
theorem dX4_steps_9 : decode cX4_steps 9 = .ok (.ldc 78, 2) := by decide +kernel
theorem dX4_steps_11 : decode cX4_steps 11 = .ok (.ireturn, 1) := by decide +kernel
theorem dX4_steps_12 : decode cX4_steps 12 = .ok (.aload_n 0, 1) := by decide +kernel
theorem dX4_steps_13 : decode cX4_steps 13 = .ok (.iload_n 1, 1) := by decide +kernel
theorem dX4_steps_14 : decode cX4_steps 14 = .ok (.iconst 1, 1) := by decide +kernel
theorem dX4_steps_15 : decode cX4_steps 15 = .ok (.iconst 1, 1) := by decide +kernel
theorem dX4_steps_16 : decode cX4_steps 16 = .ok (.invokevirtual 60, 3) := by decide +kernel
theorem dX4_steps_19 : decode cX4_steps 19 = .ok (.aload_n 0, 1) := by decide +kernel
theorem dX4_steps_20 : decode cX4_steps 20 = .ok (.getfield 7, 3) := by decide +kernel
theorem dX4_steps_23 : decode cX4_steps 23 = .ok (.iconst 1, 1) := by decide +kernel
theorem dX4_steps_24 : decode cX4_steps 24 = .ok (.dup2, 1) := by decide +kernel
theorem dX4_steps_25 : decode cX4_steps 25 = .ok (.iaload, 1) := by decide +kernel
theorem dX4_steps_26 : decode cX4_steps 26 = .ok (.iconst 1, 1) := by decide +kernel
theorem dX4_steps_27 : decode cX4_steps 27 = .ok (.iadd, 1) := by decide +kernel
theorem dX4_steps_28 : decode cX4_steps 28 = .ok (.iastore, 1) := by decide +kernel
theorem dX4_steps_29 : decode cX4_steps 29 = .ok (.aload_n 0, 1) := by decide +kernel
theorem dX4_steps_30 : decode cX4_steps 30 = .ok (.getfield 7, 3) := by decide +kernel
theorem dX4_steps_33 : decode cX4_steps 33 = .ok (.iconst 0, 1) := by decide +kernel
theorem dX4_steps_34 : decode cX4_steps 34 = .ok (.iaload, 1) := by decide +kernel
theorem dX4_steps_35 : decode cX4_steps 35 = .ok (.istore_n 2, 1) := by decide +kernel
theorem dX4_steps_36 : decode cX4_steps 36 = .ok (.iconst 0, 1) := by decide +kernel
theorem dX4_steps_37 : decode cX4_steps 37 = .ok (.istore_n 3, 1) := by decide +kernel
theorem dX4_steps_38 : decode cX4_steps 38 = .ok (.iload_n 3, 1) := by decide +kernel
theorem dX4_steps_39 : decode cX4_steps 39 = .ok (.iload_n 2, 1) := by decide +kernel
theorem dX4_steps_40 : decode cX4_steps 40 = .ok (.if_icmp .ge 65, 3) := by decide +kernel
theorem dX4_steps_43 : decode cX4_steps 43 = .ok (.aload_n 0, 1) := by decide +kernel
theorem dX4_steps_44 : decode cX4_steps 44 = .ok (.iload_n 1, 1) := by decide +kernel
theorem dX4_steps_45 : decode cX4_steps 45 = .ok (.invokevirtual 49, 3) := by decide +kernel
theorem dX4_steps_48 : decode cX4_steps 48 = .ok (.ifCond .eq 57, 3) := by decide +kernel
theorem dX4_steps_51 : decode cX4_steps 51 = .ok (.aload_n 0, 1) := by decide +kernel
theorem dX4_steps_52 : decode cX4_steps 52 = .ok (.iload_n 1, 1) := by decide +kernel
theorem dX4_steps_53 : decode cX4_steps 53 = .ok (.iload_n 3, 1) := by decide +kernel
theorem dX4_steps_54 : decode cX4_steps 54 = .ok (.invokevirtual 79, 3) := by decide +kernel
theorem dX4_steps_57 : decode cX4_steps 57 = .ok (.ifCond .eq 12, 3) := by decide +kernel
theorem dX4_steps_60 : decode cX4_steps 60 = .ok (.aload_n 0, 1) := by decide +kernel
theorem dX4_steps_61 : decode cX4_steps 61 = .ok (.iload_n 1, 1) := by decide +kernel
theorem dX4_steps_62 : decode cX4_steps 62 = .ok (.iload_n 3, 1) := by decide +kernel
theorem dX4_steps_63 : decode cX4_steps 63 = .ok (.invokevirtual 82, 3) := by decide +kernel
theorem dX4_steps_66 : decode cX4_steps 66 = .ok (.goto 4, 3) := by decide +kernel
theorem dX4_steps_69 : decode cX4_steps 69 = .ok (.iconst (-1), 1) := by decide +kernel
theorem dX4_steps_70 : decode cX4_steps 70 = .ok (.istore 4, 2) := by decide +kernel
theorem dX4_steps_72 : decode cX4_steps 72 = .ok (.iload 4, 2) := by decide +kernel
theorem dX4_steps_74 : decode cX4_steps 74 = .ok (.ldc 59, 2) := by decide +kernel
theorem dX4_steps_76 : decode cX4_steps 76 = .ok (.if_icmp .ne 6, 3) := by decide +kernel
theorem dX4_steps_79 : decode cX4_steps 79 = .ok (.iload 4, 2) := by decide +kernel
theorem dX4_steps_81 : decode cX4_steps 81 = .ok (.ireturn, 1) := by decide +kernel
theorem dX4_steps_82 : decode cX4_steps 82 = .ok (.iload 4, 2) := by decide +kernel
theorem dX4_steps_84 : decode cX4_steps 84 = .ok (.ifCond .lt 15, 3) := by decide +kernel
theorem dX4_steps_87 : decode cX4_steps 87 = .ok (.aload_n 0, 1) := by decide +kernel
theorem dX4_steps_88 : decode cX4_steps 88 = .ok (.iload 4, 2) := by decide +kernel
theorem dX4_steps_90 : decode cX4_steps 90 = .ok (.iconst 0, 1) := by decide +kernel
theorem dX4_steps_91 : decode cX4_steps 91 = .ok (.invokevirtual 34, 3) := by decide +kernel
theorem dX4_steps_94 : decode cX4_steps 94 = .ok (.ifCond .ne 5, 3) := by decide +kernel
theorem dX4_steps_97 : decode cX4_steps 97 = .ok (.iload_n 1, 1) := by decide +kernel
theorem dX4_steps_98 : decode cX4_steps 98 = .ok (.ireturn, 1) := by decide +kernel
theorem dX4_steps_99 : decode cX4_steps 99 = .ok (.iinc 3 1, 3) := by decide +kernel
theorem dX4_steps_102 : decode cX4_steps 102 = .ok (.goto (-64), 3) := by decide +kernel
theorem dX4_steps_105 : decode cX4_steps 105 = .ok (.iload_n 1, 1) := by decide +kernel
theorem dX4_steps_106 : decode cX4_steps 106 = .ok (.ireturn, 1) := by decide +kernel
set_option maxRecDepth 20000 in
theorem ggX4_runs_X4_steps : GoodIn wsX4_runs wsX4_steps := goodIn_r _ [7, 2, 8, 1, 9, 10, 11, 6, 12, 13, 14, 15, 16, 17, 18, 19, 20, 21, 22, 23, 24, 25, 26, 27, 28, 29, 30, 31, 32, 33, 34, 35, 36, 37, 38, 39, 40, 41, 42, 43, 44, 45, 46, 47, 48, 49, 50, 51, 52, 53, 54, 55, 56, 57, 58, 59, 60, 61, 62, 63, 64, 65, 66, 67, 68, 69] (by decide +kernel) (by decide +kernel)
set_option maxRecDepth 20000 in
theorem gX4_runs_X4_steps : GoodIn wsX4_runs (wsV RX4 85 RX4 yX4_steps wsX4_steps) := goodIn_app (goodIn_of _ (by decide +kernel)) ggX4_runs_X4_steps
theorem dX4_runs_0 : decode cX4_runs 0 = .ok (.iconst 0, 1) := by decide +kernel
theorem dX4_runs_1 : decode cX4_runs 1 = .ok (.istore_n 2, 1) := by decide +kernel
theorem dX4_runs_2 : decode cX4_runs 2 = .ok (.iload_n 2, 1) := by decide +kernel
theorem dX4_runs_3 : decode cX4_runs 3 = .ok (.iload_n 1, 1) := by decide +kernel
theorem dX4_runs_4 : decode cX4_runs 4 = .ok (.if_icmp .ge 30, 3) := by decide +kernel
theorem dX4_runs_7 : decode cX4_runs 7 = .ok (.aload_n 0, 1) := by decide +kernel
theorem dX4_runs_8 : decode cX4_runs 8 = .ok (.invokevirtual 85, 3) := by decide +kernel
theorem dX4_runs_11 : decode cX4_runs 11 = .ok (.istore_n 3, 1) := by decide +kernel
theorem dX4_runs_12 : decode cX4_runs 12 = .ok (.iload_n 3, 1) := by decide +kernel
theorem dX4_runs_13 : decode cX4_runs 13 = .ok (.ldc 59, 2) := by decide +kernel
theorem dX4_runs_15 : decode cX4_runs 15 = .ok (.if_icmp .ne 5, 3) := by decide +kernel
theorem dX4_runs_18 : decode cX4_runs 18 = .ok (.iload_n 3, 1) := by decide +kernel
theorem dX4_runs_19 : decode cX4_runs 19 = .ok (.ireturn, 1) := by decide +kernel
theorem dX4_runs_20 : decode cX4_runs 20 = .ok (.iload_n 3, 1) := by decide +kernel
theorem dX4_runs_21 : decode cX4_runs 21 = .ok (.ldc 78, 2) := by decide +kernel
theorem dX4_runs_23 : decode cX4_runs 23 = .ok (.if_icmp .ne 5, 3) := by decide +kernel
theorem dX4_runs_26 : decode cX4_runs 26 = .ok (.iload_n 2, 1) := by decide +kernel
theorem dX4_runs_27 : decode cX4_runs 27 = .ok (.ireturn, 1) := by decide +kernel
theorem dX4_runs_28 : decode cX4_runs 28 = .ok (.iinc 2 1, 3) := by decide +kernel
theorem dX4_runs_31 : decode cX4_runs 31 = .ok (.goto (-29), 3) := by decide +kernel
theorem dX4_runs_34 : decode cX4_runs 34 = .ok (.iload_n 1, 1) := by decide +kernel
theorem dX4_runs_35 : decode cX4_runs 35 = .ok (.ireturn, 1) := by decide +kernel
set_option maxRecDepth 20000 in
theorem ggX4_ranks_X4_of : GoodIn wsX4_ranks wsX4_of := goodIn_r _ [6, 1, 11, 12, 13, 14, 15, 16, 17, 18] (by decide +kernel) (by decide +kernel)
set_option maxRecDepth 20000 in
theorem gX4_ranks_X4_of : GoodIn wsX4_ranks (wsV RX4 34 RX4 yX4_of wsX4_of) := goodIn_app (goodIn_of _ (by decide +kernel)) ggX4_ranks_X4_of
set_option maxRecDepth 20000 in
theorem ggX4_ranks_X4_puts : GoodIn wsX4_ranks wsX4_puts := goodIn_r _ [10, 1, 11, 12, 13, 14, 15, 16, 17, 18] (by decide +kernel) (by decide +kernel)
set_option maxRecDepth 20000 in
theorem gX4_ranks_X4_puts : GoodIn wsX4_ranks (wsV RX4 60 RX4 yX4_puts wsX4_puts) := goodIn_app (goodIn_of _ (by decide +kernel)) ggX4_ranks_X4_puts
theorem dX4_ranks_0 : decode cX4_ranks 0 = .ok (.aload_n 0, 1) := by decide +kernel
theorem dX4_ranks_1 : decode cX4_ranks 1 = .ok (.getfield 7, 3) := by decide +kernel
theorem dX4_ranks_4 : decode cX4_ranks 4 = .ok (.iconst 5, 1) := by decide +kernel
theorem dX4_ranks_5 : decode cX4_ranks 5 = .ok (.iload_n 1, 1) := by decide +kernel
theorem dX4_ranks_6 : decode cX4_ranks 6 = .ok (.iadd, 1) := by decide +kernel
theorem dX4_ranks_7 : decode cX4_ranks 7 = .ok (.iaload, 1) := by decide +kernel
theorem dX4_ranks_8 : decode cX4_ranks 8 = .ok (.istore_n 3, 1) := by decide +kernel
theorem dX4_ranks_9 : decode cX4_ranks 9 = .ok (.iconst 0, 1) := by decide +kernel
theorem dX4_ranks_10 : decode cX4_ranks 10 = .ok (.istore 4, 2) := by decide +kernel
theorem dX4_ranks_12 : decode cX4_ranks 12 = .ok (.iload 4, 2) := by decide +kernel
theorem dX4_ranks_14 : decode cX4_ranks 14 = .ok (.bipush 6, 2) := by decide +kernel
theorem dX4_ranks_16 : decode cX4_ranks 16 = .ok (.if_icmp .ge 44, 3) := by decide +kernel
theorem dX4_ranks_19 : decode cX4_ranks 19 = .ok (.aload_n 0, 1) := by decide +kernel
theorem dX4_ranks_20 : decode cX4_ranks 20 = .ok (.getfield 7, 3) := by decide +kernel
theorem dX4_ranks_23 : decode cX4_ranks 23 = .ok (.iconst 5, 1) := by decide +kernel
theorem dX4_ranks_24 : decode cX4_ranks 24 = .ok (.iload 4, 2) := by decide +kernel
theorem dX4_ranks_26 : decode cX4_ranks 26 = .ok (.iadd, 1) := by decide +kernel
theorem dX4_ranks_27 : decode cX4_ranks 27 = .ok (.aload_n 0, 1) := by decide +kernel
theorem dX4_ranks_28 : decode cX4_ranks 28 = .ok (.getfield 7, 3) := by decide +kernel
theorem dX4_ranks_31 : decode cX4_ranks 31 = .ok (.iconst 5, 1) := by decide +kernel
theorem dX4_ranks_32 : decode cX4_ranks 32 = .ok (.iload 4, 2) := by decide +kernel
theorem dX4_ranks_34 : decode cX4_ranks 34 = .ok (.iadd, 1) := by decide +kernel
theorem dX4_ranks_35 : decode cX4_ranks 35 = .ok (.iaload, 1) := by decide +kernel
theorem dX4_ranks_36 : decode cX4_ranks 36 = .ok (.iload_n 2, 1) := by decide +kernel
theorem dX4_ranks_37 : decode cX4_ranks 37 = .ok (.if_icmp .ne 7, 3) := by decide +kernel
theorem dX4_ranks_40 : decode cX4_ranks 40 = .ok (.iload_n 3, 1) := by decide +kernel
theorem dX4_ranks_41 : decode cX4_ranks 41 = .ok (.goto 12, 3) := by decide +kernel
theorem dX4_ranks_44 : decode cX4_ranks 44 = .ok (.aload_n 0, 1) := by decide +kernel
theorem dX4_ranks_45 : decode cX4_ranks 45 = .ok (.getfield 7, 3) := by decide +kernel
theorem dX4_ranks_48 : decode cX4_ranks 48 = .ok (.iconst 5, 1) := by decide +kernel
theorem dX4_ranks_49 : decode cX4_ranks 49 = .ok (.iload 4, 2) := by decide +kernel
theorem dX4_ranks_51 : decode cX4_ranks 51 = .ok (.iadd, 1) := by decide +kernel
theorem dX4_ranks_52 : decode cX4_ranks 52 = .ok (.iaload, 1) := by decide +kernel
theorem dX4_ranks_53 : decode cX4_ranks 53 = .ok (.iastore, 1) := by decide +kernel
theorem dX4_ranks_54 : decode cX4_ranks 54 = .ok (.iinc 4 1, 3) := by decide +kernel
theorem dX4_ranks_57 : decode cX4_ranks 57 = .ok (.goto (-45), 3) := by decide +kernel
end
section
theorem dX4_ranks_60 : decode cX4_ranks 60 = .ok (.aload_n 0, 1) := by decide +kernel
theorem dX4_ranks_61 : decode cX4_ranks 61 = .ok (.getfield 7, 3) := by decide +kernel
theorem dX4_ranks_64 : decode cX4_ranks 64 = .ok (.iconst 5, 1) := by decide +kernel
theorem dX4_ranks_65 : decode cX4_ranks 65 = .ok (.iload_n 1, 1) := by decide +kernel
theorem dX4_ranks_66 : decode cX4_ranks 66 = .ok (.iadd, 1) := by decide +kernel
theorem dX4_ranks_67 : decode cX4_ranks 67 = .ok (.iload_n 2, 1) := by decide +kernel
theorem dX4_ranks_68 : decode cX4_ranks 68 = .ok (.iastore, 1) := by decide +kernel
theorem dX4_ranks_69 : decode cX4_ranks 69 = .ok (.iconst 0, 1) := by decide +kernel
theorem dX4_ranks_70 : decode cX4_ranks 70 = .ok (.istore 4, 2) := by decide +kernel
theorem dX4_ranks_72 : decode cX4_ranks 72 = .ok (.iload 4, 2) := by decide +kernel
theorem dX4_ranks_74 : decode cX4_ranks 74 = .ok (.aload_n 0, 1) := by decide +kernel
theorem dX4_ranks_75 : decode cX4_ranks 75 = .ok (.getfield 7, 3) := by decide +kernel
theorem dX4_ranks_78 : decode cX4_ranks 78 = .ok (.iconst 0, 1) := by decide +kernel
theorem dX4_ranks_79 : decode cX4_ranks 79 = .ok (.iaload, 1) := by decide +kernel
theorem dX4_ranks_80 : decode cX4_ranks 80 = .ok (.if_icmp .ge 38, 3) := by decide +kernel
theorem dX4_ranks_83 : decode cX4_ranks 83 = .ok (.aload_n 0, 1) := by decide +kernel
theorem dX4_ranks_84 : decode cX4_ranks 84 = .ok (.iload 4, 2) := by decide +kernel
theorem dX4_ranks_86 : decode cX4_ranks 86 = .ok (.iconst 1, 1) := by decide +kernel
theorem dX4_ranks_87 : decode cX4_ranks 87 = .ok (.aload_n 0, 1) := by decide +kernel
theorem dX4_ranks_88 : decode cX4_ranks 88 = .ok (.iload 4, 2) := by decide +kernel
theorem dX4_ranks_90 : decode cX4_ranks 90 = .ok (.iconst 1, 1) := by decide +kernel
theorem dX4_ranks_91 : decode cX4_ranks 91 = .ok (.invokevirtual 34, 3) := by decide +kernel
theorem dX4_ranks_94 : decode cX4_ranks 94 = .ok (.iconst 1, 1) := by decide +kernel
theorem dX4_ranks_95 : decode cX4_ranks 95 = .ok (.if_icmp .ne 7, 3) := by decide +kernel
theorem dX4_ranks_98 : decode cX4_ranks 98 = .ok (.iconst 0, 1) := by decide +kernel
theorem dX4_ranks_99 : decode cX4_ranks 99 = .ok (.goto 10, 3) := by decide +kernel
theorem dX4_ranks_102 : decode cX4_ranks 102 = .ok (.aload_n 0, 1) := by decide +kernel
theorem dX4_ranks_103 : decode cX4_ranks 103 = .ok (.iload 4, 2) := by decide +kernel
theorem dX4_ranks_105 : decode cX4_ranks 105 = .ok (.iconst 1, 1) := by decide +kernel
theorem dX4_ranks_106 : decode cX4_ranks 106 = .ok (.invokevirtual 34, 3) := by decide +kernel
theorem dX4_ranks_109 : decode cX4_ranks 109 = .ok (.invokevirtual 60, 3) := by decide +kernel
theorem dX4_ranks_112 : decode cX4_ranks 112 = .ok (.iinc 4 1, 3) := by decide +kernel
theorem dX4_ranks_115 : decode cX4_ranks 115 = .ok (.goto (-43), 3) := by decide +kernel
theorem dX4_ranks_118 : decode cX4_ranks 118 = .ok (.iload_n 3, 1) := by decide +kernel
theorem dX4_ranks_119 : decode cX4_ranks 119 = .ok (.ireturn, 1) := by decide +kernel
theorem dX4_clears_0 : decode cX4_clears 0 = .ok (.aload_n 0, 1) := by decide +kernel
theorem dX4_clears_1 : decode cX4_clears 1 = .ok (.getfield 7, 3) := by decide +kernel
theorem dX4_clears_4 : decode cX4_clears 4 = .ok (.iconst 0, 1) := by decide +kernel
theorem dX4_clears_5 : decode cX4_clears 5 = .ok (.iaload, 1) := by decide +kernel
theorem dX4_clears_6 : decode cX4_clears 6 = .ok (.istore_n 1, 1) := by decide +kernel
theorem dX4_clears_7 : decode cX4_clears 7 = .ok (.bipush 11, 2) := by decide +kernel
theorem dX4_clears_9 : decode cX4_clears 9 = .ok (.istore_n 2, 1) := by decide +kernel
theorem dX4_clears_10 : decode cX4_clears 10 = .ok (.iload_n 2, 1) := by decide +kernel
theorem dX4_clears_11 : decode cX4_clears 11 = .ok (.sipush 251, 3) := by decide +kernel
theorem dX4_clears_14 : decode cX4_clears 14 = .ok (.if_icmp .ge 16, 3) := by decide +kernel
theorem dX4_clears_17 : decode cX4_clears 17 = .ok (.aload_n 0, 1) := by decide +kernel
theorem dX4_clears_18 : decode cX4_clears 18 = .ok (.getfield 7, 3) := by decide +kernel
theorem dX4_clears_21 : decode cX4_clears 21 = .ok (.iload_n 2, 1) := by decide +kernel
theorem dX4_clears_22 : decode cX4_clears 22 = .ok (.iconst 0, 1) := by decide +kernel
theorem dX4_clears_23 : decode cX4_clears 23 = .ok (.iastore, 1) := by decide +kernel
theorem dX4_clears_24 : decode cX4_clears 24 = .ok (.iinc 2 1, 3) := by decide +kernel
theorem dX4_clears_27 : decode cX4_clears 27 = .ok (.goto (-17), 3) := by decide +kernel
theorem dX4_clears_30 : decode cX4_clears 30 = .ok (.aload_n 0, 1) := by decide +kernel
theorem dX4_clears_31 : decode cX4_clears 31 = .ok (.getfield 7, 3) := by decide +kernel
theorem dX4_clears_34 : decode cX4_clears 34 = .ok (.iconst 0, 1) := by decide +kernel
theorem dX4_clears_35 : decode cX4_clears 35 = .ok (.iconst 0, 1) := by decide +kernel
theorem dX4_clears_36 : decode cX4_clears 36 = .ok (.iastore, 1) := by decide +kernel
theorem dX4_clears_37 : decode cX4_clears 37 = .ok (.aload_n 0, 1) := by decide +kernel
theorem dX4_clears_38 : decode cX4_clears 38 = .ok (.getfield 7, 3) := by decide +kernel
theorem dX4_clears_41 : decode cX4_clears 41 = .ok (.iconst 1, 1) := by decide +kernel
theorem dX4_clears_42 : decode cX4_clears 42 = .ok (.iconst 0, 1) := by decide +kernel
theorem dX4_clears_43 : decode cX4_clears 43 = .ok (.iastore, 1) := by decide +kernel
theorem dX4_clears_44 : decode cX4_clears 44 = .ok (.iload_n 1, 1) := by decide +kernel
theorem dX4_clears_45 : decode cX4_clears 45 = .ok (.ireturn, 1) := by decide +kernel
set_option maxRecDepth 20000 in
theorem ggX4_tell_X4_begins : GoodIn wsX4_tell wsX4_begins := goodIn_r _ [6, 7, 8, 46, 47, 48, 49, 50, 51, 52, 53] (by decide +kernel) (by decide +kernel)
set_option maxRecDepth 20000 in
theorem gX4_tell_X4_begins : GoodIn wsX4_tell (wsV RX4 88 RX4 yX4_begins wsX4_begins) := goodIn_app (goodIn_of _ (by decide +kernel)) ggX4_tell_X4_begins
set_option maxRecDepth 20000 in
theorem ggX4_tell_X4_in : GoodIn wsX4_tell wsX4_in := goodIn_r _ [11] (by decide +kernel) (by decide +kernel)
set_option maxRecDepth 20000 in
theorem gX4_tell_X4_in : GoodIn wsX4_tell (va_wsS RX4 30 yX4_in wsX4_in) := goodIn_app (goodIn_of _ (by decide +kernel)) ggX4_tell_X4_in
set_option maxRecDepth 20000 in
theorem ggX4_tell_X4_comes : GoodIn wsX4_tell wsX4_comes := goodIn_r _ [15, 8, 16, 17, 18, 5, 19, 20, 21, 22, 23, 24, 25, 26, 27, 28, 29, 30, 31, 32, 33, 34, 35, 46, 47, 48, 49, 50, 51, 52, 53] (by decide +kernel) (by decide +kernel)
set_option maxRecDepth 20000 in
theorem gX4_tell_X4_comes : GoodIn wsX4_tell (wsV RX4 71 RX4 yX4_comes wsX4_comes) := goodIn_app (goodIn_of _ (by decide +kernel)) ggX4_tell_X4_comes
set_option maxRecDepth 20000 in
theorem ggX4_tell_X4_acted : GoodIn wsX4_tell wsX4_acted := goodIn_r _ [39, 1, 40, 41, 7, 42, 43, 44, 5, 45, 8, 46, 47, 48, 49, 50, 51, 52, 53] (by decide +kernel) (by decide +kernel)
set_option maxRecDepth 20000 in
theorem gX4_tell_X4_acted : GoodIn wsX4_tell (wsV RX4 91 RX4 yX4_acted wsX4_acted) := goodIn_app (goodIn_of _ (by decide +kernel)) ggX4_tell_X4_acted
theorem dX4_tell_0 : decode cX4_tell 0 = .ok (.aload_n 0, 1) := by decide +kernel
theorem dX4_tell_1 : decode cX4_tell 1 = .ok (.invokevirtual 88, 3) := by decide +kernel
theorem dX4_tell_4 : decode cX4_tell 4 = .ok (.aload_n 0, 1) := by decide +kernel
theorem dX4_tell_5 : decode cX4_tell 5 = .ok (.iload_n 1, 1) := by decide +kernel
theorem dX4_tell_6 : decode cX4_tell 6 = .ok (.iconst 0, 1) := by decide +kernel
theorem dX4_tell_7 : decode cX4_tell 7 = .ok (.sipush 4095, 3) := by decide +kernel
theorem dX4_tell_10 : decode cX4_tell 10 = .ok (.invokestatic 30, 3) := by decide +kernel
theorem dX4_tell_13 : decode cX4_tell 13 = .ok (.ifCond .eq 14, 3) := by decide +kernel
theorem dX4_tell_16 : decode cX4_tell 16 = .ok (.aload_n 0, 1) := by decide +kernel
theorem dX4_tell_17 : decode cX4_tell 17 = .ok (.iload_n 1, 1) := by decide +kernel
theorem dX4_tell_18 : decode cX4_tell 18 = .ok (.iconst (-1), 1) := by decide +kernel
theorem dX4_tell_19 : decode cX4_tell 19 = .ok (.iconst (-1), 1) := by decide +kernel
theorem dX4_tell_20 : decode cX4_tell 20 = .ok (.iconst (-1), 1) := by decide +kernel
theorem dX4_tell_21 : decode cX4_tell 21 = .ok (.invokevirtual 71, 3) := by decide +kernel
theorem dX4_tell_24 : decode cX4_tell 24 = .ok (.goto 5, 3) := by decide +kernel
theorem dX4_tell_27 : decode cX4_tell 27 = .ok (.ldc 22, 2) := by decide +kernel
theorem dX4_tell_29 : decode cX4_tell 29 = .ok (.invokevirtual 91, 3) := by decide +kernel
theorem dX4_tell_32 : decode cX4_tell 32 = .ok (.ireturn, 1) := by decide +kernel
set_option maxRecDepth 20000 in
theorem ggX4_rank_X4_begins : GoodIn wsX4_rank wsX4_begins := goodIn_r _ [6, 7, 8, 34, 35, 36, 37, 38, 39, 40, 41] (by decide +kernel) (by decide +kernel)
set_option maxRecDepth 20000 in
theorem gX4_rank_X4_begins : GoodIn wsX4_rank (wsV RX4 88 RX4 yX4_begins wsX4_begins) := goodIn_app (goodIn_of _ (by decide +kernel)) ggX4_rank_X4_begins
set_option maxRecDepth 20000 in
theorem ggX4_rank_X4_in : GoodIn wsX4_rank wsX4_in := goodIn_r _ [11] (by decide +kernel) (by decide +kernel)
set_option maxRecDepth 20000 in
theorem gX4_rank_X4_in : GoodIn wsX4_rank (va_wsS RX4 30 yX4_in wsX4_in) := goodIn_app (goodIn_of _ (by decide +kernel)) ggX4_rank_X4_in
set_option maxRecDepth 20000 in
theorem ggX4_rank_X4_ranks : GoodIn wsX4_rank wsX4_ranks := goodIn_r _ [15, 8, 16, 17, 18, 5, 19, 20, 21, 22, 23, 34, 35, 36, 37, 38, 39, 40, 41] (by decide +kernel) (by decide +kernel)
set_option maxRecDepth 20000 in
theorem gX4_rank_X4_ranks : GoodIn wsX4_rank (wsV RX4 94 RX4 yX4_ranks wsX4_ranks) := goodIn_app (goodIn_of _ (by decide +kernel)) ggX4_rank_X4_ranks
set_option maxRecDepth 20000 in
theorem ggX4_rank_X4_acted : GoodIn wsX4_rank wsX4_acted := goodIn_r _ [27, 1, 28, 29, 7, 30, 31, 32, 5, 33, 8, 34, 35, 36, 37, 38, 39, 40, 41] (by decide +kernel) (by decide +kernel)
set_option maxRecDepth 20000 in
theorem gX4_rank_X4_acted : GoodIn wsX4_rank (wsV RX4 91 RX4 yX4_acted wsX4_acted) := goodIn_app (goodIn_of _ (by decide +kernel)) ggX4_rank_X4_acted
theorem dX4_rank_0 : decode cX4_rank 0 = .ok (.aload_n 0, 1) := by decide +kernel
theorem dX4_rank_1 : decode cX4_rank 1 = .ok (.invokevirtual 88, 3) := by decide +kernel
theorem dX4_rank_4 : decode cX4_rank 4 = .ok (.aload_n 0, 1) := by decide +kernel
theorem dX4_rank_5 : decode cX4_rank 5 = .ok (.iload_n 1, 1) := by decide +kernel
theorem dX4_rank_6 : decode cX4_rank 6 = .ok (.iconst 0, 1) := by decide +kernel
theorem dX4_rank_7 : decode cX4_rank 7 = .ok (.iconst 5, 1) := by decide +kernel
theorem dX4_rank_8 : decode cX4_rank 8 = .ok (.invokestatic 30, 3) := by decide +kernel
theorem dX4_rank_11 : decode cX4_rank 11 = .ok (.ifCond .eq 21, 3) := by decide +kernel
theorem dX4_rank_14 : decode cX4_rank 14 = .ok (.iload_n 2, 1) := by decide +kernel
theorem dX4_rank_15 : decode cX4_rank 15 = .ok (.iconst 0, 1) := by decide +kernel
theorem dX4_rank_16 : decode cX4_rank 16 = .ok (.iconst 5, 1) := by decide +kernel
theorem dX4_rank_17 : decode cX4_rank 17 = .ok (.invokestatic 30, 3) := by decide +kernel
theorem dX4_rank_20 : decode cX4_rank 20 = .ok (.ifCond .eq 12, 3) := by decide +kernel
theorem dX4_rank_23 : decode cX4_rank 23 = .ok (.aload_n 0, 1) := by decide +kernel
theorem dX4_rank_24 : decode cX4_rank 24 = .ok (.iload_n 1, 1) := by decide +kernel
theorem dX4_rank_25 : decode cX4_rank 25 = .ok (.iload_n 2, 1) := by decide +kernel
theorem dX4_rank_26 : decode cX4_rank 26 = .ok (.invokevirtual 94, 3) := by decide +kernel
theorem dX4_rank_29 : decode cX4_rank 29 = .ok (.goto 5, 3) := by decide +kernel
theorem dX4_rank_32 : decode cX4_rank 32 = .ok (.ldc 22, 2) := by decide +kernel
theorem dX4_rank_34 : decode cX4_rank 34 = .ok (.invokevirtual 91, 3) := by decide +kernel
theorem dX4_rank_37 : decode cX4_rank 37 = .ok (.ireturn, 1) := by decide +kernel
set_option maxRecDepth 20000 in
theorem ggX4_set_X4_begins : GoodIn wsX4_set wsX4_begins := goodIn_r _ [7, 8, 1, 22, 23, 24, 25, 26, 27, 28, 29] (by decide +kernel) (by decide +kernel)
set_option maxRecDepth 20000 in
theorem gX4_set_X4_begins : GoodIn wsX4_set (wsV RX4 88 RX4 yX4_begins wsX4_begins) := goodIn_app (goodIn_of _ (by decide +kernel)) ggX4_set_X4_begins
set_option maxRecDepth 20000 in
theorem ggX4_set_X4_in : GoodIn wsX4_set wsX4_in := goodIn_r _ [11] (by decide +kernel) (by decide +kernel)
set_option maxRecDepth 20000 in
theorem gX4_set_X4_in : GoodIn wsX4_set (va_wsS RX4 30 yX4_in wsX4_in) := goodIn_app (goodIn_of _ (by decide +kernel)) ggX4_set_X4_in
set_option maxRecDepth 20000 in
theorem ggX4_set_X4_acted : GoodIn wsX4_set wsX4_acted := goodIn_r _ [15, 2, 16, 17, 8, 18, 19, 20, 6, 21, 1, 22, 23, 24, 25, 26, 27, 28, 29] (by decide +kernel) (by decide +kernel)
set_option maxRecDepth 20000 in
theorem gX4_set_X4_acted : GoodIn wsX4_set (wsV RX4 91 RX4 yX4_acted wsX4_acted) := goodIn_app (goodIn_of _ (by decide +kernel)) ggX4_set_X4_acted
theorem dX4_set_0 : decode cX4_set 0 = .ok (.aload_n 0, 1) := by decide +kernel
theorem dX4_set_1 : decode cX4_set 1 = .ok (.invokevirtual 88, 3) := by decide +kernel
theorem dX4_set_4 : decode cX4_set 4 = .ok (.aload_n 0, 1) := by decide +kernel
theorem dX4_set_5 : decode cX4_set 5 = .ok (.getfield 7, 3) := by decide +kernel
theorem dX4_set_8 : decode cX4_set 8 = .ok (.iconst 2, 1) := by decide +kernel
theorem dX4_set_9 : decode cX4_set 9 = .ok (.iaload, 1) := by decide +kernel
theorem dX4_set_10 : decode cX4_set 10 = .ok (.istore_n 2, 1) := by decide +kernel
theorem dX4_set_11 : decode cX4_set 11 = .ok (.aload_n 0, 1) := by decide +kernel
theorem dX4_set_12 : decode cX4_set 12 = .ok (.getfield 7, 3) := by decide +kernel
theorem dX4_set_15 : decode cX4_set 15 = .ok (.iconst 2, 1) := by decide +kernel
theorem dX4_set_16 : decode cX4_set 16 = .ok (.iload_n 1, 1) := by decide +kernel
theorem dX4_set_17 : decode cX4_set 17 = .ok (.iconst 1, 1) := by decide +kernel
theorem dX4_set_18 : decode cX4_set 18 = .ok (.bipush 9, 2) := by decide +kernel
theorem dX4_set_20 : decode cX4_set 20 = .ok (.invokestatic 30, 3) := by decide +kernel
theorem dX4_set_23 : decode cX4_set 23 = .ok (.ifCond .eq 7, 3) := by decide +kernel
theorem dX4_set_26 : decode cX4_set 26 = .ok (.iload_n 1, 1) := by decide +kernel
theorem dX4_set_27 : decode cX4_set 27 = .ok (.goto 4, 3) := by decide +kernel
theorem dX4_set_30 : decode cX4_set 30 = .ok (.iload_n 2, 1) := by decide +kernel
theorem dX4_set_31 : decode cX4_set 31 = .ok (.iastore, 1) := by decide +kernel
theorem dX4_set_32 : decode cX4_set 32 = .ok (.aload_n 0, 1) := by decide +kernel
theorem dX4_set_33 : decode cX4_set 33 = .ok (.iload_n 1, 1) := by decide +kernel
theorem dX4_set_34 : decode cX4_set 34 = .ok (.iconst 1, 1) := by decide +kernel
theorem dX4_set_35 : decode cX4_set 35 = .ok (.bipush 9, 2) := by decide +kernel
theorem dX4_set_37 : decode cX4_set 37 = .ok (.invokestatic 30, 3) := by decide +kernel
theorem dX4_set_40 : decode cX4_set 40 = .ok (.ifCond .eq 7, 3) := by decide +kernel
theorem dX4_set_43 : decode cX4_set 43 = .ok (.iload_n 2, 1) := by decide +kernel
theorem dX4_set_44 : decode cX4_set 44 = .ok (.goto 5, 3) := by decide +kernel
theorem dX4_set_47 : decode cX4_set 47 = .ok (.ldc 22, 2) := by decide +kernel
theorem dX4_set_49 : decode cX4_set 49 = .ok (.invokevirtual 91, 3) := by decide +kernel
theorem dX4_set_52 : decode cX4_set 52 = .ok (.ireturn, 1) := by decide +kernel
set_option maxRecDepth 20000 in
theorem ggX4_step_X4_begins : GoodIn wsX4_step wsX4_begins := goodIn_r _ [5, 6, 7, 78, 79, 80, 81, 82, 83, 84, 85] (by decide +kernel) (by decide +kernel)
set_option maxRecDepth 20000 in
theorem gX4_step_X4_begins : GoodIn wsX4_step (wsV RX4 88 RX4 yX4_begins wsX4_begins) := goodIn_app (goodIn_of _ (by decide +kernel)) ggX4_step_X4_begins
set_option maxRecDepth 20000 in
theorem ggX4_step_X4_steps : GoodIn wsX4_step wsX4_steps := goodIn_r _ [11, 12, 7, 13, 14, 15, 16, 4, 17, 18, 19, 20, 21, 22, 23, 24, 25, 26, 27, 28, 29, 30, 31, 32, 33, 34, 35, 36, 37, 38, 39, 40, 41, 42, 43, 44, 45, 46, 47, 48, 49, 50, 51, 52, 53, 54, 55, 56, 57, 58, 59, 60, 61, 62, 63, 64, 65, 66, 78, 79, 80, 81, 82, 83, 84, 85] (by decide +kernel) (by decide +kernel)
set_option maxRecDepth 20000 in
theorem gX4_step_X4_steps : GoodIn wsX4_step (wsV RX4 85 RX4 yX4_steps wsX4_steps) := goodIn_app (goodIn_of _ (by decide +kernel)) ggX4_step_X4_steps
set_option maxRecDepth 20000 in
theorem ggX4_step_X4_acted : GoodIn wsX4_step wsX4_acted := goodIn_r _ [70, 71, 72, 73, 6, 74, 75, 76, 4, 77, 7, 78, 79, 80, 81, 82, 83, 84, 85] (by decide +kernel) (by decide +kernel)
set_option maxRecDepth 20000 in
theorem gX4_step_X4_acted : GoodIn wsX4_step (wsV RX4 91 RX4 yX4_acted wsX4_acted) := goodIn_app (goodIn_of _ (by decide +kernel)) ggX4_step_X4_acted
theorem dX4_step_0 : decode cX4_step 0 = .ok (.aload_n 0, 1) := by decide +kernel
theorem dX4_step_1 : decode cX4_step 1 = .ok (.invokevirtual 88, 3) := by decide +kernel
theorem dX4_step_4 : decode cX4_step 4 = .ok (.aload_n 0, 1) := by decide +kernel
theorem dX4_step_5 : decode cX4_step 5 = .ok (.aload_n 0, 1) := by decide +kernel
theorem dX4_step_6 : decode cX4_step 6 = .ok (.invokevirtual 85, 3) := by decide +kernel
theorem dX4_step_9 : decode cX4_step 9 = .ok (.invokevirtual 91, 3) := by decide +kernel
theorem dX4_step_12 : decode cX4_step 12 = .ok (.ireturn, 1) := by decide +kernel
set_option maxRecDepth 20000 in
theorem ggX4_run_X4_begins : GoodIn wsX4_run wsX4_begins := goodIn_r _ [6, 7, 8, 85, 86, 87, 88, 89, 90, 91, 92] (by decide +kernel) (by decide +kernel)
set_option maxRecDepth 20000 in
theorem gX4_run_X4_begins : GoodIn wsX4_run (wsV RX4 88 RX4 yX4_begins wsX4_begins) := goodIn_app (goodIn_of _ (by decide +kernel)) ggX4_run_X4_begins
set_option maxRecDepth 20000 in
theorem ggX4_run_X4_in : GoodIn wsX4_run wsX4_in := goodIn_r _ [11] (by decide +kernel) (by decide +kernel)
set_option maxRecDepth 20000 in
theorem gX4_run_X4_in : GoodIn wsX4_run (va_wsS RX4 30 yX4_in wsX4_in) := goodIn_app (goodIn_of _ (by decide +kernel)) ggX4_run_X4_in
set_option maxRecDepth 20000 in
theorem ggX4_run_X4_runs : GoodIn wsX4_run wsX4_runs := goodIn_r _ [15, 16, 17, 18, 19, 20, 5, 21, 8, 22, 23, 24, 25, 26, 27, 28, 29, 30, 31, 32, 33, 34, 35, 36, 37, 38, 39, 40, 41, 42, 43, 44, 45, 46, 47, 48, 49, 50, 51, 52, 53, 54, 55, 56, 57, 58, 59, 60, 61, 62, 63, 64, 65, 66, 67, 68, 69, 70, 71, 72, 73, 74, 85, 86, 87, 88, 89, 90, 91, 92] (by decide +kernel) (by decide +kernel)
set_option maxRecDepth 20000 in
theorem gX4_run_X4_runs : GoodIn wsX4_run (wsV RX4 97 RX4 yX4_runs wsX4_runs) := goodIn_app (goodIn_of _ (by decide +kernel)) ggX4_run_X4_runs
set_option maxRecDepth 20000 in
theorem ggX4_run_X4_acted : GoodIn wsX4_run wsX4_acted := goodIn_r _ [78, 1, 79, 80, 7, 81, 82, 83, 5, 84, 8, 85, 86, 87, 88, 89, 90, 91, 92] (by decide +kernel) (by decide +kernel)
set_option maxRecDepth 20000 in
theorem gX4_run_X4_acted : GoodIn wsX4_run (wsV RX4 91 RX4 yX4_acted wsX4_acted) := goodIn_app (goodIn_of _ (by decide +kernel)) ggX4_run_X4_acted
theorem dX4_run_0 : decode cX4_run 0 = .ok (.aload_n 0, 1) := by decide +kernel
theorem dX4_run_1 : decode cX4_run 1 = .ok (.invokevirtual 88, 3) := by decide +kernel
theorem dX4_run_4 : decode cX4_run 4 = .ok (.aload_n 0, 1) := by decide +kernel
theorem dX4_run_5 : decode cX4_run 5 = .ok (.iload_n 1, 1) := by decide +kernel
theorem dX4_run_6 : decode cX4_run 6 = .ok (.iconst 1, 1) := by decide +kernel
theorem dX4_run_7 : decode cX4_run 7 = .ok (.bipush 40, 2) := by decide +kernel
theorem dX4_run_9 : decode cX4_run 9 = .ok (.invokestatic 30, 3) := by decide +kernel
theorem dX4_run_12 : decode cX4_run 12 = .ok (.ifCond .eq 11, 3) := by decide +kernel
theorem dX4_run_15 : decode cX4_run 15 = .ok (.aload_n 0, 1) := by decide +kernel
theorem dX4_run_16 : decode cX4_run 16 = .ok (.iload_n 1, 1) := by decide +kernel
theorem dX4_run_17 : decode cX4_run 17 = .ok (.invokevirtual 97, 3) := by decide +kernel
theorem dX4_run_20 : decode cX4_run 20 = .ok (.goto 5, 3) := by decide +kernel
theorem dX4_run_23 : decode cX4_run 23 = .ok (.ldc 22, 2) := by decide +kernel
theorem dX4_run_25 : decode cX4_run 25 = .ok (.invokevirtual 91, 3) := by decide +kernel
theorem dX4_run_28 : decode cX4_run 28 = .ok (.ireturn, 1) := by decide +kernel
set_option maxRecDepth 20000 in
theorem ggX4_empty_X4_begins : GoodIn wsX4_empty wsX4_begins := goodIn_r _ [5, 6, 7, 23, 24, 25, 26, 27, 28, 29, 30] (by decide +kernel) (by decide +kernel)
set_option maxRecDepth 20000 in
theorem gX4_empty_X4_begins : GoodIn wsX4_empty (wsV RX4 88 RX4 yX4_begins wsX4_begins) := goodIn_app (goodIn_of _ (by decide +kernel)) ggX4_empty_X4_begins
set_option maxRecDepth 20000 in
theorem ggX4_empty_X4_clears : GoodIn wsX4_empty wsX4_clears := goodIn_r _ [11, 7, 23, 24, 25, 26, 27, 28, 29, 30] (by decide +kernel) (by decide +kernel)
set_option maxRecDepth 20000 in
theorem gX4_empty_X4_clears : GoodIn wsX4_empty (wsV RX4 100 RX4 yX4_clears wsX4_clears) := goodIn_app (goodIn_of _ (by decide +kernel)) ggX4_empty_X4_clears
set_option maxRecDepth 20000 in
theorem ggX4_empty_X4_acted : GoodIn wsX4_empty wsX4_acted := goodIn_r _ [15, 16, 17, 18, 6, 19, 20, 21, 4, 22, 7, 23, 24, 25, 26, 27, 28, 29, 30] (by decide +kernel) (by decide +kernel)
set_option maxRecDepth 20000 in
theorem gX4_empty_X4_acted : GoodIn wsX4_empty (wsV RX4 91 RX4 yX4_acted wsX4_acted) := goodIn_app (goodIn_of _ (by decide +kernel)) ggX4_empty_X4_acted
theorem dX4_empty_0 : decode cX4_empty 0 = .ok (.aload_n 0, 1) := by decide +kernel
theorem dX4_empty_1 : decode cX4_empty 1 = .ok (.invokevirtual 88, 3) := by decide +kernel
theorem dX4_empty_4 : decode cX4_empty 4 = .ok (.aload_n 0, 1) := by decide +kernel
theorem dX4_empty_5 : decode cX4_empty 5 = .ok (.aload_n 0, 1) := by decide +kernel
theorem dX4_empty_6 : decode cX4_empty 6 = .ok (.invokevirtual 100, 3) := by decide +kernel
theorem dX4_empty_9 : decode cX4_empty 9 = .ok (.invokevirtual 91, 3) := by decide +kernel
theorem dX4_empty_12 : decode cX4_empty 12 = .ok (.ireturn, 1) := by decide +kernel
set_option maxRecDepth 20000 in
theorem ggX4_lessOnes_X4_isKept : GoodIn wsX4_lessOnes wsX4_isKept := goodIn_r _ [6, 7, 8, 9, 5, 10, 1, 26, 27, 28, 29, 30, 31, 32, 33] (by decide +kernel) (by decide +kernel)
set_option maxRecDepth 20000 in
theorem gX4_lessOnes_X4_isKept : GoodIn wsX4_lessOnes (wsV RX4 49 RX4 yX4_isKept wsX4_isKept) := goodIn_app (goodIn_of _ (by decide +kernel)) ggX4_lessOnes_X4_isKept
set_option maxRecDepth 20000 in
theorem ggX4_lessOnes_X4_of : GoodIn wsX4_lessOnes wsX4_of := goodIn_r _ [10, 1, 26, 27, 28, 29, 30, 31, 32, 33] (by decide +kernel) (by decide +kernel)
set_option maxRecDepth 20000 in
theorem gX4_lessOnes_X4_of : GoodIn wsX4_lessOnes (wsV RX4 34 RX4 yX4_of wsX4_of) := goodIn_app (goodIn_of _ (by decide +kernel)) ggX4_lessOnes_X4_of
set_option maxRecDepth 20000 in
theorem ggX4_lessOnes_X4_isLess : GoodIn wsX4_lessOnes wsX4_isLess := goodIn_r _ [14, 15, 16, 17, 5, 18, 19, 20, 21, 22, 23, 24, 25, 1, 26, 27, 28, 29, 30, 31, 32, 33] (by decide +kernel) (by decide +kernel)
set_option maxRecDepth 20000 in
theorem gX4_lessOnes_X4_isLess : GoodIn wsX4_lessOnes (wsV RX4 103 RX4 yX4_isLess wsX4_isLess) := goodIn_app (goodIn_of _ (by decide +kernel)) ggX4_lessOnes_X4_isLess
theorem dX4_lessOnes_0 : decode cX4_lessOnes 0 = .ok (.iconst 0, 1) := by decide +kernel
theorem dX4_lessOnes_1 : decode cX4_lessOnes 1 = .ok (.istore_n 2, 1) := by decide +kernel
theorem dX4_lessOnes_2 : decode cX4_lessOnes 2 = .ok (.iconst 0, 1) := by decide +kernel
theorem dX4_lessOnes_3 : decode cX4_lessOnes 3 = .ok (.istore_n 3, 1) := by decide +kernel
theorem dX4_lessOnes_4 : decode cX4_lessOnes 4 = .ok (.iload_n 3, 1) := by decide +kernel
theorem dX4_lessOnes_5 : decode cX4_lessOnes 5 = .ok (.aload_n 0, 1) := by decide +kernel
theorem dX4_lessOnes_6 : decode cX4_lessOnes 6 = .ok (.getfield 7, 3) := by decide +kernel
theorem dX4_lessOnes_9 : decode cX4_lessOnes 9 = .ok (.iconst 0, 1) := by decide +kernel
theorem dX4_lessOnes_10 : decode cX4_lessOnes 10 = .ok (.iaload, 1) := by decide +kernel
theorem dX4_lessOnes_11 : decode cX4_lessOnes 11 = .ok (.if_icmp .ge 44, 3) := by decide +kernel
theorem dX4_lessOnes_14 : decode cX4_lessOnes 14 = .ok (.iload_n 2, 1) := by decide +kernel
theorem dX4_lessOnes_15 : decode cX4_lessOnes 15 = .ok (.aload_n 0, 1) := by decide +kernel
theorem dX4_lessOnes_16 : decode cX4_lessOnes 16 = .ok (.iload_n 3, 1) := by decide +kernel
theorem dX4_lessOnes_17 : decode cX4_lessOnes 17 = .ok (.invokevirtual 49, 3) := by decide +kernel
theorem dX4_lessOnes_20 : decode cX4_lessOnes 20 = .ok (.ifCond .eq 26, 3) := by decide +kernel
theorem dX4_lessOnes_23 : decode cX4_lessOnes 23 = .ok (.aload_n 0, 1) := by decide +kernel
theorem dX4_lessOnes_24 : decode cX4_lessOnes 24 = .ok (.aload_n 0, 1) := by decide +kernel
theorem dX4_lessOnes_25 : decode cX4_lessOnes 25 = .ok (.iload_n 3, 1) := by decide +kernel
theorem dX4_lessOnes_26 : decode cX4_lessOnes 26 = .ok (.iconst 0, 1) := by decide +kernel
theorem dX4_lessOnes_27 : decode cX4_lessOnes 27 = .ok (.invokevirtual 34, 3) := by decide +kernel
theorem dX4_lessOnes_30 : decode cX4_lessOnes 30 = .ok (.aload_n 0, 1) := by decide +kernel
theorem dX4_lessOnes_31 : decode cX4_lessOnes 31 = .ok (.iload_n 1, 1) := by decide +kernel
theorem dX4_lessOnes_32 : decode cX4_lessOnes 32 = .ok (.iconst 0, 1) := by decide +kernel
theorem dX4_lessOnes_33 : decode cX4_lessOnes 33 = .ok (.invokevirtual 34, 3) := by decide +kernel
theorem dX4_lessOnes_36 : decode cX4_lessOnes 36 = .ok (.invokevirtual 103, 3) := by decide +kernel
theorem dX4_lessOnes_39 : decode cX4_lessOnes 39 = .ok (.ifCond .eq 7, 3) := by decide +kernel
theorem dX4_lessOnes_42 : decode cX4_lessOnes 42 = .ok (.iconst 1, 1) := by decide +kernel
theorem dX4_lessOnes_43 : decode cX4_lessOnes 43 = .ok (.goto 4, 3) := by decide +kernel
theorem dX4_lessOnes_46 : decode cX4_lessOnes 46 = .ok (.iconst 0, 1) := by decide +kernel
theorem dX4_lessOnes_47 : decode cX4_lessOnes 47 = .ok (.iadd, 1) := by decide +kernel
theorem dX4_lessOnes_48 : decode cX4_lessOnes 48 = .ok (.istore_n 2, 1) := by decide +kernel
theorem dX4_lessOnes_49 : decode cX4_lessOnes 49 = .ok (.iinc 3 1, 3) := by decide +kernel
theorem dX4_lessOnes_52 : decode cX4_lessOnes 52 = .ok (.goto (-48), 3) := by decide +kernel
theorem dX4_lessOnes_55 : decode cX4_lessOnes 55 = .ok (.iload_n 2, 1) := by decide +kernel
theorem dX4_lessOnes_56 : decode cX4_lessOnes 56 = .ok (.ireturn, 1) := by decide +kernel
set_option maxRecDepth 20000 in
theorem ggX4_parentOf_X4_of : GoodIn wsX4_parentOf wsX4_of := goodIn_r _ [6, 7, 8, 9, 10, 11, 12, 13, 14, 15] (by decide +kernel) (by decide +kernel)
set_option maxRecDepth 20000 in
theorem gX4_parentOf_X4_of : GoodIn wsX4_parentOf (wsV RX4 34 RX4 yX4_of wsX4_of) := goodIn_app (goodIn_of _ (by decide +kernel)) ggX4_parentOf_X4_of
theorem dX4_parentOf_0 : decode cX4_parentOf 0 = .ok (.aload_n 0, 1) := by decide +kernel
theorem dX4_parentOf_1 : decode cX4_parentOf 1 = .ok (.iload_n 1, 1) := by decide +kernel
theorem dX4_parentOf_2 : decode cX4_parentOf 2 = .ok (.iconst 2, 1) := by decide +kernel
theorem dX4_parentOf_3 : decode cX4_parentOf 3 = .ok (.invokevirtual 34, 3) := by decide +kernel
theorem dX4_parentOf_6 : decode cX4_parentOf 6 = .ok (.ifCond .ne 6, 3) := by decide +kernel
theorem dX4_parentOf_9 : decode cX4_parentOf 9 = .ok (.ldc 106, 2) := by decide +kernel
theorem dX4_parentOf_11 : decode cX4_parentOf 11 = .ok (.ireturn, 1) := by decide +kernel
theorem dX4_parentOf_12 : decode cX4_parentOf 12 = .ok (.iload_n 2, 1) := by decide +kernel
theorem dX4_parentOf_13 : decode cX4_parentOf 13 = .ok (.iconst 5, 1) := by decide +kernel
theorem dX4_parentOf_14 : decode cX4_parentOf 14 = .ok (.if_icmp .ne 12, 3) := by decide +kernel
theorem dX4_parentOf_17 : decode cX4_parentOf 17 = .ok (.aload_n 0, 1) := by decide +kernel
theorem dX4_parentOf_18 : decode cX4_parentOf 18 = .ok (.iload_n 1, 1) := by decide +kernel
theorem dX4_parentOf_19 : decode cX4_parentOf 19 = .ok (.iconst 4, 1) := by decide +kernel
theorem dX4_parentOf_20 : decode cX4_parentOf 20 = .ok (.invokevirtual 34, 3) := by decide +kernel
theorem dX4_parentOf_23 : decode cX4_parentOf 23 = .ok (.goto 13, 3) := by decide +kernel
theorem dX4_parentOf_26 : decode cX4_parentOf 26 = .ok (.aload_n 0, 1) := by decide +kernel
theorem dX4_parentOf_27 : decode cX4_parentOf 27 = .ok (.iload_n 1, 1) := by decide +kernel
theorem dX4_parentOf_28 : decode cX4_parentOf 28 = .ok (.iload_n 2, 1) := by decide +kernel
theorem dX4_parentOf_29 : decode cX4_parentOf 29 = .ok (.iconst 1, 1) := by decide +kernel
theorem dX4_parentOf_30 : decode cX4_parentOf 30 = .ok (.isub, 1) := by decide +kernel
theorem dX4_parentOf_31 : decode cX4_parentOf 31 = .ok (.invokevirtual 34, 3) := by decide +kernel
theorem dX4_parentOf_34 : decode cX4_parentOf 34 = .ok (.iconst 1, 1) := by decide +kernel
theorem dX4_parentOf_35 : decode cX4_parentOf 35 = .ok (.isub, 1) := by decide +kernel
theorem dX4_parentOf_36 : decode cX4_parentOf 36 = .ok (.ireturn, 1) := by decide +kernel
set_option maxRecDepth 20000 in
theorem ggX4_clauseOf_X4_isClause : GoodIn wsX4_clauseOf wsX4_isClause := goodIn_r _ [7, 8, 9, 10, 6, 11, 46, 47, 48, 49, 50, 51, 52, 53] (by decide +kernel) (by decide +kernel)
set_option maxRecDepth 20000 in
theorem gX4_clauseOf_X4_isClause : GoodIn wsX4_clauseOf (wsV RX4 107 RX4 yX4_isClause wsX4_isClause) := goodIn_app (goodIn_of _ (by decide +kernel)) ggX4_clauseOf_X4_isClause
set_option maxRecDepth 20000 in
theorem ggX4_clauseOf_X4_in : GoodIn wsX4_clauseOf wsX4_in := goodIn_r _ [11] (by decide +kernel) (by decide +kernel)
set_option maxRecDepth 20000 in
theorem gX4_clauseOf_X4_in : GoodIn wsX4_clauseOf (va_wsS RX4 30 yX4_in wsX4_in) := goodIn_app (goodIn_of _ (by decide +kernel)) ggX4_clauseOf_X4_in
set_option maxRecDepth 20000 in
theorem ggX4_clauseOf_X4_of : GoodIn wsX4_clauseOf wsX4_of := goodIn_r _ [15, 8, 46, 47, 48, 49, 50, 51, 52, 53] (by decide +kernel) (by decide +kernel)
set_option maxRecDepth 20000 in
theorem gX4_clauseOf_X4_of : GoodIn wsX4_clauseOf (wsV RX4 34 RX4 yX4_of wsX4_of) := goodIn_app (goodIn_of _ (by decide +kernel)) ggX4_clauseOf_X4_of
set_option maxRecDepth 20000 in
theorem ggX4_clauseOf_X4_greatest : GoodIn wsX4_clauseOf wsX4_greatest := goodIn_r _ [19, 20, 21, 6, 22, 23, 24, 25, 26, 8, 46, 47, 48, 49, 50, 51, 52, 53] (by decide +kernel) (by decide +kernel)
set_option maxRecDepth 20000 in
theorem gX4_clauseOf_X4_greatest : GoodIn wsX4_clauseOf (wsV RX4 46 RX4 yX4_greatest wsX4_greatest) := goodIn_app (goodIn_of _ (by decide +kernel)) ggX4_clauseOf_X4_greatest
set_option maxRecDepth 20000 in
theorem ggX4_clauseOf_X4_parentOf : GoodIn wsX4_clauseOf wsX4_parentOf := goodIn_r _ [30, 2, 12, 13, 14, 6, 15, 8, 46, 47, 48, 49, 50, 51, 52, 53] (by decide +kernel) (by decide +kernel)
set_option maxRecDepth 20000 in
theorem gX4_clauseOf_X4_parentOf : GoodIn wsX4_clauseOf (wsV RX4 110 RX4 yX4_parentOf wsX4_parentOf) := goodIn_app (goodIn_of _ (by decide +kernel)) ggX4_clauseOf_X4_parentOf
set_option maxRecDepth 20000 in
theorem ggX4_clauseOf_X4_ones : GoodIn wsX4_clauseOf wsX4_ones := goodIn_r _ [33] (by decide +kernel) (by decide +kernel)
set_option maxRecDepth 20000 in
theorem gX4_clauseOf_X4_ones : GoodIn wsX4_clauseOf (va_wsS RX4 64 yX4_ones wsX4_ones) := goodIn_app (goodIn_of _ (by decide +kernel)) ggX4_clauseOf_X4_ones
set_option maxRecDepth 20000 in
theorem ggX4_clauseOf_X4_lessOnes : GoodIn wsX4_clauseOf wsX4_lessOnes := goodIn_r _ [37, 8, 38, 39, 40, 6, 41, 12, 13, 14, 15, 42, 43, 44, 45, 16, 17, 18, 19, 20, 21, 22, 23, 24, 25, 26, 46, 47, 48, 49, 50, 51, 52, 53] (by decide +kernel) (by decide +kernel)
set_option maxRecDepth 20000 in
theorem gX4_clauseOf_X4_lessOnes : GoodIn wsX4_clauseOf (wsV RX4 113 RX4 yX4_lessOnes wsX4_lessOnes) := goodIn_app (goodIn_of _ (by decide +kernel)) ggX4_clauseOf_X4_lessOnes
theorem dX4_clauseOf_0 : decode cX4_clauseOf 0 = .ok (.aload_n 0, 1) := by decide +kernel
theorem dX4_clauseOf_1 : decode cX4_clauseOf 1 = .ok (.iload_n 1, 1) := by decide +kernel
theorem dX4_clauseOf_2 : decode cX4_clauseOf 2 = .ok (.invokevirtual 107, 3) := by decide +kernel
theorem dX4_clauseOf_5 : decode cX4_clauseOf 5 = .ok (.ifCond .eq 13, 3) := by decide +kernel
theorem dX4_clauseOf_8 : decode cX4_clauseOf 8 = .ok (.iload_n 2, 1) := by decide +kernel
theorem dX4_clauseOf_9 : decode cX4_clauseOf 9 = .ok (.iconst 0, 1) := by decide +kernel
theorem dX4_clauseOf_10 : decode cX4_clauseOf 10 = .ok (.bipush 8, 2) := by decide +kernel
theorem dX4_clauseOf_12 : decode cX4_clauseOf 12 = .ok (.invokestatic 30, 3) := by decide +kernel
theorem dX4_clauseOf_15 : decode cX4_clauseOf 15 = .ok (.ifCond .ne 6, 3) := by decide +kernel
theorem dX4_clauseOf_18 : decode cX4_clauseOf 18 = .ok (.ldc 22, 2) := by decide +kernel
theorem dX4_clauseOf_20 : decode cX4_clauseOf 20 = .ok (.ireturn, 1) := by decide +kernel
theorem dX4_clauseOf_21 : decode cX4_clauseOf 21 = .ok (.iload_n 2, 1) := by decide +kernel
theorem dX4_clauseOf_22 : decode cX4_clauseOf 22 = .ok (.tableswitch 101 0 7 #[46, 46, 53, 78, 78, 78, 85, 95], 46) := by decide +kernel
theorem dX4_clauseOf_68 : decode cX4_clauseOf 68 = .ok (.aload_n 0, 1) := by decide +kernel
theorem dX4_clauseOf_69 : decode cX4_clauseOf 69 = .ok (.iload_n 1, 1) := by decide +kernel
theorem dX4_clauseOf_70 : decode cX4_clauseOf 70 = .ok (.iload_n 2, 1) := by decide +kernel
theorem dX4_clauseOf_71 : decode cX4_clauseOf 71 = .ok (.invokevirtual 34, 3) := by decide +kernel
theorem dX4_clauseOf_74 : decode cX4_clauseOf 74 = .ok (.ireturn, 1) := by decide +kernel
theorem dX4_clauseOf_75 : decode cX4_clauseOf 75 = .ok (.aload_n 0, 1) := by decide +kernel
theorem dX4_clauseOf_76 : decode cX4_clauseOf 76 = .ok (.iload_n 1, 1) := by decide +kernel
theorem dX4_clauseOf_77 : decode cX4_clauseOf 77 = .ok (.iconst 0, 1) := by decide +kernel
theorem dX4_clauseOf_78 : decode cX4_clauseOf 78 = .ok (.invokevirtual 34, 3) := by decide +kernel
theorem dX4_clauseOf_81 : decode cX4_clauseOf 81 = .ok (.ifCond .ne 8, 3) := by decide +kernel
theorem dX4_clauseOf_84 : decode cX4_clauseOf 84 = .ok (.ldc 106, 2) := by decide +kernel
theorem dX4_clauseOf_86 : decode cX4_clauseOf 86 = .ok (.goto 13, 3) := by decide +kernel
theorem dX4_clauseOf_89 : decode cX4_clauseOf 89 = .ok (.aload_n 0, 1) := by decide +kernel
theorem dX4_clauseOf_90 : decode cX4_clauseOf 90 = .ok (.aload_n 0, 1) := by decide +kernel
theorem dX4_clauseOf_91 : decode cX4_clauseOf 91 = .ok (.iload_n 1, 1) := by decide +kernel
theorem dX4_clauseOf_92 : decode cX4_clauseOf 92 = .ok (.iconst 0, 1) := by decide +kernel
theorem dX4_clauseOf_93 : decode cX4_clauseOf 93 = .ok (.invokevirtual 34, 3) := by decide +kernel
theorem dX4_clauseOf_96 : decode cX4_clauseOf 96 = .ok (.invokevirtual 46, 3) := by decide +kernel
theorem dX4_clauseOf_99 : decode cX4_clauseOf 99 = .ok (.ireturn, 1) := by decide +kernel
theorem dX4_clauseOf_100 : decode cX4_clauseOf 100 = .ok (.aload_n 0, 1) := by decide +kernel
theorem dX4_clauseOf_101 : decode cX4_clauseOf 101 = .ok (.iload_n 1, 1) := by decide +kernel
theorem dX4_clauseOf_102 : decode cX4_clauseOf 102 = .ok (.iload_n 2, 1) := by decide +kernel
theorem dX4_clauseOf_103 : decode cX4_clauseOf 103 = .ok (.invokevirtual 110, 3) := by decide +kernel
theorem dX4_clauseOf_106 : decode cX4_clauseOf 106 = .ok (.ireturn, 1) := by decide +kernel
theorem dX4_clauseOf_107 : decode cX4_clauseOf 107 = .ok (.aload_n 0, 1) := by decide +kernel
theorem dX4_clauseOf_108 : decode cX4_clauseOf 108 = .ok (.iload_n 1, 1) := by decide +kernel
theorem dX4_clauseOf_109 : decode cX4_clauseOf 109 = .ok (.iconst 0, 1) := by decide +kernel
theorem dX4_clauseOf_110 : decode cX4_clauseOf 110 = .ok (.invokevirtual 34, 3) := by decide +kernel
theorem dX4_clauseOf_113 : decode cX4_clauseOf 113 = .ok (.invokestatic 64, 3) := by decide +kernel
theorem dX4_clauseOf_116 : decode cX4_clauseOf 116 = .ok (.ireturn, 1) := by decide +kernel
theorem dX4_clauseOf_117 : decode cX4_clauseOf 117 = .ok (.aload_n 0, 1) := by decide +kernel
theorem dX4_clauseOf_118 : decode cX4_clauseOf 118 = .ok (.iload_n 1, 1) := by decide +kernel
theorem dX4_clauseOf_119 : decode cX4_clauseOf 119 = .ok (.invokevirtual 113, 3) := by decide +kernel
theorem dX4_clauseOf_122 : decode cX4_clauseOf 122 = .ok (.ireturn, 1) := by decide +kernel
theorem dX4_clauseOf_123 : decode cX4_clauseOf 123 = .ok (.aload_n 0, 1) := by decide +kernel
theorem dX4_clauseOf_124 : decode cX4_clauseOf 124 = .ok (.iload_n 1, 1) := by decide +kernel
theorem dX4_clauseOf_125 : decode cX4_clauseOf 125 = .ok (.iconst 5, 1) := by decide +kernel
theorem dX4_clauseOf_126 : decode cX4_clauseOf 126 = .ok (.invokevirtual 34, 3) := by decide +kernel
theorem dX4_clauseOf_129 : decode cX4_clauseOf 129 = .ok (.ireturn, 1) := by decide +kernel
theorem dX4_isIn_0 : decode cX4_isIn 0 = .ok (.lload_n 0, 1) := by decide +kernel
theorem dX4_isIn_1 : decode cX4_isIn 1 = .ok (.iload_n 2, 1) := by decide +kernel
theorem dX4_isIn_2 : decode cX4_isIn 2 = .ok (.lshr, 1) := by decide +kernel
theorem dX4_isIn_3 : decode cX4_isIn 3 = .ok (.lconst 1, 1) := by decide +kernel
theorem dX4_isIn_4 : decode cX4_isIn 4 = .ok (.land, 1) := by decide +kernel
theorem dX4_isIn_5 : decode cX4_isIn 5 = .ok (.lconst 1, 1) := by decide +kernel
theorem dX4_isIn_6 : decode cX4_isIn 6 = .ok (.lcmp, 1) := by decide +kernel
theorem dX4_isIn_7 : decode cX4_isIn 7 = .ok (.ifCond .ne 7, 3) := by decide +kernel
theorem dX4_isIn_10 : decode cX4_isIn 10 = .ok (.iconst 1, 1) := by decide +kernel
theorem dX4_isIn_11 : decode cX4_isIn 11 = .ok (.goto 4, 3) := by decide +kernel
theorem dX4_isIn_14 : decode cX4_isIn 14 = .ok (.iconst 0, 1) := by decide +kernel
theorem dX4_isIn_15 : decode cX4_isIn 15 = .ok (.ireturn, 1) := by decide +kernel
set_option maxRecDepth 20000 in
theorem ggX4_treeOf_X4_isIn : GoodIn wsX4_treeOf wsX4_isIn := goodIn_r _ [4] (by decide +kernel) (by decide +kernel)
set_option maxRecDepth 20000 in
theorem gX4_treeOf_X4_isIn : GoodIn wsX4_treeOf (va_wsS RX4 116 yX4_isIn wsX4_isIn) := goodIn_app (goodIn_of _ (by decide +kernel)) ggX4_treeOf_X4_isIn
set_option maxRecDepth 20000 in
theorem ggX4_treeOf_X4_of : GoodIn wsX4_treeOf wsX4_of := goodIn_r _ [8, 9, 10, 11, 12, 13, 14, 15, 16, 17] (by decide +kernel) (by decide +kernel)
set_option maxRecDepth 20000 in
theorem gX4_treeOf_X4_of : GoodIn wsX4_treeOf (wsV RX4 34 RX4 yX4_of wsX4_of) := goodIn_app (goodIn_of _ (by decide +kernel)) ggX4_treeOf_X4_of
theorem dX4_treeOf_0 : decode cX4_treeOf 0 = .ok (.lconst 1, 1) := by decide +kernel
theorem dX4_treeOf_1 : decode cX4_treeOf 1 = .ok (.iload_n 1, 1) := by decide +kernel
theorem dX4_treeOf_2 : decode cX4_treeOf 2 = .ok (.lshl, 1) := by decide +kernel
theorem dX4_treeOf_3 : decode cX4_treeOf 3 = .ok (.lstore_n 2, 1) := by decide +kernel
theorem dX4_treeOf_4 : decode cX4_treeOf 4 = .ok (.iload_n 1, 1) := by decide +kernel
theorem dX4_treeOf_5 : decode cX4_treeOf 5 = .ok (.istore 4, 2) := by decide +kernel
theorem dX4_treeOf_7 : decode cX4_treeOf 7 = .ok (.iload 4, 2) := by decide +kernel
theorem dX4_treeOf_9 : decode cX4_treeOf 9 = .ok (.ifCond .lt 54, 3) := by decide +kernel
theorem dX4_treeOf_12 : decode cX4_treeOf 12 = .ok (.lload_n 2, 1) := by decide +kernel
theorem dX4_treeOf_13 : decode cX4_treeOf 13 = .ok (.iload 4, 2) := by decide +kernel
theorem dX4_treeOf_15 : decode cX4_treeOf 15 = .ok (.invokestatic 116, 3) := by decide +kernel
theorem dX4_treeOf_18 : decode cX4_treeOf 18 = .ok (.ifCond .eq 39, 3) := by decide +kernel
theorem dX4_treeOf_21 : decode cX4_treeOf 21 = .ok (.aload_n 0, 1) := by decide +kernel
theorem dX4_treeOf_22 : decode cX4_treeOf 22 = .ok (.iload 4, 2) := by decide +kernel
theorem dX4_treeOf_24 : decode cX4_treeOf 24 = .ok (.iconst 2, 1) := by decide +kernel
theorem dX4_treeOf_25 : decode cX4_treeOf 25 = .ok (.invokevirtual 34, 3) := by decide +kernel
theorem dX4_treeOf_28 : decode cX4_treeOf 28 = .ok (.ifCond .le 29, 3) := by decide +kernel
theorem dX4_treeOf_31 : decode cX4_treeOf 31 = .ok (.lload_n 2, 1) := by decide +kernel
theorem dX4_treeOf_32 : decode cX4_treeOf 32 = .ok (.lconst 1, 1) := by decide +kernel
theorem dX4_treeOf_33 : decode cX4_treeOf 33 = .ok (.aload_n 0, 1) := by decide +kernel
theorem dX4_treeOf_34 : decode cX4_treeOf 34 = .ok (.iload 4, 2) := by decide +kernel
theorem dX4_treeOf_36 : decode cX4_treeOf 36 = .ok (.iconst 2, 1) := by decide +kernel
theorem dX4_treeOf_37 : decode cX4_treeOf 37 = .ok (.invokevirtual 34, 3) := by decide +kernel
theorem dX4_treeOf_40 : decode cX4_treeOf 40 = .ok (.iconst 1, 1) := by decide +kernel
theorem dX4_treeOf_41 : decode cX4_treeOf 41 = .ok (.isub, 1) := by decide +kernel
theorem dX4_treeOf_42 : decode cX4_treeOf 42 = .ok (.lshl, 1) := by decide +kernel
theorem dX4_treeOf_43 : decode cX4_treeOf 43 = .ok (.lconst 1, 1) := by decide +kernel
theorem dX4_treeOf_44 : decode cX4_treeOf 44 = .ok (.aload_n 0, 1) := by decide +kernel
theorem dX4_treeOf_45 : decode cX4_treeOf 45 = .ok (.iload 4, 2) := by decide +kernel
theorem dX4_treeOf_47 : decode cX4_treeOf 47 = .ok (.iconst 3, 1) := by decide +kernel
theorem dX4_treeOf_48 : decode cX4_treeOf 48 = .ok (.invokevirtual 34, 3) := by decide +kernel
theorem dX4_treeOf_51 : decode cX4_treeOf 51 = .ok (.iconst 1, 1) := by decide +kernel
theorem dX4_treeOf_52 : decode cX4_treeOf 52 = .ok (.isub, 1) := by decide +kernel
theorem dX4_treeOf_53 : decode cX4_treeOf 53 = .ok (.lshl, 1) := by decide +kernel
theorem dX4_treeOf_54 : decode cX4_treeOf 54 = .ok (.lor, 1) := by decide +kernel
theorem dX4_treeOf_55 : decode cX4_treeOf 55 = .ok (.lor, 1) := by decide +kernel
theorem dX4_treeOf_56 : decode cX4_treeOf 56 = .ok (.lstore_n 2, 1) := by decide +kernel
theorem dX4_treeOf_57 : decode cX4_treeOf 57 = .ok (.iinc 4 (-1), 3) := by decide +kernel
theorem dX4_treeOf_60 : decode cX4_treeOf 60 = .ok (.goto (-53), 3) := by decide +kernel
theorem dX4_treeOf_63 : decode cX4_treeOf 63 = .ok (.lload_n 2, 1) := by decide +kernel
theorem dX4_treeOf_64 : decode cX4_treeOf 64 = .ok (.lreturn, 1) := by decide +kernel
set_option maxRecDepth 20000 in
theorem ggX4_tree_X4_isClause : GoodIn wsX4_tree wsX4_isClause := goodIn_r _ [6, 7, 8, 9, 5, 10, 22, 23, 24, 25, 26, 27, 28, 29] (by decide +kernel) (by decide +kernel)
set_option maxRecDepth 20000 in
theorem gX4_tree_X4_isClause : GoodIn wsX4_tree (wsV RX4 107 RX4 yX4_isClause wsX4_isClause) := goodIn_app (goodIn_of _ (by decide +kernel)) ggX4_tree_X4_isClause
set_option maxRecDepth 20000 in
theorem ggX4_tree_X4_treeOf : GoodIn wsX4_tree wsX4_treeOf := goodIn_r _ [14, 15, 16, 5, 17, 18, 19, 20, 21, 7, 22, 23, 24, 25, 26, 27, 28, 29] (by decide +kernel) (by decide +kernel)
set_option maxRecDepth 20000 in
theorem gX4_tree_X4_treeOf : GoodIn wsX4_tree (wsV RX4 120 RX4 yX4_treeOf wsX4_treeOf) := goodIn_app (goodIn_of _ (by decide +kernel)) ggX4_tree_X4_treeOf
theorem dX4_tree_0 : decode cX4_tree 0 = .ok (.aload_n 0, 1) := by decide +kernel
theorem dX4_tree_1 : decode cX4_tree 1 = .ok (.iload_n 1, 1) := by decide +kernel
theorem dX4_tree_2 : decode cX4_tree 2 = .ok (.invokevirtual 107, 3) := by decide +kernel
theorem dX4_tree_5 : decode cX4_tree 5 = .ok (.ifCond .eq 11, 3) := by decide +kernel
theorem dX4_tree_8 : decode cX4_tree 8 = .ok (.aload_n 0, 1) := by decide +kernel
theorem dX4_tree_9 : decode cX4_tree 9 = .ok (.iload_n 1, 1) := by decide +kernel
theorem dX4_tree_10 : decode cX4_tree 10 = .ok (.invokevirtual 120, 3) := by decide +kernel
theorem dX4_tree_13 : decode cX4_tree 13 = .ok (.goto 6, 3) := by decide +kernel
theorem dX4_tree_16 : decode cX4_tree 16 = .ok (.ldc2_w 124, 3) := by decide +kernel
theorem dX4_tree_19 : decode cX4_tree 19 = .ok (.lreturn, 1) := by decide +kernel
set_option maxRecDepth 20000 in
theorem ggX4_widest_X4_isClause : GoodIn wsX4_widest wsX4_isClause := goodIn_r _ [6, 7, 8, 9, 5, 10, 25, 26, 27, 28, 29, 30, 31, 32] (by decide +kernel) (by decide +kernel)
set_option maxRecDepth 20000 in
theorem gX4_widest_X4_isClause : GoodIn wsX4_widest (wsV RX4 107 RX4 yX4_isClause wsX4_isClause) := goodIn_app (goodIn_of _ (by decide +kernel)) ggX4_widest_X4_isClause
set_option maxRecDepth 20000 in
theorem ggX4_widest_X4_treeOf : GoodIn wsX4_widest wsX4_treeOf := goodIn_r _ [14, 15, 16, 5, 17, 18, 19, 20, 21, 7, 25, 26, 27, 28, 29, 30, 31, 32] (by decide +kernel) (by decide +kernel)
set_option maxRecDepth 20000 in
theorem gX4_widest_X4_treeOf : GoodIn wsX4_widest (wsV RX4 120 RX4 yX4_treeOf wsX4_treeOf) := goodIn_app (goodIn_of _ (by decide +kernel)) ggX4_widest_X4_treeOf
set_option maxRecDepth 20000 in
theorem ggX4_widest_X4_isIn : GoodIn wsX4_widest wsX4_isIn := goodIn_r _ [17] (by decide +kernel) (by decide +kernel)
set_option maxRecDepth 20000 in
theorem gX4_widest_X4_isIn : GoodIn wsX4_widest (va_wsS RX4 116 yX4_isIn wsX4_isIn) := goodIn_app (goodIn_of _ (by decide +kernel)) ggX4_widest_X4_isIn
set_option maxRecDepth 20000 in
theorem ggX4_widest_X4_of : GoodIn wsX4_widest wsX4_of := goodIn_r _ [21, 7, 25, 26, 27, 28, 29, 30, 31, 32] (by decide +kernel) (by decide +kernel)
set_option maxRecDepth 20000 in
theorem gX4_widest_X4_of : GoodIn wsX4_widest (wsV RX4 34 RX4 yX4_of wsX4_of) := goodIn_app (goodIn_of _ (by decide +kernel)) ggX4_widest_X4_of
set_option maxRecDepth 20000 in
theorem ggX4_widest_X4_ones : GoodIn wsX4_widest wsX4_ones := goodIn_r _ [24] (by decide +kernel) (by decide +kernel)
set_option maxRecDepth 20000 in
theorem gX4_widest_X4_ones : GoodIn wsX4_widest (va_wsS RX4 64 yX4_ones wsX4_ones) := goodIn_app (goodIn_of _ (by decide +kernel)) ggX4_widest_X4_ones
theorem dX4_widest_0 : decode cX4_widest 0 = .ok (.aload_n 0, 1) := by decide +kernel
theorem dX4_widest_1 : decode cX4_widest 1 = .ok (.iload_n 1, 1) := by decide +kernel
theorem dX4_widest_2 : decode cX4_widest 2 = .ok (.invokevirtual 107, 3) := by decide +kernel
theorem dX4_widest_5 : decode cX4_widest 5 = .ok (.ifCond .ne 6, 3) := by decide +kernel
theorem dX4_widest_8 : decode cX4_widest 8 = .ok (.ldc 22, 2) := by decide +kernel
theorem dX4_widest_10 : decode cX4_widest 10 = .ok (.ireturn, 1) := by decide +kernel
theorem dX4_widest_11 : decode cX4_widest 11 = .ok (.aload_n 0, 1) := by decide +kernel
theorem dX4_widest_12 : decode cX4_widest 12 = .ok (.iload_n 1, 1) := by decide +kernel
theorem dX4_widest_13 : decode cX4_widest 13 = .ok (.invokevirtual 120, 3) := by decide +kernel
theorem dX4_widest_16 : decode cX4_widest 16 = .ok (.lstore_n 2, 1) := by decide +kernel
theorem dX4_widest_17 : decode cX4_widest 17 = .ok (.iconst 0, 1) := by decide +kernel
theorem dX4_widest_18 : decode cX4_widest 18 = .ok (.istore 4, 2) := by decide +kernel
theorem dX4_widest_20 : decode cX4_widest 20 = .ok (.iconst 0, 1) := by decide +kernel
theorem dX4_widest_21 : decode cX4_widest 21 = .ok (.istore 5, 2) := by decide +kernel
theorem dX4_widest_23 : decode cX4_widest 23 = .ok (.iload 5, 2) := by decide +kernel
theorem dX4_widest_25 : decode cX4_widest 25 = .ok (.iload_n 1, 1) := by decide +kernel
theorem dX4_widest_26 : decode cX4_widest 26 = .ok (.if_icmp .gt 50, 3) := by decide +kernel
theorem dX4_widest_29 : decode cX4_widest 29 = .ok (.lload_n 2, 1) := by decide +kernel
theorem dX4_widest_30 : decode cX4_widest 30 = .ok (.iload 5, 2) := by decide +kernel
theorem dX4_widest_32 : decode cX4_widest 32 = .ok (.invokestatic 116, 3) := by decide +kernel
theorem dX4_widest_35 : decode cX4_widest 35 = .ok (.ifCond .eq 16, 3) := by decide +kernel
theorem dX4_widest_38 : decode cX4_widest 38 = .ok (.aload_n 0, 1) := by decide +kernel
theorem dX4_widest_39 : decode cX4_widest 39 = .ok (.iload 5, 2) := by decide +kernel
theorem dX4_widest_41 : decode cX4_widest 41 = .ok (.iconst 0, 1) := by decide +kernel
theorem dX4_widest_42 : decode cX4_widest 42 = .ok (.invokevirtual 34, 3) := by decide +kernel
theorem dX4_widest_45 : decode cX4_widest 45 = .ok (.invokestatic 64, 3) := by decide +kernel
theorem dX4_widest_48 : decode cX4_widest 48 = .ok (.goto 4, 3) := by decide +kernel
theorem dX4_widest_51 : decode cX4_widest 51 = .ok (.iconst 0, 1) := by decide +kernel
theorem dX4_widest_52 : decode cX4_widest 52 = .ok (.istore 6, 2) := by decide +kernel
theorem dX4_widest_54 : decode cX4_widest 54 = .ok (.iload 6, 2) := by decide +kernel
theorem dX4_widest_56 : decode cX4_widest 56 = .ok (.iload 4, 2) := by decide +kernel
theorem dX4_widest_58 : decode cX4_widest 58 = .ok (.if_icmp .le 8, 3) := by decide +kernel
theorem dX4_widest_61 : decode cX4_widest 61 = .ok (.iload 6, 2) := by decide +kernel
theorem dX4_widest_63 : decode cX4_widest 63 = .ok (.goto 5, 3) := by decide +kernel
theorem dX4_widest_66 : decode cX4_widest 66 = .ok (.iload 4, 2) := by decide +kernel
theorem dX4_widest_68 : decode cX4_widest 68 = .ok (.istore 4, 2) := by decide +kernel
theorem dX4_widest_70 : decode cX4_widest 70 = .ok (.iinc 5 1, 3) := by decide +kernel
theorem dX4_widest_73 : decode cX4_widest 73 = .ok (.goto (-50), 3) := by decide +kernel
theorem dX4_widest_76 : decode cX4_widest 76 = .ok (.iload 4, 2) := by decide +kernel
theorem dX4_widest_78 : decode cX4_widest 78 = .ok (.ireturn, 1) := by decide +kernel
set_option maxRecDepth 20000 in
theorem ggX4_refutation_X4_empties : GoodIn wsX4_refutation wsX4_empties := goodIn_r _ [6, 7, 8, 9, 10, 5, 11, 12, 13, 14, 15, 16, 17, 18, 19] (by decide +kernel) (by decide +kernel)
set_option maxRecDepth 20000 in
theorem gX4_refutation_X4_empties : GoodIn wsX4_refutation (wsV RX4 67 RX4 yX4_empties wsX4_empties) := goodIn_app (goodIn_of _ (by decide +kernel)) ggX4_refutation_X4_empties
theorem dX4_refutation_0 : decode cX4_refutation 0 = .ok (.aload_n 0, 1) := by decide +kernel
theorem dX4_refutation_1 : decode cX4_refutation 1 = .ok (.invokevirtual 67, 3) := by decide +kernel
theorem dX4_refutation_4 : decode cX4_refutation 4 = .ok (.istore_n 1, 1) := by decide +kernel
theorem dX4_refutation_5 : decode cX4_refutation 5 = .ok (.iload_n 1, 1) := by decide +kernel
theorem dX4_refutation_6 : decode cX4_refutation 6 = .ok (.ifCond .ge 8, 3) := by decide +kernel
theorem dX4_refutation_9 : decode cX4_refutation 9 = .ok (.ldc 106, 2) := by decide +kernel
theorem dX4_refutation_11 : decode cX4_refutation 11 = .ok (.goto 4, 3) := by decide +kernel
theorem dX4_refutation_14 : decode cX4_refutation 14 = .ok (.iload_n 1, 1) := by decide +kernel
theorem dX4_refutation_15 : decode cX4_refutation 15 = .ok (.ireturn, 1) := by decide +kernel
set_option maxRecDepth 20000 in
theorem ggX4_isFulfilled_X4_has : GoodIn wsX4_isFulfilled wsX4_has := goodIn_r _ [4] (by decide +kernel) (by decide +kernel)
set_option maxRecDepth 20000 in
theorem gX4_isFulfilled_X4_has : GoodIn wsX4_isFulfilled (va_wsS RX4 38 yX4_has wsX4_has) := goodIn_app (goodIn_of _ (by decide +kernel)) ggX4_isFulfilled_X4_has
theorem dX4_isFulfilled_0 : decode cX4_isFulfilled 0 = .ok (.iconst 0, 1) := by decide +kernel
theorem dX4_isFulfilled_1 : decode cX4_isFulfilled 1 = .ok (.istore_n 2, 1) := by decide +kernel
theorem dX4_isFulfilled_2 : decode cX4_isFulfilled 2 = .ok (.iconst 0, 1) := by decide +kernel
theorem dX4_isFulfilled_3 : decode cX4_isFulfilled 3 = .ok (.istore_n 3, 1) := by decide +kernel
theorem dX4_isFulfilled_4 : decode cX4_isFulfilled 4 = .ok (.iload_n 3, 1) := by decide +kernel
theorem dX4_isFulfilled_5 : decode cX4_isFulfilled 5 = .ok (.bipush 12, 2) := by decide +kernel
theorem dX4_isFulfilled_7 : decode cX4_isFulfilled 7 = .ok (.if_icmp .ge 48, 3) := by decide +kernel
theorem dX4_isFulfilled_10 : decode cX4_isFulfilled 10 = .ok (.iload_n 2, 1) := by decide +kernel
theorem dX4_isFulfilled_11 : decode cX4_isFulfilled 11 = .ok (.ifCond .ne 32, 3) := by decide +kernel
theorem dX4_isFulfilled_14 : decode cX4_isFulfilled 14 = .ok (.iload_n 0, 1) := by decide +kernel
theorem dX4_isFulfilled_15 : decode cX4_isFulfilled 15 = .ok (.iload_n 3, 1) := by decide +kernel
theorem dX4_isFulfilled_16 : decode cX4_isFulfilled 16 = .ok (.invokestatic 38, 3) := by decide +kernel
theorem dX4_isFulfilled_19 : decode cX4_isFulfilled 19 = .ok (.ifCond .eq 28, 3) := by decide +kernel
theorem dX4_isFulfilled_22 : decode cX4_isFulfilled 22 = .ok (.iload_n 1, 1) := by decide +kernel
theorem dX4_isFulfilled_23 : decode cX4_isFulfilled 23 = .ok (.iload_n 3, 1) := by decide +kernel
theorem dX4_isFulfilled_24 : decode cX4_isFulfilled 24 = .ok (.iconst 2, 1) := by decide +kernel
theorem dX4_isFulfilled_25 : decode cX4_isFulfilled 25 = .ok (.idiv, 1) := by decide +kernel
theorem dX4_isFulfilled_26 : decode cX4_isFulfilled 26 = .ok (.invokestatic 38, 3) := by decide +kernel
theorem dX4_isFulfilled_29 : decode cX4_isFulfilled 29 = .ok (.iload_n 3, 1) := by decide +kernel
theorem dX4_isFulfilled_30 : decode cX4_isFulfilled 30 = .ok (.iconst 2, 1) := by decide +kernel
theorem dX4_isFulfilled_31 : decode cX4_isFulfilled 31 = .ok (.irem, 1) := by decide +kernel
theorem dX4_isFulfilled_32 : decode cX4_isFulfilled 32 = .ok (.ifCond .ne 7, 3) := by decide +kernel
theorem dX4_isFulfilled_35 : decode cX4_isFulfilled 35 = .ok (.iconst 1, 1) := by decide +kernel
theorem dX4_isFulfilled_36 : decode cX4_isFulfilled 36 = .ok (.goto 4, 3) := by decide +kernel
theorem dX4_isFulfilled_39 : decode cX4_isFulfilled 39 = .ok (.iconst 0, 1) := by decide +kernel
theorem dX4_isFulfilled_40 : decode cX4_isFulfilled 40 = .ok (.if_icmp .ne 7, 3) := by decide +kernel
theorem dX4_isFulfilled_43 : decode cX4_isFulfilled 43 = .ok (.iconst 1, 1) := by decide +kernel
theorem dX4_isFulfilled_44 : decode cX4_isFulfilled 44 = .ok (.goto 4, 3) := by decide +kernel
theorem dX4_isFulfilled_47 : decode cX4_isFulfilled 47 = .ok (.iconst 0, 1) := by decide +kernel
theorem dX4_isFulfilled_48 : decode cX4_isFulfilled 48 = .ok (.istore_n 2, 1) := by decide +kernel
theorem dX4_isFulfilled_49 : decode cX4_isFulfilled 49 = .ok (.iinc 3 1, 3) := by decide +kernel
theorem dX4_isFulfilled_52 : decode cX4_isFulfilled 52 = .ok (.goto (-48), 3) := by decide +kernel
theorem dX4_isFulfilled_55 : decode cX4_isFulfilled 55 = .ok (.iload_n 2, 1) := by decide +kernel
theorem dX4_isFulfilled_56 : decode cX4_isFulfilled 56 = .ok (.ireturn, 1) := by decide +kernel
set_option maxRecDepth 20000 in
theorem ggX4_fulfils_X4_isIn : GoodIn wsX4_fulfils wsX4_isIn := goodIn_r _ [5] (by decide +kernel) (by decide +kernel)
set_option maxRecDepth 20000 in
theorem gX4_fulfils_X4_isIn : GoodIn wsX4_fulfils (va_wsS RX4 116 yX4_isIn wsX4_isIn) := goodIn_app (goodIn_of _ (by decide +kernel)) ggX4_fulfils_X4_isIn
set_option maxRecDepth 20000 in
theorem ggX4_fulfils_X4_of : GoodIn wsX4_fulfils wsX4_of := goodIn_r _ [9, 1, 16, 17, 18, 19, 20, 21, 22, 23] (by decide +kernel) (by decide +kernel)
set_option maxRecDepth 20000 in
theorem gX4_fulfils_X4_of : GoodIn wsX4_fulfils (wsV RX4 34 RX4 yX4_of wsX4_of) := goodIn_app (goodIn_of _ (by decide +kernel)) ggX4_fulfils_X4_of
set_option maxRecDepth 20000 in
theorem ggX4_fulfils_X4_isFulfilled : GoodIn wsX4_fulfils wsX4_isFulfilled := goodIn_r _ [12, 13, 14, 4, 15] (by decide +kernel) (by decide +kernel)
set_option maxRecDepth 20000 in
theorem gX4_fulfils_X4_isFulfilled : GoodIn wsX4_fulfils (va_wsS RX4 126 yX4_isFulfilled wsX4_isFulfilled) := goodIn_app (goodIn_of _ (by decide +kernel)) ggX4_fulfils_X4_isFulfilled
theorem dX4_fulfils_0 : decode cX4_fulfils 0 = .ok (.iconst 1, 1) := by decide +kernel
theorem dX4_fulfils_1 : decode cX4_fulfils 1 = .ok (.istore 4, 2) := by decide +kernel
theorem dX4_fulfils_3 : decode cX4_fulfils 3 = .ok (.iconst 0, 1) := by decide +kernel
theorem dX4_fulfils_4 : decode cX4_fulfils 4 = .ok (.istore 5, 2) := by decide +kernel
theorem dX4_fulfils_6 : decode cX4_fulfils 6 = .ok (.iload 5, 2) := by decide +kernel
theorem dX4_fulfils_8 : decode cX4_fulfils 8 = .ok (.aload_n 0, 1) := by decide +kernel
theorem dX4_fulfils_9 : decode cX4_fulfils 9 = .ok (.getfield 7, 3) := by decide +kernel
theorem dX4_fulfils_12 : decode cX4_fulfils 12 = .ok (.iconst 0, 1) := by decide +kernel
theorem dX4_fulfils_13 : decode cX4_fulfils 13 = .ok (.iaload, 1) := by decide +kernel
theorem dX4_fulfils_14 : decode cX4_fulfils 14 = .ok (.if_icmp .ge 44, 3) := by decide +kernel
theorem dX4_fulfils_17 : decode cX4_fulfils 17 = .ok (.iload 4, 2) := by decide +kernel
theorem dX4_fulfils_19 : decode cX4_fulfils 19 = .ok (.ifCond .eq 30, 3) := by decide +kernel
theorem dX4_fulfils_22 : decode cX4_fulfils 22 = .ok (.lload_n 2, 1) := by decide +kernel
theorem dX4_fulfils_23 : decode cX4_fulfils 23 = .ok (.iload 5, 2) := by decide +kernel
theorem dX4_fulfils_25 : decode cX4_fulfils 25 = .ok (.invokestatic 116, 3) := by decide +kernel
theorem dX4_fulfils_28 : decode cX4_fulfils 28 = .ok (.ifCond .eq 17, 3) := by decide +kernel
theorem dX4_fulfils_31 : decode cX4_fulfils 31 = .ok (.aload_n 0, 1) := by decide +kernel
theorem dX4_fulfils_32 : decode cX4_fulfils 32 = .ok (.iload 5, 2) := by decide +kernel
theorem dX4_fulfils_34 : decode cX4_fulfils 34 = .ok (.iconst 0, 1) := by decide +kernel
theorem dX4_fulfils_35 : decode cX4_fulfils 35 = .ok (.invokevirtual 34, 3) := by decide +kernel
theorem dX4_fulfils_38 : decode cX4_fulfils 38 = .ok (.iload_n 1, 1) := by decide +kernel
theorem dX4_fulfils_39 : decode cX4_fulfils 39 = .ok (.invokestatic 126, 3) := by decide +kernel
theorem dX4_fulfils_42 : decode cX4_fulfils 42 = .ok (.ifCond .eq 7, 3) := by decide +kernel
theorem dX4_fulfils_45 : decode cX4_fulfils 45 = .ok (.iconst 1, 1) := by decide +kernel
theorem dX4_fulfils_46 : decode cX4_fulfils 46 = .ok (.goto 4, 3) := by decide +kernel
theorem dX4_fulfils_49 : decode cX4_fulfils 49 = .ok (.iconst 0, 1) := by decide +kernel
theorem dX4_fulfils_50 : decode cX4_fulfils 50 = .ok (.istore 4, 2) := by decide +kernel
theorem dX4_fulfils_52 : decode cX4_fulfils 52 = .ok (.iinc 5 1, 3) := by decide +kernel
theorem dX4_fulfils_55 : decode cX4_fulfils 55 = .ok (.goto (-49), 3) := by decide +kernel
theorem dX4_fulfils_58 : decode cX4_fulfils 58 = .ok (.iload 4, 2) := by decide +kernel
theorem dX4_fulfils_60 : decode cX4_fulfils 60 = .ok (.ireturn, 1) := by decide +kernel
set_option maxRecDepth 20000 in
theorem ggX4_toldOnes_X4_of : GoodIn wsX4_toldOnes wsX4_of := goodIn_r _ [6, 1, 7, 8, 9, 10, 11, 12, 13, 14] (by decide +kernel) (by decide +kernel)
set_option maxRecDepth 20000 in
theorem gX4_toldOnes_X4_of : GoodIn wsX4_toldOnes (wsV RX4 34 RX4 yX4_of wsX4_of) := goodIn_app (goodIn_of _ (by decide +kernel)) ggX4_toldOnes_X4_of
theorem dX4_toldOnes_0 : decode cX4_toldOnes 0 = .ok (.lconst 0, 1) := by decide +kernel
theorem dX4_toldOnes_1 : decode cX4_toldOnes 1 = .ok (.lstore_n 1, 1) := by decide +kernel
theorem dX4_toldOnes_2 : decode cX4_toldOnes 2 = .ok (.iconst 0, 1) := by decide +kernel
theorem dX4_toldOnes_3 : decode cX4_toldOnes 3 = .ok (.istore_n 3, 1) := by decide +kernel
theorem dX4_toldOnes_4 : decode cX4_toldOnes 4 = .ok (.iload_n 3, 1) := by decide +kernel
theorem dX4_toldOnes_5 : decode cX4_toldOnes 5 = .ok (.aload_n 0, 1) := by decide +kernel
theorem dX4_toldOnes_6 : decode cX4_toldOnes 6 = .ok (.getfield 7, 3) := by decide +kernel
theorem dX4_toldOnes_9 : decode cX4_toldOnes 9 = .ok (.iconst 0, 1) := by decide +kernel
theorem dX4_toldOnes_10 : decode cX4_toldOnes 10 = .ok (.iaload, 1) := by decide +kernel
theorem dX4_toldOnes_11 : decode cX4_toldOnes 11 = .ok (.if_icmp .ge 28, 3) := by decide +kernel
theorem dX4_toldOnes_14 : decode cX4_toldOnes 14 = .ok (.lload_n 1, 1) := by decide +kernel
theorem dX4_toldOnes_15 : decode cX4_toldOnes 15 = .ok (.aload_n 0, 1) := by decide +kernel
theorem dX4_toldOnes_16 : decode cX4_toldOnes 16 = .ok (.iload_n 3, 1) := by decide +kernel
theorem dX4_toldOnes_17 : decode cX4_toldOnes 17 = .ok (.iconst 2, 1) := by decide +kernel
theorem dX4_toldOnes_18 : decode cX4_toldOnes 18 = .ok (.invokevirtual 34, 3) := by decide +kernel
theorem dX4_toldOnes_21 : decode cX4_toldOnes 21 = .ok (.ifCond .ne 9, 3) := by decide +kernel
theorem dX4_toldOnes_24 : decode cX4_toldOnes 24 = .ok (.lconst 1, 1) := by decide +kernel
theorem dX4_toldOnes_25 : decode cX4_toldOnes 25 = .ok (.iload_n 3, 1) := by decide +kernel
theorem dX4_toldOnes_26 : decode cX4_toldOnes 26 = .ok (.lshl, 1) := by decide +kernel
theorem dX4_toldOnes_27 : decode cX4_toldOnes 27 = .ok (.goto 4, 3) := by decide +kernel
theorem dX4_toldOnes_30 : decode cX4_toldOnes 30 = .ok (.lconst 0, 1) := by decide +kernel
theorem dX4_toldOnes_31 : decode cX4_toldOnes 31 = .ok (.lor, 1) := by decide +kernel
theorem dX4_toldOnes_32 : decode cX4_toldOnes 32 = .ok (.lstore_n 1, 1) := by decide +kernel
theorem dX4_toldOnes_33 : decode cX4_toldOnes 33 = .ok (.iinc 3 1, 3) := by decide +kernel
theorem dX4_toldOnes_36 : decode cX4_toldOnes 36 = .ok (.goto (-32), 3) := by decide +kernel
theorem dX4_toldOnes_39 : decode cX4_toldOnes 39 = .ok (.lload_n 1, 1) := by decide +kernel
theorem dX4_toldOnes_40 : decode cX4_toldOnes 40 = .ok (.lreturn, 1) := by decide +kernel
set_option maxRecDepth 20000 in
theorem ggX4_modelsOf_X4_fulfils : GoodIn wsX4_modelsOf wsX4_fulfils := goodIn_r _ [5, 6, 7, 8, 4, 9, 10, 11, 12, 13, 14, 15, 16, 17, 18, 19, 20, 21, 22, 23, 24, 25, 26, 27] (by decide +kernel) (by decide +kernel)
set_option maxRecDepth 20000 in
theorem gX4_modelsOf_X4_fulfils : GoodIn wsX4_modelsOf (wsV RX4 129 RX4 yX4_fulfils wsX4_fulfils) := goodIn_app (goodIn_of _ (by decide +kernel)) ggX4_modelsOf_X4_fulfils
theorem dX4_modelsOf_0 : decode cX4_modelsOf 0 = .ok (.iconst 0, 1) := by decide +kernel
theorem dX4_modelsOf_1 : decode cX4_modelsOf 1 = .ok (.istore_n 3, 1) := by decide +kernel
theorem dX4_modelsOf_2 : decode cX4_modelsOf 2 = .ok (.iconst 0, 1) := by decide +kernel
theorem dX4_modelsOf_3 : decode cX4_modelsOf 3 = .ok (.istore 4, 2) := by decide +kernel
theorem dX4_modelsOf_5 : decode cX4_modelsOf 5 = .ok (.iload 4, 2) := by decide +kernel
theorem dX4_modelsOf_7 : decode cX4_modelsOf 7 = .ok (.bipush 64, 2) := by decide +kernel
theorem dX4_modelsOf_9 : decode cX4_modelsOf 9 = .ok (.if_icmp .ge 27, 3) := by decide +kernel
theorem dX4_modelsOf_12 : decode cX4_modelsOf 12 = .ok (.iload_n 3, 1) := by decide +kernel
theorem dX4_modelsOf_13 : decode cX4_modelsOf 13 = .ok (.aload_n 0, 1) := by decide +kernel
theorem dX4_modelsOf_14 : decode cX4_modelsOf 14 = .ok (.iload 4, 2) := by decide +kernel
theorem dX4_modelsOf_16 : decode cX4_modelsOf 16 = .ok (.lload_n 1, 1) := by decide +kernel
theorem dX4_modelsOf_17 : decode cX4_modelsOf 17 = .ok (.invokevirtual 129, 3) := by decide +kernel
theorem dX4_modelsOf_20 : decode cX4_modelsOf 20 = .ok (.ifCond .eq 7, 3) := by decide +kernel
theorem dX4_modelsOf_23 : decode cX4_modelsOf 23 = .ok (.iconst 1, 1) := by decide +kernel
theorem dX4_modelsOf_24 : decode cX4_modelsOf 24 = .ok (.goto 4, 3) := by decide +kernel
theorem dX4_modelsOf_27 : decode cX4_modelsOf 27 = .ok (.iconst 0, 1) := by decide +kernel
theorem dX4_modelsOf_28 : decode cX4_modelsOf 28 = .ok (.iadd, 1) := by decide +kernel
theorem dX4_modelsOf_29 : decode cX4_modelsOf 29 = .ok (.istore_n 3, 1) := by decide +kernel
theorem dX4_modelsOf_30 : decode cX4_modelsOf 30 = .ok (.iinc 4 1, 3) := by decide +kernel
theorem dX4_modelsOf_33 : decode cX4_modelsOf 33 = .ok (.goto (-28), 3) := by decide +kernel
theorem dX4_modelsOf_36 : decode cX4_modelsOf 36 = .ok (.iload_n 3, 1) := by decide +kernel
theorem dX4_modelsOf_37 : decode cX4_modelsOf 37 = .ok (.ireturn, 1) := by decide +kernel
set_option maxRecDepth 20000 in
theorem ggX4_models_X4_toldOnes : GoodIn wsX4_models wsX4_toldOnes := goodIn_r _ [5, 6, 7, 8, 9, 4, 10, 28, 29, 30, 31, 32, 33, 34, 35] (by decide +kernel) (by decide +kernel)
set_option maxRecDepth 20000 in
theorem gX4_models_X4_toldOnes : GoodIn wsX4_models (wsV RX4 133 RX4 yX4_toldOnes wsX4_toldOnes) := goodIn_app (goodIn_of _ (by decide +kernel)) ggX4_models_X4_toldOnes
set_option maxRecDepth 20000 in
theorem ggX4_models_X4_modelsOf : GoodIn wsX4_models wsX4_modelsOf := goodIn_r _ [14, 15, 16, 17, 4, 18, 6, 19, 20, 21, 7, 8, 9, 10, 22, 23, 24, 25, 26, 27, 28, 29, 30, 31, 32, 33, 34, 35] (by decide +kernel) (by decide +kernel)
set_option maxRecDepth 20000 in
theorem gX4_models_X4_modelsOf : GoodIn wsX4_models (wsV RX4 137 RX4 yX4_modelsOf wsX4_modelsOf) := goodIn_app (goodIn_of _ (by decide +kernel)) ggX4_models_X4_modelsOf
theorem dX4_models_0 : decode cX4_models 0 = .ok (.aload_n 0, 1) := by decide +kernel
theorem dX4_models_1 : decode cX4_models 1 = .ok (.aload_n 0, 1) := by decide +kernel
theorem dX4_models_2 : decode cX4_models 2 = .ok (.invokevirtual 133, 3) := by decide +kernel
theorem dX4_models_5 : decode cX4_models 5 = .ok (.invokevirtual 137, 3) := by decide +kernel
theorem dX4_models_8 : decode cX4_models 8 = .ok (.ireturn, 1) := by decide +kernel
set_option maxRecDepth 20000 in
theorem ggX4_model_X4_toldOnes : GoodIn wsX4_model wsX4_toldOnes := goodIn_r _ [7, 8, 9, 10, 11, 6, 12, 26, 27, 28, 29, 30, 31, 32, 33] (by decide +kernel) (by decide +kernel)
set_option maxRecDepth 20000 in
theorem gX4_model_X4_toldOnes : GoodIn wsX4_model (wsV RX4 133 RX4 yX4_toldOnes wsX4_toldOnes) := goodIn_app (goodIn_of _ (by decide +kernel)) ggX4_model_X4_toldOnes
set_option maxRecDepth 20000 in
theorem ggX4_model_X4_fulfils : GoodIn wsX4_model wsX4_fulfils := goodIn_r _ [16, 8, 17, 18, 6, 19, 9, 10, 11, 12, 20, 21, 22, 23, 24, 25, 26, 27, 28, 29, 30, 31, 32, 33] (by decide +kernel) (by decide +kernel)
set_option maxRecDepth 20000 in
theorem gX4_model_X4_fulfils : GoodIn wsX4_model (wsV RX4 129 RX4 yX4_fulfils wsX4_fulfils) := goodIn_app (goodIn_of _ (by decide +kernel)) ggX4_model_X4_fulfils
theorem dX4_model_0 : decode cX4_model 0 = .ok (.iload_n 1, 1) := by decide +kernel
theorem dX4_model_1 : decode cX4_model 1 = .ok (.ifCond .ge 6, 3) := by decide +kernel
theorem dX4_model_4 : decode cX4_model 4 = .ok (.ldc 22, 2) := by decide +kernel
theorem dX4_model_6 : decode cX4_model 6 = .ok (.ireturn, 1) := by decide +kernel
theorem dX4_model_7 : decode cX4_model 7 = .ok (.aload_n 0, 1) := by decide +kernel
theorem dX4_model_8 : decode cX4_model 8 = .ok (.invokevirtual 133, 3) := by decide +kernel
theorem dX4_model_11 : decode cX4_model 11 = .ok (.lstore_n 2, 1) := by decide +kernel
theorem dX4_model_12 : decode cX4_model 12 = .ok (.iconst 0, 1) := by decide +kernel
theorem dX4_model_13 : decode cX4_model 13 = .ok (.istore 4, 2) := by decide +kernel
theorem dX4_model_15 : decode cX4_model 15 = .ok (.iconst 0, 1) := by decide +kernel
theorem dX4_model_16 : decode cX4_model 16 = .ok (.istore 5, 2) := by decide +kernel
theorem dX4_model_18 : decode cX4_model 18 = .ok (.iload 5, 2) := by decide +kernel
theorem dX4_model_20 : decode cX4_model 20 = .ok (.bipush 64, 2) := by decide +kernel
theorem dX4_model_22 : decode cX4_model 22 = .ok (.if_icmp .ge 47, 3) := by decide +kernel
theorem dX4_model_25 : decode cX4_model 25 = .ok (.aload_n 0, 1) := by decide +kernel
theorem dX4_model_26 : decode cX4_model 26 = .ok (.iload 5, 2) := by decide +kernel
theorem dX4_model_28 : decode cX4_model 28 = .ok (.lload_n 2, 1) := by decide +kernel
theorem dX4_model_29 : decode cX4_model 29 = .ok (.invokevirtual 129, 3) := by decide +kernel
theorem dX4_model_32 : decode cX4_model 32 = .ok (.istore 6, 2) := by decide +kernel
theorem dX4_model_34 : decode cX4_model 34 = .ok (.iload 6, 2) := by decide +kernel
theorem dX4_model_36 : decode cX4_model 36 = .ok (.ifCond .eq 12, 3) := by decide +kernel
theorem dX4_model_39 : decode cX4_model 39 = .ok (.iload 4, 2) := by decide +kernel
theorem dX4_model_41 : decode cX4_model 41 = .ok (.iload_n 1, 1) := by decide +kernel
theorem dX4_model_42 : decode cX4_model 42 = .ok (.if_icmp .ne 6, 3) := by decide +kernel
theorem dX4_model_45 : decode cX4_model 45 = .ok (.iload 5, 2) := by decide +kernel
theorem dX4_model_47 : decode cX4_model 47 = .ok (.ireturn, 1) := by decide +kernel
theorem dX4_model_48 : decode cX4_model 48 = .ok (.iload 4, 2) := by decide +kernel
theorem dX4_model_50 : decode cX4_model 50 = .ok (.iload 6, 2) := by decide +kernel
theorem dX4_model_52 : decode cX4_model 52 = .ok (.ifCond .eq 7, 3) := by decide +kernel
theorem dX4_model_55 : decode cX4_model 55 = .ok (.iconst 1, 1) := by decide +kernel
theorem dX4_model_56 : decode cX4_model 56 = .ok (.goto 4, 3) := by decide +kernel
theorem dX4_model_59 : decode cX4_model 59 = .ok (.iconst 0, 1) := by decide +kernel
theorem dX4_model_60 : decode cX4_model 60 = .ok (.iadd, 1) := by decide +kernel
theorem dX4_model_61 : decode cX4_model 61 = .ok (.istore 4, 2) := by decide +kernel
theorem dX4_model_63 : decode cX4_model 63 = .ok (.iinc 5 1, 3) := by decide +kernel
theorem dX4_model_66 : decode cX4_model 66 = .ok (.goto (-48), 3) := by decide +kernel
theorem dX4_model_69 : decode cX4_model 69 = .ok (.ldc 106, 2) := by decide +kernel
theorem dX4_model_71 : decode cX4_model 71 = .ok (.ireturn, 1) := by decide +kernel
set_option maxRecDepth 20000 in
theorem ggX4_broken_X4_in : GoodIn wsX4_broken wsX4_in := goodIn_r _ [6] (by decide +kernel) (by decide +kernel)
set_option maxRecDepth 20000 in
theorem gX4_broken_X4_in : GoodIn wsX4_broken (va_wsS RX4 30 yX4_in wsX4_in) := goodIn_app (goodIn_of _ (by decide +kernel)) ggX4_broken_X4_in
set_option maxRecDepth 20000 in
theorem ggX4_broken_X4_isKept : GoodIn wsX4_broken wsX4_isKept := goodIn_r _ [10, 11, 12, 13, 5, 14, 2, 21, 22, 23, 24, 25, 26, 27, 28] (by decide +kernel) (by decide +kernel)
set_option maxRecDepth 20000 in
theorem gX4_broken_X4_isKept : GoodIn wsX4_broken (wsV RX4 49 RX4 yX4_isKept wsX4_isKept) := goodIn_app (goodIn_of _ (by decide +kernel)) ggX4_broken_X4_isKept
set_option maxRecDepth 20000 in
theorem ggX4_broken_X4_of : GoodIn wsX4_broken wsX4_of := goodIn_r _ [14, 2, 21, 22, 23, 24, 25, 26, 27, 28] (by decide +kernel) (by decide +kernel)
set_option maxRecDepth 20000 in
theorem gX4_broken_X4_of : GoodIn wsX4_broken (wsV RX4 34 RX4 yX4_of wsX4_of) := goodIn_app (goodIn_of _ (by decide +kernel)) ggX4_broken_X4_of
set_option maxRecDepth 20000 in
theorem ggX4_broken_X4_isFulfilled : GoodIn wsX4_broken wsX4_isFulfilled := goodIn_r _ [17, 18, 19, 5, 20] (by decide +kernel) (by decide +kernel)
set_option maxRecDepth 20000 in
theorem gX4_broken_X4_isFulfilled : GoodIn wsX4_broken (va_wsS RX4 126 yX4_isFulfilled wsX4_isFulfilled) := goodIn_app (goodIn_of _ (by decide +kernel)) ggX4_broken_X4_isFulfilled
theorem dX4_broken_0 : decode cX4_broken 0 = .ok (.iload_n 1, 1) := by decide +kernel
theorem dX4_broken_1 : decode cX4_broken 1 = .ok (.iconst 0, 1) := by decide +kernel
theorem dX4_broken_2 : decode cX4_broken 2 = .ok (.bipush 63, 2) := by decide +kernel
theorem dX4_broken_4 : decode cX4_broken 4 = .ok (.invokestatic 30, 3) := by decide +kernel
theorem dX4_broken_7 : decode cX4_broken 7 = .ok (.ifCond .ne 7, 3) := by decide +kernel
theorem dX4_broken_10 : decode cX4_broken 10 = .ok (.ldc2_w 124, 3) := by decide +kernel
theorem dX4_broken_13 : decode cX4_broken 13 = .ok (.lreturn, 1) := by decide +kernel
theorem dX4_broken_14 : decode cX4_broken 14 = .ok (.lconst 0, 1) := by decide +kernel
theorem dX4_broken_15 : decode cX4_broken 15 = .ok (.lstore_n 2, 1) := by decide +kernel
theorem dX4_broken_16 : decode cX4_broken 16 = .ok (.iconst 0, 1) := by decide +kernel
theorem dX4_broken_17 : decode cX4_broken 17 = .ok (.istore 4, 2) := by decide +kernel
theorem dX4_broken_19 : decode cX4_broken 19 = .ok (.iload 4, 2) := by decide +kernel
theorem dX4_broken_21 : decode cX4_broken 21 = .ok (.aload_n 0, 1) := by decide +kernel
theorem dX4_broken_22 : decode cX4_broken 22 = .ok (.getfield 7, 3) := by decide +kernel
theorem dX4_broken_25 : decode cX4_broken 25 = .ok (.iconst 0, 1) := by decide +kernel
theorem dX4_broken_26 : decode cX4_broken 26 = .ok (.iaload, 1) := by decide +kernel
theorem dX4_broken_27 : decode cX4_broken 27 = .ok (.if_icmp .ge 43, 3) := by decide +kernel
theorem dX4_broken_30 : decode cX4_broken 30 = .ok (.lload_n 2, 1) := by decide +kernel
theorem dX4_broken_31 : decode cX4_broken 31 = .ok (.aload_n 0, 1) := by decide +kernel
theorem dX4_broken_32 : decode cX4_broken 32 = .ok (.iload 4, 2) := by decide +kernel
theorem dX4_broken_34 : decode cX4_broken 34 = .ok (.invokevirtual 49, 3) := by decide +kernel
theorem dX4_broken_37 : decode cX4_broken 37 = .ok (.ifCond .eq 24, 3) := by decide +kernel
theorem dX4_broken_40 : decode cX4_broken 40 = .ok (.aload_n 0, 1) := by decide +kernel
theorem dX4_broken_41 : decode cX4_broken 41 = .ok (.iload 4, 2) := by decide +kernel
theorem dX4_broken_43 : decode cX4_broken 43 = .ok (.iconst 0, 1) := by decide +kernel
theorem dX4_broken_44 : decode cX4_broken 44 = .ok (.invokevirtual 34, 3) := by decide +kernel
theorem dX4_broken_47 : decode cX4_broken 47 = .ok (.iload_n 1, 1) := by decide +kernel
theorem dX4_broken_48 : decode cX4_broken 48 = .ok (.invokestatic 126, 3) := by decide +kernel
theorem dX4_broken_51 : decode cX4_broken 51 = .ok (.ifCond .ne 10, 3) := by decide +kernel
theorem dX4_broken_54 : decode cX4_broken 54 = .ok (.lconst 1, 1) := by decide +kernel
theorem dX4_broken_55 : decode cX4_broken 55 = .ok (.iload 4, 2) := by decide +kernel
theorem dX4_broken_57 : decode cX4_broken 57 = .ok (.lshl, 1) := by decide +kernel
theorem dX4_broken_58 : decode cX4_broken 58 = .ok (.goto 4, 3) := by decide +kernel
theorem dX4_broken_61 : decode cX4_broken 61 = .ok (.lconst 0, 1) := by decide +kernel
theorem dX4_broken_62 : decode cX4_broken 62 = .ok (.lor, 1) := by decide +kernel
theorem dX4_broken_63 : decode cX4_broken 63 = .ok (.lstore_n 2, 1) := by decide +kernel
theorem dX4_broken_64 : decode cX4_broken 64 = .ok (.iinc 4 1, 3) := by decide +kernel
theorem dX4_broken_67 : decode cX4_broken 67 = .ok (.goto (-48), 3) := by decide +kernel
theorem dX4_broken_70 : decode cX4_broken 70 = .ok (.lload_n 2, 1) := by decide +kernel
theorem dX4_broken_71 : decode cX4_broken 71 = .ok (.lreturn, 1) := by decide +kernel
set_option maxRecDepth 20000 in
theorem ggX4_core_X4_toldOnes : GoodIn wsX4_core wsX4_toldOnes := goodIn_r _ [8, 2, 9, 10, 11, 7, 12, 30, 31, 32, 33, 34, 35, 36, 37] (by decide +kernel) (by decide +kernel)
set_option maxRecDepth 20000 in
theorem gX4_core_X4_toldOnes : GoodIn wsX4_core (wsV RX4 133 RX4 yX4_toldOnes wsX4_toldOnes) := goodIn_app (goodIn_of _ (by decide +kernel)) ggX4_core_X4_toldOnes
set_option maxRecDepth 20000 in
theorem ggX4_core_X4_modelsOf : GoodIn wsX4_core wsX4_modelsOf := goodIn_r _ [16, 17, 18, 19, 7, 20, 2, 21, 22, 23, 9, 10, 11, 12, 24, 25, 26, 27, 28, 29, 30, 31, 32, 33, 34, 35, 36, 37] (by decide +kernel) (by decide +kernel)
set_option maxRecDepth 20000 in
theorem gX4_core_X4_modelsOf : GoodIn wsX4_core (wsV RX4 137 RX4 yX4_modelsOf wsX4_modelsOf) := goodIn_app (goodIn_of _ (by decide +kernel)) ggX4_core_X4_modelsOf
theorem dX4_core_0 : decode cX4_core 0 = .ok (.aload_n 0, 1) := by decide +kernel
theorem dX4_core_1 : decode cX4_core 1 = .ok (.invokevirtual 133, 3) := by decide +kernel
theorem dX4_core_4 : decode cX4_core 4 = .ok (.lstore_n 1, 1) := by decide +kernel
theorem dX4_core_5 : decode cX4_core 5 = .ok (.aload_n 0, 1) := by decide +kernel
theorem dX4_core_6 : decode cX4_core 6 = .ok (.lload_n 1, 1) := by decide +kernel
theorem dX4_core_7 : decode cX4_core 7 = .ok (.invokevirtual 137, 3) := by decide +kernel
theorem dX4_core_10 : decode cX4_core 10 = .ok (.ifCond .le 7, 3) := by decide +kernel
theorem dX4_core_13 : decode cX4_core 13 = .ok (.ldc2_w 141, 3) := by decide +kernel
theorem dX4_core_16 : decode cX4_core 16 = .ok (.lreturn, 1) := by decide +kernel
theorem dX4_core_17 : decode cX4_core 17 = .ok (.iconst 0, 1) := by decide +kernel
theorem dX4_core_18 : decode cX4_core 18 = .ok (.istore_n 3, 1) := by decide +kernel
theorem dX4_core_19 : decode cX4_core 19 = .ok (.iload_n 3, 1) := by decide +kernel
theorem dX4_core_20 : decode cX4_core 20 = .ok (.aload_n 0, 1) := by decide +kernel
theorem dX4_core_21 : decode cX4_core 21 = .ok (.getfield 7, 3) := by decide +kernel
theorem dX4_core_24 : decode cX4_core 24 = .ok (.iconst 0, 1) := by decide +kernel
theorem dX4_core_25 : decode cX4_core 25 = .ok (.iaload, 1) := by decide +kernel
theorem dX4_core_26 : decode cX4_core 26 = .ok (.if_icmp .ge 36, 3) := by decide +kernel
theorem dX4_core_29 : decode cX4_core 29 = .ok (.lload_n 1, 1) := by decide +kernel
theorem dX4_core_30 : decode cX4_core 30 = .ok (.lconst 1, 1) := by decide +kernel
theorem dX4_core_31 : decode cX4_core 31 = .ok (.iload_n 3, 1) := by decide +kernel
theorem dX4_core_32 : decode cX4_core 32 = .ok (.lshl, 1) := by decide +kernel
theorem dX4_core_33 : decode cX4_core 33 = .ok (.ldc2_w 143, 3) := by decide +kernel
theorem dX4_core_36 : decode cX4_core 36 = .ok (.lxor, 1) := by decide +kernel
theorem dX4_core_37 : decode cX4_core 37 = .ok (.land, 1) := by decide +kernel
theorem dX4_core_38 : decode cX4_core 38 = .ok (.lstore 4, 2) := by decide +kernel
theorem dX4_core_40 : decode cX4_core 40 = .ok (.aload_n 0, 1) := by decide +kernel
theorem dX4_core_41 : decode cX4_core 41 = .ok (.lload 4, 2) := by decide +kernel
theorem dX4_core_43 : decode cX4_core 43 = .ok (.invokevirtual 137, 3) := by decide +kernel
theorem dX4_core_46 : decode cX4_core 46 = .ok (.ifCond .ne 8, 3) := by decide +kernel
theorem dX4_core_49 : decode cX4_core 49 = .ok (.lload 4, 2) := by decide +kernel
theorem dX4_core_51 : decode cX4_core 51 = .ok (.goto 4, 3) := by decide +kernel
theorem dX4_core_54 : decode cX4_core 54 = .ok (.lload_n 1, 1) := by decide +kernel
theorem dX4_core_55 : decode cX4_core 55 = .ok (.lstore_n 1, 1) := by decide +kernel
theorem dX4_core_56 : decode cX4_core 56 = .ok (.iinc 3 1, 3) := by decide +kernel
theorem dX4_core_59 : decode cX4_core 59 = .ok (.goto (-40), 3) := by decide +kernel
theorem dX4_core_62 : decode cX4_core 62 = .ok (.lload_n 1, 1) := by decide +kernel
theorem dX4_core_63 : decode cX4_core 63 = .ok (.lreturn, 1) := by decide +kernel
set_option maxRecDepth 20000 in
theorem ggX4_follows_X4_in : GoodIn wsX4_follows wsX4_in := goodIn_r _ [5] (by decide +kernel) (by decide +kernel)
set_option maxRecDepth 20000 in
theorem gX4_follows_X4_in : GoodIn wsX4_follows (va_wsS RX4 30 yX4_in wsX4_in) := goodIn_app (goodIn_of _ (by decide +kernel)) ggX4_follows_X4_in
set_option maxRecDepth 20000 in
theorem ggX4_follows_X4_toldOnes : GoodIn wsX4_follows wsX4_toldOnes := goodIn_r _ [9, 10, 11, 12, 13, 4, 14, 28, 29, 30, 31, 32, 33, 34, 35] (by decide +kernel) (by decide +kernel)
set_option maxRecDepth 20000 in
theorem gX4_follows_X4_toldOnes : GoodIn wsX4_follows (wsV RX4 133 RX4 yX4_toldOnes wsX4_toldOnes) := goodIn_app (goodIn_of _ (by decide +kernel)) ggX4_follows_X4_toldOnes
set_option maxRecDepth 20000 in
theorem ggX4_follows_X4_fulfils : GoodIn wsX4_follows wsX4_fulfils := goodIn_r _ [18, 10, 19, 20, 4, 21, 11, 12, 13, 14, 22, 23, 24, 25, 26, 27, 28, 29, 30, 31, 32, 33, 34, 35] (by decide +kernel) (by decide +kernel)
set_option maxRecDepth 20000 in
theorem gX4_follows_X4_fulfils : GoodIn wsX4_follows (wsV RX4 129 RX4 yX4_fulfils wsX4_fulfils) := goodIn_app (goodIn_of _ (by decide +kernel)) ggX4_follows_X4_fulfils
set_option maxRecDepth 20000 in
theorem ggX4_follows_X4_isFulfilled : GoodIn wsX4_follows wsX4_isFulfilled := goodIn_r _ [24, 25, 26, 4, 27] (by decide +kernel) (by decide +kernel)
set_option maxRecDepth 20000 in
theorem gX4_follows_X4_isFulfilled : GoodIn wsX4_follows (va_wsS RX4 126 yX4_isFulfilled wsX4_isFulfilled) := goodIn_app (goodIn_of _ (by decide +kernel)) ggX4_follows_X4_isFulfilled
theorem dX4_follows_0 : decode cX4_follows 0 = .ok (.iload_n 1, 1) := by decide +kernel
theorem dX4_follows_1 : decode cX4_follows 1 = .ok (.iconst 0, 1) := by decide +kernel
theorem dX4_follows_2 : decode cX4_follows 2 = .ok (.sipush 4095, 3) := by decide +kernel
theorem dX4_follows_5 : decode cX4_follows 5 = .ok (.invokestatic 30, 3) := by decide +kernel
theorem dX4_follows_8 : decode cX4_follows 8 = .ok (.ifCond .ne 6, 3) := by decide +kernel
theorem dX4_follows_11 : decode cX4_follows 11 = .ok (.ldc 22, 2) := by decide +kernel
theorem dX4_follows_13 : decode cX4_follows 13 = .ok (.ireturn, 1) := by decide +kernel
theorem dX4_follows_14 : decode cX4_follows 14 = .ok (.aload_n 0, 1) := by decide +kernel
theorem dX4_follows_15 : decode cX4_follows 15 = .ok (.invokevirtual 133, 3) := by decide +kernel
theorem dX4_follows_18 : decode cX4_follows 18 = .ok (.lstore_n 2, 1) := by decide +kernel
theorem dX4_follows_19 : decode cX4_follows 19 = .ok (.iconst 1, 1) := by decide +kernel
theorem dX4_follows_20 : decode cX4_follows 20 = .ok (.istore 4, 2) := by decide +kernel
theorem dX4_follows_22 : decode cX4_follows 22 = .ok (.iconst 0, 1) := by decide +kernel
theorem dX4_follows_23 : decode cX4_follows 23 = .ok (.istore 5, 2) := by decide +kernel
theorem dX4_follows_25 : decode cX4_follows 25 = .ok (.iload 5, 2) := by decide +kernel
theorem dX4_follows_27 : decode cX4_follows 27 = .ok (.bipush 64, 2) := by decide +kernel
theorem dX4_follows_29 : decode cX4_follows 29 = .ok (.if_icmp .ge 40, 3) := by decide +kernel
theorem dX4_follows_32 : decode cX4_follows 32 = .ok (.iload 4, 2) := by decide +kernel
theorem dX4_follows_34 : decode cX4_follows 34 = .ok (.ifCond .eq 26, 3) := by decide +kernel
theorem dX4_follows_37 : decode cX4_follows 37 = .ok (.aload_n 0, 1) := by decide +kernel
theorem dX4_follows_38 : decode cX4_follows 38 = .ok (.iload 5, 2) := by decide +kernel
theorem dX4_follows_40 : decode cX4_follows 40 = .ok (.lload_n 2, 1) := by decide +kernel
theorem dX4_follows_41 : decode cX4_follows 41 = .ok (.invokevirtual 129, 3) := by decide +kernel
theorem dX4_follows_44 : decode cX4_follows 44 = .ok (.ifCond .eq 12, 3) := by decide +kernel
theorem dX4_follows_47 : decode cX4_follows 47 = .ok (.iload_n 1, 1) := by decide +kernel
theorem dX4_follows_48 : decode cX4_follows 48 = .ok (.iload 5, 2) := by decide +kernel
theorem dX4_follows_50 : decode cX4_follows 50 = .ok (.invokestatic 126, 3) := by decide +kernel
theorem dX4_follows_53 : decode cX4_follows 53 = .ok (.ifCond .eq 7, 3) := by decide +kernel
theorem dX4_follows_56 : decode cX4_follows 56 = .ok (.iconst 1, 1) := by decide +kernel
theorem dX4_follows_57 : decode cX4_follows 57 = .ok (.goto 4, 3) := by decide +kernel
theorem dX4_follows_60 : decode cX4_follows 60 = .ok (.iconst 0, 1) := by decide +kernel
theorem dX4_follows_61 : decode cX4_follows 61 = .ok (.istore 4, 2) := by decide +kernel
theorem dX4_follows_63 : decode cX4_follows 63 = .ok (.iinc 5 1, 3) := by decide +kernel
theorem dX4_follows_66 : decode cX4_follows 66 = .ok (.goto (-41), 3) := by decide +kernel
theorem dX4_follows_69 : decode cX4_follows 69 = .ok (.iload 4, 2) := by decide +kernel
theorem dX4_follows_71 : decode cX4_follows 71 = .ok (.ifCond .eq 7, 3) := by decide +kernel
theorem dX4_follows_74 : decode cX4_follows 74 = .ok (.iconst 1, 1) := by decide +kernel
theorem dX4_follows_75 : decode cX4_follows 75 = .ok (.goto 4, 3) := by decide +kernel
theorem dX4_follows_78 : decode cX4_follows 78 = .ok (.iconst 0, 1) := by decide +kernel
theorem dX4_follows_79 : decode cX4_follows 79 = .ok (.ireturn, 1) := by decide +kernel
set_option maxRecDepth 20000 in
theorem ggX4_share_X4_in : GoodIn wsX4_share wsX4_in := goodIn_r _ [6] (by decide +kernel) (by decide +kernel)
set_option maxRecDepth 20000 in
theorem gX4_share_X4_in : GoodIn wsX4_share (va_wsS RX4 30 yX4_in wsX4_in) := goodIn_app (goodIn_of _ (by decide +kernel)) ggX4_share_X4_in
set_option maxRecDepth 20000 in
theorem ggX4_share_X4_isFulfilled : GoodIn wsX4_share wsX4_isFulfilled := goodIn_r _ [9, 10, 11, 5, 12] (by decide +kernel) (by decide +kernel)
set_option maxRecDepth 20000 in
theorem gX4_share_X4_isFulfilled : GoodIn wsX4_share (va_wsS RX4 126 yX4_isFulfilled wsX4_isFulfilled) := goodIn_app (goodIn_of _ (by decide +kernel)) ggX4_share_X4_isFulfilled
set_option maxRecDepth 20000 in
theorem ggX4_share_Jxf58ca_floatToIntBits_5c35a : GoodIn wsX4_share wsJxf58ca_floatToIntBits_5c35a := goodIn_r _ [16, 17, 18, 19, 20, 21, 22, 23, 15, 24] (by decide +kernel) (by decide +kernel)
set_option maxRecDepth 20000 in
theorem gX4_share_Jxf58ca_floatToIntBits_5c35a : GoodIn wsX4_share (va_wsS RX4 146 yJxf58ca_floatToIntBits_5c35a wsJxf58ca_floatToIntBits_5c35a) := goodIn_app (goodIn_of _ (by decide +kernel)) ggX4_share_Jxf58ca_floatToIntBits_5c35a
theorem dX4_share_0 : decode cX4_share 0 = .ok (.iload_n 1, 1) := by decide +kernel
theorem dX4_share_1 : decode cX4_share 1 = .ok (.iconst 0, 1) := by decide +kernel
theorem dX4_share_2 : decode cX4_share 2 = .ok (.sipush 4095, 3) := by decide +kernel
theorem dX4_share_5 : decode cX4_share 5 = .ok (.invokestatic 30, 3) := by decide +kernel
theorem dX4_share_8 : decode cX4_share 8 = .ok (.ifCond .ne 6, 3) := by decide +kernel
theorem dX4_share_11 : decode cX4_share 11 = .ok (.ldc 22, 2) := by decide +kernel
theorem dX4_share_13 : decode cX4_share 13 = .ok (.ireturn, 1) := by decide +kernel
theorem dX4_share_14 : decode cX4_share 14 = .ok (.iconst 0, 1) := by decide +kernel
theorem dX4_share_15 : decode cX4_share 15 = .ok (.istore_n 2, 1) := by decide +kernel
theorem dX4_share_16 : decode cX4_share 16 = .ok (.iconst 0, 1) := by decide +kernel
theorem dX4_share_17 : decode cX4_share 17 = .ok (.istore_n 3, 1) := by decide +kernel
theorem dX4_share_18 : decode cX4_share 18 = .ok (.iload_n 3, 1) := by decide +kernel
theorem dX4_share_19 : decode cX4_share 19 = .ok (.bipush 64, 2) := by decide +kernel
theorem dX4_share_21 : decode cX4_share 21 = .ok (.if_icmp .ge 25, 3) := by decide +kernel
theorem dX4_share_24 : decode cX4_share 24 = .ok (.iload_n 2, 1) := by decide +kernel
theorem dX4_share_25 : decode cX4_share 25 = .ok (.iload_n 1, 1) := by decide +kernel
theorem dX4_share_26 : decode cX4_share 26 = .ok (.iload_n 3, 1) := by decide +kernel
theorem dX4_share_27 : decode cX4_share 27 = .ok (.invokestatic 126, 3) := by decide +kernel
theorem dX4_share_30 : decode cX4_share 30 = .ok (.ifCond .eq 7, 3) := by decide +kernel
theorem dX4_share_33 : decode cX4_share 33 = .ok (.iconst 1, 1) := by decide +kernel
theorem dX4_share_34 : decode cX4_share 34 = .ok (.goto 4, 3) := by decide +kernel
theorem dX4_share_37 : decode cX4_share 37 = .ok (.iconst 0, 1) := by decide +kernel
theorem dX4_share_38 : decode cX4_share 38 = .ok (.iadd, 1) := by decide +kernel
theorem dX4_share_39 : decode cX4_share 39 = .ok (.istore_n 2, 1) := by decide +kernel
theorem dX4_share_40 : decode cX4_share 40 = .ok (.iinc 3 1, 3) := by decide +kernel
theorem dX4_share_43 : decode cX4_share 43 = .ok (.goto (-25), 3) := by decide +kernel
theorem dX4_share_46 : decode cX4_share 46 = .ok (.iload_n 2, 1) := by decide +kernel
theorem dX4_share_47 : decode cX4_share 47 = .ok (.i2f, 1) := by decide +kernel
theorem dX4_share_48 : decode cX4_share 48 = .ok (.fstore_n 3, 1) := by decide +kernel
theorem dX4_share_49 : decode cX4_share 49 = .ok (.fload_n 3, 1) := by decide +kernel
theorem dX4_share_50 : decode cX4_share 50 = .ok (.ldc 145, 2) := by decide +kernel
theorem dX4_share_52 : decode cX4_share 52 = .ok (.fdiv, 1) := by decide +kernel
theorem dX4_share_53 : decode cX4_share 53 = .ok (.invokestatic 146, 3) := by decide +kernel
theorem dX4_share_56 : decode cX4_share 56 = .ok (.ireturn, 1) := by decide +kernel
set_option maxRecDepth 20000 in
theorem ggX4_withStatus_X4_of : GoodIn wsX4_withStatus wsX4_of := goodIn_r _ [6, 1, 7, 8, 9, 10, 11, 12, 13, 14] (by decide +kernel) (by decide +kernel)
set_option maxRecDepth 20000 in
theorem gX4_withStatus_X4_of : GoodIn wsX4_withStatus (wsV RX4 34 RX4 yX4_of wsX4_of) := goodIn_app (goodIn_of _ (by decide +kernel)) ggX4_withStatus_X4_of
theorem dX4_withStatus_0 : decode cX4_withStatus 0 = .ok (.iconst 0, 1) := by decide +kernel
theorem dX4_withStatus_1 : decode cX4_withStatus 1 = .ok (.istore_n 2, 1) := by decide +kernel
theorem dX4_withStatus_2 : decode cX4_withStatus 2 = .ok (.iconst 0, 1) := by decide +kernel
theorem dX4_withStatus_3 : decode cX4_withStatus 3 = .ok (.istore_n 3, 1) := by decide +kernel
theorem dX4_withStatus_4 : decode cX4_withStatus 4 = .ok (.iload_n 3, 1) := by decide +kernel
theorem dX4_withStatus_5 : decode cX4_withStatus 5 = .ok (.aload_n 0, 1) := by decide +kernel
theorem dX4_withStatus_6 : decode cX4_withStatus 6 = .ok (.getfield 7, 3) := by decide +kernel
theorem dX4_withStatus_9 : decode cX4_withStatus 9 = .ok (.iconst 0, 1) := by decide +kernel
theorem dX4_withStatus_10 : decode cX4_withStatus 10 = .ok (.iaload, 1) := by decide +kernel
theorem dX4_withStatus_11 : decode cX4_withStatus 11 = .ok (.if_icmp .ge 27, 3) := by decide +kernel
theorem dX4_withStatus_14 : decode cX4_withStatus 14 = .ok (.iload_n 2, 1) := by decide +kernel
theorem dX4_withStatus_15 : decode cX4_withStatus 15 = .ok (.aload_n 0, 1) := by decide +kernel
theorem dX4_withStatus_16 : decode cX4_withStatus 16 = .ok (.iload_n 3, 1) := by decide +kernel
theorem dX4_withStatus_17 : decode cX4_withStatus 17 = .ok (.iconst 1, 1) := by decide +kernel
theorem dX4_withStatus_18 : decode cX4_withStatus 18 = .ok (.invokevirtual 34, 3) := by decide +kernel
theorem dX4_withStatus_21 : decode cX4_withStatus 21 = .ok (.iload_n 1, 1) := by decide +kernel
theorem dX4_withStatus_22 : decode cX4_withStatus 22 = .ok (.if_icmp .ne 7, 3) := by decide +kernel
theorem dX4_withStatus_25 : decode cX4_withStatus 25 = .ok (.iconst 1, 1) := by decide +kernel
theorem dX4_withStatus_26 : decode cX4_withStatus 26 = .ok (.goto 4, 3) := by decide +kernel
theorem dX4_withStatus_29 : decode cX4_withStatus 29 = .ok (.iconst 0, 1) := by decide +kernel
theorem dX4_withStatus_30 : decode cX4_withStatus 30 = .ok (.iadd, 1) := by decide +kernel
theorem dX4_withStatus_31 : decode cX4_withStatus 31 = .ok (.istore_n 2, 1) := by decide +kernel
theorem dX4_withStatus_32 : decode cX4_withStatus 32 = .ok (.iinc 3 1, 3) := by decide +kernel
theorem dX4_withStatus_35 : decode cX4_withStatus 35 = .ok (.goto (-31), 3) := by decide +kernel
theorem dX4_withStatus_38 : decode cX4_withStatus 38 = .ok (.iload_n 2, 1) := by decide +kernel
theorem dX4_withStatus_39 : decode cX4_withStatus 39 = .ok (.ireturn, 1) := by decide +kernel
set_option maxRecDepth 20000 in
theorem ggX4_count_X4_withStatus : GoodIn wsX4_count wsX4_withStatus := goodIn_r _ [9, 1, 10, 11, 12, 8, 13, 17, 18, 19, 20, 21, 22, 23, 24] (by decide +kernel) (by decide +kernel)
set_option maxRecDepth 20000 in
theorem gX4_count_X4_withStatus : GoodIn wsX4_count (wsV RX4 152 RX4 yX4_withStatus wsX4_withStatus) := goodIn_app (goodIn_of _ (by decide +kernel)) ggX4_count_X4_withStatus
set_option maxRecDepth 20000 in
theorem ggX4_count_X4_in : GoodIn wsX4_count wsX4_in := goodIn_r _ [16] (by decide +kernel) (by decide +kernel)
set_option maxRecDepth 20000 in
theorem gX4_count_X4_in : GoodIn wsX4_count (va_wsS RX4 30 yX4_in wsX4_in) := goodIn_app (goodIn_of _ (by decide +kernel)) ggX4_count_X4_in
theorem dX4_count_0 : decode cX4_count 0 = .ok (.iload_n 1, 1) := by decide +kernel
theorem dX4_count_1 : decode cX4_count 1 = .ok (.tableswitch 108 0 9 #[55, 62, 62, 62, 70, 77, 84, 91, 98, 103], 55) := by decide +kernel
theorem dX4_count_56 : decode cX4_count 56 = .ok (.aload_n 0, 1) := by decide +kernel
theorem dX4_count_57 : decode cX4_count 57 = .ok (.getfield 7, 3) := by decide +kernel
theorem dX4_count_60 : decode cX4_count 60 = .ok (.iconst 0, 1) := by decide +kernel
theorem dX4_count_61 : decode cX4_count 61 = .ok (.iaload, 1) := by decide +kernel
theorem dX4_count_62 : decode cX4_count 62 = .ok (.ireturn, 1) := by decide +kernel
theorem dX4_count_63 : decode cX4_count 63 = .ok (.aload_n 0, 1) := by decide +kernel
theorem dX4_count_64 : decode cX4_count 64 = .ok (.iload_n 1, 1) := by decide +kernel
end
section
theorem dX4_count_65 : decode cX4_count 65 = .ok (.iconst 1, 1) := by decide +kernel
theorem dX4_count_66 : decode cX4_count 66 = .ok (.isub, 1) := by decide +kernel
theorem dX4_count_67 : decode cX4_count 67 = .ok (.invokevirtual 152, 3) := by decide +kernel
theorem dX4_count_70 : decode cX4_count 70 = .ok (.ireturn, 1) := by decide +kernel
theorem dX4_count_71 : decode cX4_count 71 = .ok (.aload_n 0, 1) := by decide +kernel
theorem dX4_count_72 : decode cX4_count 72 = .ok (.getfield 7, 3) := by decide +kernel
theorem dX4_count_75 : decode cX4_count 75 = .ok (.iconst 1, 1) := by decide +kernel
theorem dX4_count_76 : decode cX4_count 76 = .ok (.iaload, 1) := by decide +kernel
theorem dX4_count_77 : decode cX4_count 77 = .ok (.ireturn, 1) := by decide +kernel
theorem dX4_count_78 : decode cX4_count 78 = .ok (.aload_n 0, 1) := by decide +kernel
theorem dX4_count_79 : decode cX4_count 79 = .ok (.getfield 7, 3) := by decide +kernel
theorem dX4_count_82 : decode cX4_count 82 = .ok (.iconst 2, 1) := by decide +kernel
theorem dX4_count_83 : decode cX4_count 83 = .ok (.iaload, 1) := by decide +kernel
theorem dX4_count_84 : decode cX4_count 84 = .ok (.ireturn, 1) := by decide +kernel
theorem dX4_count_85 : decode cX4_count 85 = .ok (.aload_n 0, 1) := by decide +kernel
theorem dX4_count_86 : decode cX4_count 86 = .ok (.getfield 7, 3) := by decide +kernel
theorem dX4_count_89 : decode cX4_count 89 = .ok (.iconst 3, 1) := by decide +kernel
theorem dX4_count_90 : decode cX4_count 90 = .ok (.iaload, 1) := by decide +kernel
theorem dX4_count_91 : decode cX4_count 91 = .ok (.ireturn, 1) := by decide +kernel
theorem dX4_count_92 : decode cX4_count 92 = .ok (.aload_n 0, 1) := by decide +kernel
theorem dX4_count_93 : decode cX4_count 93 = .ok (.getfield 7, 3) := by decide +kernel
theorem dX4_count_96 : decode cX4_count 96 = .ok (.iconst 4, 1) := by decide +kernel
theorem dX4_count_97 : decode cX4_count 97 = .ok (.iaload, 1) := by decide +kernel
theorem dX4_count_98 : decode cX4_count 98 = .ok (.ireturn, 1) := by decide +kernel
theorem dX4_count_99 : decode cX4_count 99 = .ok (.aload_n 0, 1) := by decide +kernel
theorem dX4_count_100 : decode cX4_count 100 = .ok (.getfield 26, 3) := by decide +kernel
theorem dX4_count_103 : decode cX4_count 103 = .ok (.ireturn, 1) := by decide +kernel
theorem dX4_count_104 : decode cX4_count 104 = .ok (.aload_n 0, 1) := by decide +kernel
theorem dX4_count_105 : decode cX4_count 105 = .ok (.getfield 155, 3) := by decide +kernel
theorem dX4_count_108 : decode cX4_count 108 = .ok (.ireturn, 1) := by decide +kernel
theorem dX4_count_109 : decode cX4_count 109 = .ok (.iload_n 1, 1) := by decide +kernel
theorem dX4_count_110 : decode cX4_count 110 = .ok (.bipush 10, 2) := by decide +kernel
theorem dX4_count_112 : decode cX4_count 112 = .ok (.bipush 15, 2) := by decide +kernel
theorem dX4_count_114 : decode cX4_count 114 = .ok (.invokestatic 30, 3) := by decide +kernel
theorem dX4_count_117 : decode cX4_count 117 = .ok (.ifCond .eq 17, 3) := by decide +kernel
theorem dX4_count_120 : decode cX4_count 120 = .ok (.aload_n 0, 1) := by decide +kernel
theorem dX4_count_121 : decode cX4_count 121 = .ok (.getfield 7, 3) := by decide +kernel
theorem dX4_count_124 : decode cX4_count 124 = .ok (.iconst 5, 1) := by decide +kernel
theorem dX4_count_125 : decode cX4_count 125 = .ok (.iload_n 1, 1) := by decide +kernel
theorem dX4_count_126 : decode cX4_count 126 = .ok (.iadd, 1) := by decide +kernel
theorem dX4_count_127 : decode cX4_count 127 = .ok (.bipush 10, 2) := by decide +kernel
theorem dX4_count_129 : decode cX4_count 129 = .ok (.isub, 1) := by decide +kernel
theorem dX4_count_130 : decode cX4_count 130 = .ok (.iaload, 1) := by decide +kernel
theorem dX4_count_131 : decode cX4_count 131 = .ok (.goto 5, 3) := by decide +kernel
theorem dX4_count_134 : decode cX4_count 134 = .ok (.ldc 22, 2) := by decide +kernel
theorem dX4_count_136 : decode cX4_count 136 = .ok (.ireturn, 1) := by decide +kernel
theorem dX4_undo_0 : decode cX4_undo 0 = .ok (.aload_n 0, 1) := by decide +kernel
theorem dX4_undo_1 : decode cX4_undo 1 = .ok (.getfield 26, 3) := by decide +kernel
theorem dX4_undo_4 : decode cX4_undo 4 = .ok (.ifCond .ne 6, 3) := by decide +kernel
theorem dX4_undo_7 : decode cX4_undo 7 = .ok (.ldc 78, 2) := by decide +kernel
theorem dX4_undo_9 : decode cX4_undo 9 = .ok (.ireturn, 1) := by decide +kernel
theorem dX4_undo_10 : decode cX4_undo 10 = .ok (.aload_n 0, 1) := by decide +kernel
theorem dX4_undo_11 : decode cX4_undo 11 = .ok (.dup, 1) := by decide +kernel
theorem dX4_undo_12 : decode cX4_undo 12 = .ok (.getfield 26, 3) := by decide +kernel
theorem dX4_undo_15 : decode cX4_undo 15 = .ok (.iconst 1, 1) := by decide +kernel
theorem dX4_undo_16 : decode cX4_undo 16 = .ok (.isub, 1) := by decide +kernel
theorem dX4_undo_17 : decode cX4_undo 17 = .ok (.putfield 26, 3) := by decide +kernel
theorem dX4_undo_20 : decode cX4_undo 20 = .ok (.iconst 0, 1) := by decide +kernel
theorem dX4_undo_21 : decode cX4_undo 21 = .ok (.istore_n 1, 1) := by decide +kernel
theorem dX4_undo_22 : decode cX4_undo 22 = .ok (.iload_n 1, 1) := by decide +kernel
theorem dX4_undo_23 : decode cX4_undo 23 = .ok (.sipush 251, 3) := by decide +kernel
theorem dX4_undo_26 : decode cX4_undo 26 = .ok (.if_icmp .ge 30, 3) := by decide +kernel
theorem dX4_undo_29 : decode cX4_undo 29 = .ok (.aload_n 0, 1) := by decide +kernel
theorem dX4_undo_30 : decode cX4_undo 30 = .ok (.getfield 7, 3) := by decide +kernel
theorem dX4_undo_33 : decode cX4_undo 33 = .ok (.iload_n 1, 1) := by decide +kernel
theorem dX4_undo_34 : decode cX4_undo 34 = .ok (.aload_n 0, 1) := by decide +kernel
theorem dX4_undo_35 : decode cX4_undo 35 = .ok (.getfield 16, 3) := by decide +kernel
theorem dX4_undo_38 : decode cX4_undo 38 = .ok (.sipush 251, 3) := by decide +kernel
theorem dX4_undo_41 : decode cX4_undo 41 = .ok (.aload_n 0, 1) := by decide +kernel
theorem dX4_undo_42 : decode cX4_undo 42 = .ok (.getfield 26, 3) := by decide +kernel
theorem dX4_undo_45 : decode cX4_undo 45 = .ok (.imul, 1) := by decide +kernel
theorem dX4_undo_46 : decode cX4_undo 46 = .ok (.iload_n 1, 1) := by decide +kernel
theorem dX4_undo_47 : decode cX4_undo 47 = .ok (.iadd, 1) := by decide +kernel
theorem dX4_undo_48 : decode cX4_undo 48 = .ok (.iaload, 1) := by decide +kernel
theorem dX4_undo_49 : decode cX4_undo 49 = .ok (.iastore, 1) := by decide +kernel
theorem dX4_undo_50 : decode cX4_undo 50 = .ok (.iinc 1 1, 3) := by decide +kernel
theorem dX4_undo_53 : decode cX4_undo 53 = .ok (.goto (-31), 3) := by decide +kernel
theorem dX4_undo_56 : decode cX4_undo 56 = .ok (.aload_n 0, 1) := by decide +kernel
theorem dX4_undo_57 : decode cX4_undo 57 = .ok (.getfield 26, 3) := by decide +kernel
theorem dX4_undo_60 : decode cX4_undo 60 = .ok (.ireturn, 1) := by decide +kernel
set_option maxRecDepth 20000 in
theorem ggX4_type_X4_in : GoodIn wsX4_type wsX4_in := goodIn_r _ [8] (by decide +kernel) (by decide +kernel)
set_option maxRecDepth 20000 in
theorem gX4_type_X4_in : GoodIn wsX4_type (va_wsS RX4 30 yX4_in wsX4_in) := goodIn_app (goodIn_of _ (by decide +kernel)) ggX4_type_X4_in
theorem dX4_type_0 : decode cX4_type 0 = .ok (.iload_n 1, 1) := by decide +kernel
theorem dX4_type_1 : decode cX4_type 1 = .ok (.bipush 32, 2) := by decide +kernel
theorem dX4_type_3 : decode cX4_type 3 = .ok (.bipush 126, 2) := by decide +kernel
theorem dX4_type_5 : decode cX4_type 5 = .ok (.invokestatic 30, 3) := by decide +kernel
theorem dX4_type_8 : decode cX4_type 8 = .ok (.ifCond .ne 6, 3) := by decide +kernel
theorem dX4_type_11 : decode cX4_type 11 = .ok (.ldc 22, 2) := by decide +kernel
theorem dX4_type_13 : decode cX4_type 13 = .ok (.ireturn, 1) := by decide +kernel
theorem dX4_type_14 : decode cX4_type 14 = .ok (.aload_n 0, 1) := by decide +kernel
theorem dX4_type_15 : decode cX4_type 15 = .ok (.getfield 155, 3) := by decide +kernel
theorem dX4_type_18 : decode cX4_type 18 = .ok (.bipush 60, 2) := by decide +kernel
theorem dX4_type_20 : decode cX4_type 20 = .ok (.if_icmp .ne 6, 3) := by decide +kernel
theorem dX4_type_23 : decode cX4_type 23 = .ok (.ldc 59, 2) := by decide +kernel
theorem dX4_type_25 : decode cX4_type 25 = .ok (.ireturn, 1) := by decide +kernel
theorem dX4_type_26 : decode cX4_type 26 = .ok (.aload_n 0, 1) := by decide +kernel
theorem dX4_type_27 : decode cX4_type 27 = .ok (.getfield 19, 3) := by decide +kernel
theorem dX4_type_30 : decode cX4_type 30 = .ok (.aload_n 0, 1) := by decide +kernel
theorem dX4_type_31 : decode cX4_type 31 = .ok (.getfield 155, 3) := by decide +kernel
theorem dX4_type_34 : decode cX4_type 34 = .ok (.iload_n 1, 1) := by decide +kernel
theorem dX4_type_35 : decode cX4_type 35 = .ok (.iastore, 1) := by decide +kernel
theorem dX4_type_36 : decode cX4_type 36 = .ok (.aload_n 0, 1) := by decide +kernel
theorem dX4_type_37 : decode cX4_type 37 = .ok (.dup, 1) := by decide +kernel
theorem dX4_type_38 : decode cX4_type 38 = .ok (.getfield 155, 3) := by decide +kernel
theorem dX4_type_41 : decode cX4_type 41 = .ok (.iconst 1, 1) := by decide +kernel
theorem dX4_type_42 : decode cX4_type 42 = .ok (.iadd, 1) := by decide +kernel
theorem dX4_type_43 : decode cX4_type 43 = .ok (.putfield 155, 3) := by decide +kernel
theorem dX4_type_46 : decode cX4_type 46 = .ok (.aload_n 0, 1) := by decide +kernel
theorem dX4_type_47 : decode cX4_type 47 = .ok (.getfield 155, 3) := by decide +kernel
theorem dX4_type_50 : decode cX4_type 50 = .ok (.ireturn, 1) := by decide +kernel
theorem dX4_clearText_0 : decode cX4_clearText 0 = .ok (.aload_n 0, 1) := by decide +kernel
theorem dX4_clearText_1 : decode cX4_clearText 1 = .ok (.getfield 155, 3) := by decide +kernel
theorem dX4_clearText_4 : decode cX4_clearText 4 = .ok (.istore_n 1, 1) := by decide +kernel
theorem dX4_clearText_5 : decode cX4_clearText 5 = .ok (.aload_n 0, 1) := by decide +kernel
theorem dX4_clearText_6 : decode cX4_clearText 6 = .ok (.iconst 0, 1) := by decide +kernel
theorem dX4_clearText_7 : decode cX4_clearText 7 = .ok (.putfield 155, 3) := by decide +kernel
theorem dX4_clearText_10 : decode cX4_clearText 10 = .ok (.iload_n 1, 1) := by decide +kernel
theorem dX4_clearText_11 : decode cX4_clearText 11 = .ok (.ireturn, 1) := by decide +kernel
theorem dX4_here_0 : decode cX4_here 0 = .ok (.aload_n 0, 1) := by decide +kernel
theorem dX4_here_1 : decode cX4_here 1 = .ok (.getfield 158, 3) := by decide +kernel
theorem dX4_here_4 : decode cX4_here 4 = .ok (.aload_n 0, 1) := by decide +kernel
theorem dX4_here_5 : decode cX4_here 5 = .ok (.getfield 155, 3) := by decide +kernel
theorem dX4_here_8 : decode cX4_here 8 = .ok (.if_icmp .ge 15, 3) := by decide +kernel
theorem dX4_here_11 : decode cX4_here 11 = .ok (.aload_n 0, 1) := by decide +kernel
theorem dX4_here_12 : decode cX4_here 12 = .ok (.getfield 19, 3) := by decide +kernel
theorem dX4_here_15 : decode cX4_here 15 = .ok (.aload_n 0, 1) := by decide +kernel
theorem dX4_here_16 : decode cX4_here 16 = .ok (.getfield 158, 3) := by decide +kernel
theorem dX4_here_19 : decode cX4_here 19 = .ok (.iaload, 1) := by decide +kernel
theorem dX4_here_20 : decode cX4_here 20 = .ok (.goto 4, 3) := by decide +kernel
theorem dX4_here_23 : decode cX4_here 23 = .ok (.iconst (-1), 1) := by decide +kernel
theorem dX4_here_24 : decode cX4_here 24 = .ok (.ireturn, 1) := by decide +kernel
set_option maxRecDepth 20000 in
theorem ggX4_reads_X4_here : GoodIn wsX4_reads wsX4_here := goodIn_r _ [7, 2, 8, 9, 13, 14, 15, 16, 17, 18, 19, 20] (by decide +kernel) (by decide +kernel)
set_option maxRecDepth 20000 in
theorem gX4_reads_X4_here : GoodIn wsX4_reads (wsV RX4 164 RX4 yX4_here wsX4_here) := goodIn_app (goodIn_of _ (by decide +kernel)) ggX4_reads_X4_here
set_option maxRecDepth 20000 in
theorem ggX4_reads_X4_in : GoodIn wsX4_reads wsX4_in := goodIn_r _ [12] (by decide +kernel) (by decide +kernel)
set_option maxRecDepth 20000 in
theorem gX4_reads_X4_in : GoodIn wsX4_reads (va_wsS RX4 30 yX4_in wsX4_in) := goodIn_app (goodIn_of _ (by decide +kernel)) ggX4_reads_X4_in
theorem dX4_reads_0 : decode cX4_reads 0 = .ok (.aload_n 0, 1) := by decide +kernel
theorem dX4_reads_1 : decode cX4_reads 1 = .ok (.iconst 0, 1) := by decide +kernel
theorem dX4_reads_2 : decode cX4_reads 2 = .ok (.putfield 161, 3) := by decide +kernel
theorem dX4_reads_5 : decode cX4_reads 5 = .ok (.aload_n 0, 1) := by decide +kernel
theorem dX4_reads_6 : decode cX4_reads 6 = .ok (.invokevirtual 164, 3) := by decide +kernel
theorem dX4_reads_9 : decode cX4_reads 9 = .ok (.bipush 97, 2) := by decide +kernel
theorem dX4_reads_11 : decode cX4_reads 11 = .ok (.bipush 102, 2) := by decide +kernel
theorem dX4_reads_13 : decode cX4_reads 13 = .ok (.invokestatic 30, 3) := by decide +kernel
theorem dX4_reads_16 : decode cX4_reads 16 = .ok (.ifCond .ne 12, 3) := by decide +kernel
theorem dX4_reads_19 : decode cX4_reads 19 = .ok (.aload_n 0, 1) := by decide +kernel
theorem dX4_reads_20 : decode cX4_reads 20 = .ok (.invokevirtual 164, 3) := by decide +kernel
theorem dX4_reads_23 : decode cX4_reads 23 = .ok (.bipush 45, 2) := by decide +kernel
theorem dX4_reads_25 : decode cX4_reads 25 = .ok (.if_icmp .ne 79, 3) := by decide +kernel
theorem dX4_reads_28 : decode cX4_reads 28 = .ok (.aload_n 0, 1) := by decide +kernel
theorem dX4_reads_29 : decode cX4_reads 29 = .ok (.invokevirtual 164, 3) := by decide +kernel
theorem dX4_reads_32 : decode cX4_reads 32 = .ok (.bipush 45, 2) := by decide +kernel
theorem dX4_reads_34 : decode cX4_reads 34 = .ok (.if_icmp .ne 7, 3) := by decide +kernel
theorem dX4_reads_37 : decode cX4_reads 37 = .ok (.iconst 1, 1) := by decide +kernel
theorem dX4_reads_38 : decode cX4_reads 38 = .ok (.goto 4, 3) := by decide +kernel
theorem dX4_reads_41 : decode cX4_reads 41 = .ok (.iconst 0, 1) := by decide +kernel
theorem dX4_reads_42 : decode cX4_reads 42 = .ok (.istore_n 1, 1) := by decide +kernel
theorem dX4_reads_43 : decode cX4_reads 43 = .ok (.aload_n 0, 1) := by decide +kernel
theorem dX4_reads_44 : decode cX4_reads 44 = .ok (.dup, 1) := by decide +kernel
theorem dX4_reads_45 : decode cX4_reads 45 = .ok (.getfield 158, 3) := by decide +kernel
theorem dX4_reads_48 : decode cX4_reads 48 = .ok (.iload_n 1, 1) := by decide +kernel
theorem dX4_reads_49 : decode cX4_reads 49 = .ok (.iadd, 1) := by decide +kernel
theorem dX4_reads_50 : decode cX4_reads 50 = .ok (.putfield 158, 3) := by decide +kernel
theorem dX4_reads_53 : decode cX4_reads 53 = .ok (.aload_n 0, 1) := by decide +kernel
theorem dX4_reads_54 : decode cX4_reads 54 = .ok (.invokevirtual 164, 3) := by decide +kernel
theorem dX4_reads_57 : decode cX4_reads 57 = .ok (.bipush 97, 2) := by decide +kernel
theorem dX4_reads_59 : decode cX4_reads 59 = .ok (.bipush 102, 2) := by decide +kernel
theorem dX4_reads_61 : decode cX4_reads 61 = .ok (.invokestatic 30, 3) := by decide +kernel
theorem dX4_reads_64 : decode cX4_reads 64 = .ok (.ifCond .ne 5, 3) := by decide +kernel
theorem dX4_reads_67 : decode cX4_reads 67 = .ok (.iconst 0, 1) := by decide +kernel
theorem dX4_reads_68 : decode cX4_reads 68 = .ok (.ireturn, 1) := by decide +kernel
theorem dX4_reads_69 : decode cX4_reads 69 = .ok (.aload_n 0, 1) := by decide +kernel
theorem dX4_reads_70 : decode cX4_reads 70 = .ok (.dup, 1) := by decide +kernel
theorem dX4_reads_71 : decode cX4_reads 71 = .ok (.getfield 161, 3) := by decide +kernel
theorem dX4_reads_74 : decode cX4_reads 74 = .ok (.iconst 1, 1) := by decide +kernel
theorem dX4_reads_75 : decode cX4_reads 75 = .ok (.iconst 2, 1) := by decide +kernel
theorem dX4_reads_76 : decode cX4_reads 76 = .ok (.aload_n 0, 1) := by decide +kernel
theorem dX4_reads_77 : decode cX4_reads 77 = .ok (.invokevirtual 164, 3) := by decide +kernel
theorem dX4_reads_80 : decode cX4_reads 80 = .ok (.bipush 97, 2) := by decide +kernel
theorem dX4_reads_82 : decode cX4_reads 82 = .ok (.isub, 1) := by decide +kernel
theorem dX4_reads_83 : decode cX4_reads 83 = .ok (.imul, 1) := by decide +kernel
theorem dX4_reads_84 : decode cX4_reads 84 = .ok (.iload_n 1, 1) := by decide +kernel
theorem dX4_reads_85 : decode cX4_reads 85 = .ok (.iadd, 1) := by decide +kernel
theorem dX4_reads_86 : decode cX4_reads 86 = .ok (.ishl, 1) := by decide +kernel
theorem dX4_reads_87 : decode cX4_reads 87 = .ok (.ior, 1) := by decide +kernel
theorem dX4_reads_88 : decode cX4_reads 88 = .ok (.putfield 161, 3) := by decide +kernel
theorem dX4_reads_91 : decode cX4_reads 91 = .ok (.aload_n 0, 1) := by decide +kernel
theorem dX4_reads_92 : decode cX4_reads 92 = .ok (.dup, 1) := by decide +kernel
theorem dX4_reads_93 : decode cX4_reads 93 = .ok (.getfield 158, 3) := by decide +kernel
theorem dX4_reads_96 : decode cX4_reads 96 = .ok (.iconst 1, 1) := by decide +kernel
theorem dX4_reads_97 : decode cX4_reads 97 = .ok (.iadd, 1) := by decide +kernel
theorem dX4_reads_98 : decode cX4_reads 98 = .ok (.putfield 158, 3) := by decide +kernel
theorem dX4_reads_101 : decode cX4_reads 101 = .ok (.goto (-96), 3) := by decide +kernel
theorem dX4_reads_104 : decode cX4_reads 104 = .ok (.aload_n 0, 1) := by decide +kernel
theorem dX4_reads_105 : decode cX4_reads 105 = .ok (.invokevirtual 164, 3) := by decide +kernel
theorem dX4_reads_108 : decode cX4_reads 108 = .ok (.bipush 59, 2) := by decide +kernel
theorem dX4_reads_110 : decode cX4_reads 110 = .ok (.if_icmp .ne 7, 3) := by decide +kernel
theorem dX4_reads_113 : decode cX4_reads 113 = .ok (.iconst 1, 1) := by decide +kernel
theorem dX4_reads_114 : decode cX4_reads 114 = .ok (.goto 4, 3) := by decide +kernel
theorem dX4_reads_117 : decode cX4_reads 117 = .ok (.iconst 0, 1) := by decide +kernel
theorem dX4_reads_118 : decode cX4_reads 118 = .ok (.istore_n 1, 1) := by decide +kernel
theorem dX4_reads_119 : decode cX4_reads 119 = .ok (.aload_n 0, 1) := by decide +kernel
theorem dX4_reads_120 : decode cX4_reads 120 = .ok (.dup, 1) := by decide +kernel
theorem dX4_reads_121 : decode cX4_reads 121 = .ok (.getfield 158, 3) := by decide +kernel
theorem dX4_reads_124 : decode cX4_reads 124 = .ok (.iload_n 1, 1) := by decide +kernel
theorem dX4_reads_125 : decode cX4_reads 125 = .ok (.ifCond .eq 7, 3) := by decide +kernel
theorem dX4_reads_128 : decode cX4_reads 128 = .ok (.iconst 1, 1) := by decide +kernel
theorem dX4_reads_129 : decode cX4_reads 129 = .ok (.goto 4, 3) := by decide +kernel
theorem dX4_reads_132 : decode cX4_reads 132 = .ok (.iconst 0, 1) := by decide +kernel
theorem dX4_reads_133 : decode cX4_reads 133 = .ok (.iadd, 1) := by decide +kernel
theorem dX4_reads_134 : decode cX4_reads 134 = .ok (.putfield 158, 3) := by decide +kernel
theorem dX4_reads_137 : decode cX4_reads 137 = .ok (.iload_n 1, 1) := by decide +kernel
theorem dX4_reads_138 : decode cX4_reads 138 = .ok (.ireturn, 1) := by decide +kernel
set_option maxRecDepth 20000 in
theorem ggX4_brokenAt_X4_reads : GoodIn wsX4_brokenAt wsX4_reads := goodIn_r _ [7, 8, 1, 9, 10, 11, 6, 12, 2, 13, 14, 15, 16, 17, 18, 19, 20, 21, 22, 23, 24] (by decide +kernel) (by decide +kernel)
set_option maxRecDepth 20000 in
theorem gX4_brokenAt_X4_reads : GoodIn wsX4_brokenAt (wsV RX4 167 RX4 yX4_reads wsX4_reads) := goodIn_app (goodIn_of _ (by decide +kernel)) ggX4_brokenAt_X4_reads
theorem dX4_brokenAt_0 : decode cX4_brokenAt 0 = .ok (.aload_n 0, 1) := by decide +kernel
theorem dX4_brokenAt_1 : decode cX4_brokenAt 1 = .ok (.iconst 0, 1) := by decide +kernel
theorem dX4_brokenAt_2 : decode cX4_brokenAt 2 = .ok (.putfield 158, 3) := by decide +kernel
theorem dX4_brokenAt_5 : decode cX4_brokenAt 5 = .ok (.aload_n 0, 1) := by decide +kernel
theorem dX4_brokenAt_6 : decode cX4_brokenAt 6 = .ok (.getfield 158, 3) := by decide +kernel
theorem dX4_brokenAt_9 : decode cX4_brokenAt 9 = .ok (.aload_n 0, 1) := by decide +kernel
theorem dX4_brokenAt_10 : decode cX4_brokenAt 10 = .ok (.getfield 155, 3) := by decide +kernel
theorem dX4_brokenAt_13 : decode cX4_brokenAt 13 = .ok (.if_icmp .ge 20, 3) := by decide +kernel
theorem dX4_brokenAt_16 : decode cX4_brokenAt 16 = .ok (.aload_n 0, 1) := by decide +kernel
theorem dX4_brokenAt_17 : decode cX4_brokenAt 17 = .ok (.getfield 158, 3) := by decide +kernel
theorem dX4_brokenAt_20 : decode cX4_brokenAt 20 = .ok (.istore_n 1, 1) := by decide +kernel
theorem dX4_brokenAt_21 : decode cX4_brokenAt 21 = .ok (.aload_n 0, 1) := by decide +kernel
theorem dX4_brokenAt_22 : decode cX4_brokenAt 22 = .ok (.invokevirtual 167, 3) := by decide +kernel
theorem dX4_brokenAt_25 : decode cX4_brokenAt 25 = .ok (.ifCond .ne 5, 3) := by decide +kernel
theorem dX4_brokenAt_28 : decode cX4_brokenAt 28 = .ok (.iload_n 1, 1) := by decide +kernel
theorem dX4_brokenAt_29 : decode cX4_brokenAt 29 = .ok (.ireturn, 1) := by decide +kernel
theorem dX4_brokenAt_30 : decode cX4_brokenAt 30 = .ok (.goto (-25), 3) := by decide +kernel
theorem dX4_brokenAt_33 : decode cX4_brokenAt 33 = .ok (.iconst (-1), 1) := by decide +kernel
theorem dX4_brokenAt_34 : decode cX4_brokenAt 34 = .ok (.ireturn, 1) := by decide +kernel
set_option maxRecDepth 20000 in
theorem ggX4_fault_X4_in : GoodIn wsX4_fault wsX4_in := goodIn_r _ [7] (by decide +kernel) (by decide +kernel)
set_option maxRecDepth 20000 in
theorem gX4_fault_X4_in : GoodIn wsX4_fault (va_wsS RX4 30 yX4_in wsX4_in) := goodIn_app (goodIn_of _ (by decide +kernel)) ggX4_fault_X4_in
set_option maxRecDepth 20000 in
theorem ggX4_fault_X4_brokenAt : GoodIn wsX4_fault wsX4_brokenAt := goodIn_r _ [11, 3, 12, 13, 14, 15, 6, 16, 17, 18, 19, 20, 21, 22, 4, 5, 7, 23, 24, 25, 26, 27, 28, 29, 30] (by decide +kernel) (by decide +kernel)
set_option maxRecDepth 20000 in
theorem gX4_fault_X4_brokenAt : GoodIn wsX4_fault (wsV RX4 171 RX4 yX4_brokenAt wsX4_brokenAt) := goodIn_app (goodIn_of _ (by decide +kernel)) ggX4_fault_X4_brokenAt
theorem dX4_fault_0 : decode cX4_fault 0 = .ok (.iload_n 1, 1) := by decide +kernel
theorem dX4_fault_1 : decode cX4_fault 1 = .ok (.iconst 0, 1) := by decide +kernel
theorem dX4_fault_2 : decode cX4_fault 2 = .ok (.iconst 1, 1) := by decide +kernel
theorem dX4_fault_3 : decode cX4_fault 3 = .ok (.invokestatic 30, 3) := by decide +kernel
theorem dX4_fault_6 : decode cX4_fault 6 = .ok (.ifCond .ne 6, 3) := by decide +kernel
theorem dX4_fault_9 : decode cX4_fault 9 = .ok (.ldc 22, 2) := by decide +kernel
theorem dX4_fault_11 : decode cX4_fault 11 = .ok (.ireturn, 1) := by decide +kernel
theorem dX4_fault_12 : decode cX4_fault 12 = .ok (.aload_n 0, 1) := by decide +kernel
theorem dX4_fault_13 : decode cX4_fault 13 = .ok (.invokevirtual 171, 3) := by decide +kernel
theorem dX4_fault_16 : decode cX4_fault 16 = .ok (.istore_n 2, 1) := by decide +kernel
theorem dX4_fault_17 : decode cX4_fault 17 = .ok (.iload_n 2, 1) := by decide +kernel
theorem dX4_fault_18 : decode cX4_fault 18 = .ok (.ifCond .ge 8, 3) := by decide +kernel
theorem dX4_fault_21 : decode cX4_fault 21 = .ok (.ldc 106, 2) := by decide +kernel
theorem dX4_fault_23 : decode cX4_fault 23 = .ok (.goto 17, 3) := by decide +kernel
theorem dX4_fault_26 : decode cX4_fault 26 = .ok (.iload_n 1, 1) := by decide +kernel
theorem dX4_fault_27 : decode cX4_fault 27 = .ok (.ifCond .ne 7, 3) := by decide +kernel
theorem dX4_fault_30 : decode cX4_fault 30 = .ok (.iload_n 2, 1) := by decide +kernel
theorem dX4_fault_31 : decode cX4_fault 31 = .ok (.goto 9, 3) := by decide +kernel
theorem dX4_fault_34 : decode cX4_fault 34 = .ok (.aload_n 0, 1) := by decide +kernel
theorem dX4_fault_35 : decode cX4_fault 35 = .ok (.getfield 158, 3) := by decide +kernel
theorem dX4_fault_38 : decode cX4_fault 38 = .ok (.iload_n 2, 1) := by decide +kernel
theorem dX4_fault_39 : decode cX4_fault 39 = .ok (.isub, 1) := by decide +kernel
theorem dX4_fault_40 : decode cX4_fault 40 = .ok (.ireturn, 1) := by decide +kernel
set_option maxRecDepth 20000 in
theorem ggX4_plays_X4_reads : GoodIn wsX4_plays wsX4_reads := goodIn_r _ [9, 3, 1, 10, 11, 12, 8, 13, 2, 14, 15, 16, 17, 42, 43, 44, 45, 46, 47, 48, 49] (by decide +kernel) (by decide +kernel)
set_option maxRecDepth 20000 in
theorem gX4_plays_X4_reads : GoodIn wsX4_plays (wsV RX4 167 RX4 yX4_reads wsX4_reads) := goodIn_app (goodIn_of _ (by decide +kernel)) ggX4_plays_X4_reads
set_option maxRecDepth 20000 in
theorem ggX4_plays_X4_comes : GoodIn wsX4_plays wsX4_comes := goodIn_r _ [21, 22, 4, 23, 24, 8, 25, 26, 27, 28, 29, 30, 31, 32, 33, 34, 35, 36, 37, 38, 39, 40, 41, 42, 43, 44, 45, 46, 47, 48, 49] (by decide +kernel) (by decide +kernel)
set_option maxRecDepth 20000 in
theorem gX4_plays_X4_comes : GoodIn wsX4_plays (wsV RX4 71 RX4 yX4_comes wsX4_comes) := goodIn_app (goodIn_of _ (by decide +kernel)) ggX4_plays_X4_comes
theorem dX4_plays_0 : decode cX4_plays 0 = .ok (.aload_n 0, 1) := by decide +kernel
theorem dX4_plays_1 : decode cX4_plays 1 = .ok (.iconst 0, 1) := by decide +kernel
theorem dX4_plays_2 : decode cX4_plays 2 = .ok (.putfield 158, 3) := by decide +kernel
theorem dX4_plays_5 : decode cX4_plays 5 = .ok (.iconst 0, 1) := by decide +kernel
theorem dX4_plays_6 : decode cX4_plays 6 = .ok (.istore_n 1, 1) := by decide +kernel
theorem dX4_plays_7 : decode cX4_plays 7 = .ok (.aload_n 0, 1) := by decide +kernel
theorem dX4_plays_8 : decode cX4_plays 8 = .ok (.getfield 158, 3) := by decide +kernel
theorem dX4_plays_11 : decode cX4_plays 11 = .ok (.aload_n 0, 1) := by decide +kernel
theorem dX4_plays_12 : decode cX4_plays 12 = .ok (.getfield 155, 3) := by decide +kernel
theorem dX4_plays_15 : decode cX4_plays 15 = .ok (.if_icmp .ge 49, 3) := by decide +kernel
theorem dX4_plays_18 : decode cX4_plays 18 = .ok (.aload_n 0, 1) := by decide +kernel
theorem dX4_plays_19 : decode cX4_plays 19 = .ok (.invokevirtual 167, 3) := by decide +kernel
theorem dX4_plays_22 : decode cX4_plays 22 = .ok (.ifCond .eq 17, 3) := by decide +kernel
theorem dX4_plays_25 : decode cX4_plays 25 = .ok (.aload_n 0, 1) := by decide +kernel
theorem dX4_plays_26 : decode cX4_plays 26 = .ok (.aload_n 0, 1) := by decide +kernel
theorem dX4_plays_27 : decode cX4_plays 27 = .ok (.getfield 161, 3) := by decide +kernel
theorem dX4_plays_30 : decode cX4_plays 30 = .ok (.iconst (-1), 1) := by decide +kernel
theorem dX4_plays_31 : decode cX4_plays 31 = .ok (.iconst (-1), 1) := by decide +kernel
theorem dX4_plays_32 : decode cX4_plays 32 = .ok (.iconst (-1), 1) := by decide +kernel
theorem dX4_plays_33 : decode cX4_plays 33 = .ok (.invokevirtual 71, 3) := by decide +kernel
theorem dX4_plays_36 : decode cX4_plays 36 = .ok (.goto 4, 3) := by decide +kernel
theorem dX4_plays_39 : decode cX4_plays 39 = .ok (.iconst (-1), 1) := by decide +kernel
theorem dX4_plays_40 : decode cX4_plays 40 = .ok (.istore_n 2, 1) := by decide +kernel
theorem dX4_plays_41 : decode cX4_plays 41 = .ok (.iload_n 2, 1) := by decide +kernel
theorem dX4_plays_42 : decode cX4_plays 42 = .ok (.ldc 59, 2) := by decide +kernel
theorem dX4_plays_44 : decode cX4_plays 44 = .ok (.if_icmp .ne 5, 3) := by decide +kernel
theorem dX4_plays_47 : decode cX4_plays 47 = .ok (.iload_n 2, 1) := by decide +kernel
theorem dX4_plays_48 : decode cX4_plays 48 = .ok (.ireturn, 1) := by decide +kernel
theorem dX4_plays_49 : decode cX4_plays 49 = .ok (.iload_n 1, 1) := by decide +kernel
theorem dX4_plays_50 : decode cX4_plays 50 = .ok (.iload_n 2, 1) := by decide +kernel
theorem dX4_plays_51 : decode cX4_plays 51 = .ok (.ifCond .lt 7, 3) := by decide +kernel
theorem dX4_plays_54 : decode cX4_plays 54 = .ok (.iconst 1, 1) := by decide +kernel
theorem dX4_plays_55 : decode cX4_plays 55 = .ok (.goto 4, 3) := by decide +kernel
theorem dX4_plays_58 : decode cX4_plays 58 = .ok (.iconst 0, 1) := by decide +kernel
theorem dX4_plays_59 : decode cX4_plays 59 = .ok (.iadd, 1) := by decide +kernel
theorem dX4_plays_60 : decode cX4_plays 60 = .ok (.istore_n 1, 1) := by decide +kernel
theorem dX4_plays_61 : decode cX4_plays 61 = .ok (.goto (-54), 3) := by decide +kernel
theorem dX4_plays_64 : decode cX4_plays 64 = .ok (.iload_n 1, 1) := by decide +kernel
theorem dX4_plays_65 : decode cX4_plays 65 = .ok (.ireturn, 1) := by decide +kernel
set_option maxRecDepth 20000 in
theorem ggX4_play_X4_brokenAt : GoodIn wsX4_play wsX4_brokenAt := goodIn_r _ [6, 7, 8, 9, 10, 11, 5, 12, 13, 14, 15, 16, 17, 18, 19, 20, 21, 67, 68, 69, 70, 71, 72, 73, 74] (by decide +kernel) (by decide +kernel)
set_option maxRecDepth 20000 in
theorem gX4_play_X4_brokenAt : GoodIn wsX4_play (wsV RX4 171 RX4 yX4_brokenAt wsX4_brokenAt) := goodIn_app (goodIn_of _ (by decide +kernel)) ggX4_play_X4_brokenAt
set_option maxRecDepth 20000 in
theorem ggX4_play_X4_begins : GoodIn wsX4_play wsX4_begins := goodIn_r _ [25, 26, 27, 67, 68, 69, 70, 71, 72, 73, 74] (by decide +kernel) (by decide +kernel)
set_option maxRecDepth 20000 in
theorem gX4_play_X4_begins : GoodIn wsX4_play (wsV RX4 88 RX4 yX4_begins wsX4_begins) := goodIn_app (goodIn_of _ (by decide +kernel)) ggX4_play_X4_begins
set_option maxRecDepth 20000 in
theorem ggX4_play_X4_plays : GoodIn wsX4_play wsX4_plays := goodIn_r _ [31, 7, 8, 13, 32, 9, 10, 11, 5, 12, 14, 15, 16, 17, 18, 19, 20, 21, 33, 34, 35, 36, 27, 37, 38, 39, 40, 41, 42, 43, 44, 45, 46, 47, 48, 49, 50, 51, 52, 53, 54, 55, 67, 68, 69, 70, 71, 72, 73, 74] (by decide +kernel) (by decide +kernel)
set_option maxRecDepth 20000 in
theorem gX4_play_X4_plays : GoodIn wsX4_play (wsV RX4 174 RX4 yX4_plays wsX4_plays) := goodIn_app (goodIn_of _ (by decide +kernel)) ggX4_play_X4_plays
set_option maxRecDepth 20000 in
theorem ggX4_play_X4_acted : GoodIn wsX4_play wsX4_acted := goodIn_r _ [59, 60, 61, 62, 26, 63, 64, 65, 5, 66, 27, 67, 68, 69, 70, 71, 72, 73, 74] (by decide +kernel) (by decide +kernel)
set_option maxRecDepth 20000 in
theorem gX4_play_X4_acted : GoodIn wsX4_play (wsV RX4 91 RX4 yX4_acted wsX4_acted) := goodIn_app (goodIn_of _ (by decide +kernel)) ggX4_play_X4_acted
theorem dX4_play_0 : decode cX4_play 0 = .ok (.aload_n 0, 1) := by decide +kernel
theorem dX4_play_1 : decode cX4_play 1 = .ok (.invokevirtual 171, 3) := by decide +kernel
theorem dX4_play_4 : decode cX4_play 4 = .ok (.ifCond .lt 6, 3) := by decide +kernel
theorem dX4_play_7 : decode cX4_play 7 = .ok (.ldc 78, 2) := by decide +kernel
theorem dX4_play_9 : decode cX4_play 9 = .ok (.ireturn, 1) := by decide +kernel
theorem dX4_play_10 : decode cX4_play 10 = .ok (.aload_n 0, 1) := by decide +kernel
theorem dX4_play_11 : decode cX4_play 11 = .ok (.invokevirtual 88, 3) := by decide +kernel
theorem dX4_play_14 : decode cX4_play 14 = .ok (.aload_n 0, 1) := by decide +kernel
theorem dX4_play_15 : decode cX4_play 15 = .ok (.aload_n 0, 1) := by decide +kernel
theorem dX4_play_16 : decode cX4_play 16 = .ok (.invokevirtual 174, 3) := by decide +kernel
theorem dX4_play_19 : decode cX4_play 19 = .ok (.invokevirtual 91, 3) := by decide +kernel
theorem dX4_play_22 : decode cX4_play 22 = .ok (.ireturn, 1) := by decide +kernel
theorem dJxf58ca_isNaN_12338_0 : decode cJxf58ca_isNaN_12338 0 = .ok (.fload_n 0, 1) := by decide +kernel
theorem dJxf58ca_isNaN_12338_1 : decode cJxf58ca_isNaN_12338 1 = .ok (.fload_n 0, 1) := by decide +kernel
theorem dJxf58ca_isNaN_12338_2 : decode cJxf58ca_isNaN_12338 2 = .ok (.fcmp .l, 1) := by decide +kernel
theorem dJxf58ca_isNaN_12338_3 : decode cJxf58ca_isNaN_12338 3 = .ok (.ifCond .eq 7, 3) := by decide +kernel
theorem dJxf58ca_isNaN_12338_6 : decode cJxf58ca_isNaN_12338 6 = .ok (.iconst 1, 1) := by decide +kernel
theorem dJxf58ca_isNaN_12338_7 : decode cJxf58ca_isNaN_12338 7 = .ok (.goto 4, 3) := by decide +kernel
theorem dJxf58ca_isNaN_12338_10 : decode cJxf58ca_isNaN_12338 10 = .ok (.iconst 0, 1) := by decide +kernel
theorem dJxf58ca_isNaN_12338_11 : decode cJxf58ca_isNaN_12338 11 = .ok (.ireturn, 1) := by decide +kernel
set_option maxRecDepth 20000 in
theorem ggJxf58ca_floatToIntBits_5c35a_Jxf58ca_isNaN_12338 : GoodIn wsJxf58ca_floatToIntBits_5c35a wsJxf58ca_isNaN_12338 := goodIn_r _ [9] (by decide +kernel) (by decide +kernel)
set_option maxRecDepth 20000 in
theorem gJxf58ca_floatToIntBits_5c35a_Jxf58ca_isNaN_12338 : GoodIn wsJxf58ca_floatToIntBits_5c35a (va_wsS RJxf58ca 59 yJxf58ca_isNaN_12338 wsJxf58ca_isNaN_12338) := goodIn_app (goodIn_of _ (by decide +kernel)) ggJxf58ca_floatToIntBits_5c35a_Jxf58ca_isNaN_12338
theorem dJxf58ca_floatToIntBits_5c35a_0 : decode cJxf58ca_floatToIntBits_5c35a 0 = .ok (.fload_n 0, 1) := by decide +kernel
theorem dJxf58ca_floatToIntBits_5c35a_1 : decode cJxf58ca_floatToIntBits_5c35a 1 = .ok (.invokestatic 59, 3) := by decide +kernel
theorem dJxf58ca_floatToIntBits_5c35a_4 : decode cJxf58ca_floatToIntBits_5c35a 4 = .ok (.ifCond .ne 8, 3) := by decide +kernel
theorem dJxf58ca_floatToIntBits_5c35a_7 : decode cJxf58ca_floatToIntBits_5c35a 7 = .ok (.fload_n 0, 1) := by decide +kernel
theorem dJxf58ca_floatToIntBits_5c35a_8 : decode cJxf58ca_floatToIntBits_5c35a 8 = .ok (.invokestatic 74, 3) := by decide +kernel
theorem dJxf58ca_floatToIntBits_5c35a_11 : decode cJxf58ca_floatToIntBits_5c35a 11 = .ok (.ireturn, 1) := by decide +kernel
theorem dJxf58ca_floatToIntBits_5c35a_12 : decode cJxf58ca_floatToIntBits_5c35a 12 = .ok (.ldc 77, 2) := by decide +kernel
theorem dJxf58ca_floatToIntBits_5c35a_14 : decode cJxf58ca_floatToIntBits_5c35a 14 = .ok (.ireturn, 1) := by decide +kernel
theorem dJ6_bitCount_0f7a4_0 : decode cJ6_bitCount_0f7a4 0 = .ok (.iload_n 0, 1) := by decide +kernel
theorem dJ6_bitCount_0f7a4_1 : decode cJ6_bitCount_0f7a4 1 = .ok (.iload_n 0, 1) := by decide +kernel
theorem dJ6_bitCount_0f7a4_2 : decode cJ6_bitCount_0f7a4 2 = .ok (.iconst 1, 1) := by decide +kernel
theorem dJ6_bitCount_0f7a4_3 : decode cJ6_bitCount_0f7a4 3 = .ok (.iushr, 1) := by decide +kernel
theorem dJ6_bitCount_0f7a4_4 : decode cJ6_bitCount_0f7a4 4 = .ok (.ldc_w 265, 3) := by decide +kernel
theorem dJ6_bitCount_0f7a4_7 : decode cJ6_bitCount_0f7a4 7 = .ok (.iand, 1) := by decide +kernel
theorem dJ6_bitCount_0f7a4_8 : decode cJ6_bitCount_0f7a4 8 = .ok (.isub, 1) := by decide +kernel
theorem dJ6_bitCount_0f7a4_9 : decode cJ6_bitCount_0f7a4 9 = .ok (.istore_n 0, 1) := by decide +kernel
theorem dJ6_bitCount_0f7a4_10 : decode cJ6_bitCount_0f7a4 10 = .ok (.iload_n 0, 1) := by decide +kernel
theorem dJ6_bitCount_0f7a4_11 : decode cJ6_bitCount_0f7a4 11 = .ok (.ldc_w 266, 3) := by decide +kernel
theorem dJ6_bitCount_0f7a4_14 : decode cJ6_bitCount_0f7a4 14 = .ok (.iand, 1) := by decide +kernel
theorem dJ6_bitCount_0f7a4_15 : decode cJ6_bitCount_0f7a4 15 = .ok (.iload_n 0, 1) := by decide +kernel
theorem dJ6_bitCount_0f7a4_16 : decode cJ6_bitCount_0f7a4 16 = .ok (.iconst 2, 1) := by decide +kernel
theorem dJ6_bitCount_0f7a4_17 : decode cJ6_bitCount_0f7a4 17 = .ok (.iushr, 1) := by decide +kernel
theorem dJ6_bitCount_0f7a4_18 : decode cJ6_bitCount_0f7a4 18 = .ok (.ldc_w 266, 3) := by decide +kernel
theorem dJ6_bitCount_0f7a4_21 : decode cJ6_bitCount_0f7a4 21 = .ok (.iand, 1) := by decide +kernel
theorem dJ6_bitCount_0f7a4_22 : decode cJ6_bitCount_0f7a4 22 = .ok (.iadd, 1) := by decide +kernel
theorem dJ6_bitCount_0f7a4_23 : decode cJ6_bitCount_0f7a4 23 = .ok (.istore_n 0, 1) := by decide +kernel
theorem dJ6_bitCount_0f7a4_24 : decode cJ6_bitCount_0f7a4 24 = .ok (.iload_n 0, 1) := by decide +kernel
theorem dJ6_bitCount_0f7a4_25 : decode cJ6_bitCount_0f7a4 25 = .ok (.iload_n 0, 1) := by decide +kernel
theorem dJ6_bitCount_0f7a4_26 : decode cJ6_bitCount_0f7a4 26 = .ok (.iconst 4, 1) := by decide +kernel
theorem dJ6_bitCount_0f7a4_27 : decode cJ6_bitCount_0f7a4 27 = .ok (.iushr, 1) := by decide +kernel
theorem dJ6_bitCount_0f7a4_28 : decode cJ6_bitCount_0f7a4 28 = .ok (.iadd, 1) := by decide +kernel
theorem dJ6_bitCount_0f7a4_29 : decode cJ6_bitCount_0f7a4 29 = .ok (.ldc_w 267, 3) := by decide +kernel
theorem dJ6_bitCount_0f7a4_32 : decode cJ6_bitCount_0f7a4 32 = .ok (.iand, 1) := by decide +kernel
theorem dJ6_bitCount_0f7a4_33 : decode cJ6_bitCount_0f7a4 33 = .ok (.istore_n 0, 1) := by decide +kernel
theorem dJ6_bitCount_0f7a4_34 : decode cJ6_bitCount_0f7a4 34 = .ok (.iload_n 0, 1) := by decide +kernel
theorem dJ6_bitCount_0f7a4_35 : decode cJ6_bitCount_0f7a4 35 = .ok (.iload_n 0, 1) := by decide +kernel
theorem dJ6_bitCount_0f7a4_36 : decode cJ6_bitCount_0f7a4 36 = .ok (.bipush 8, 2) := by decide +kernel
theorem dJ6_bitCount_0f7a4_38 : decode cJ6_bitCount_0f7a4 38 = .ok (.iushr, 1) := by decide +kernel
theorem dJ6_bitCount_0f7a4_39 : decode cJ6_bitCount_0f7a4 39 = .ok (.iadd, 1) := by decide +kernel
theorem dJ6_bitCount_0f7a4_40 : decode cJ6_bitCount_0f7a4 40 = .ok (.istore_n 0, 1) := by decide +kernel
theorem dJ6_bitCount_0f7a4_41 : decode cJ6_bitCount_0f7a4 41 = .ok (.iload_n 0, 1) := by decide +kernel
theorem dJ6_bitCount_0f7a4_42 : decode cJ6_bitCount_0f7a4 42 = .ok (.iload_n 0, 1) := by decide +kernel
theorem dJ6_bitCount_0f7a4_43 : decode cJ6_bitCount_0f7a4 43 = .ok (.bipush 16, 2) := by decide +kernel
theorem dJ6_bitCount_0f7a4_45 : decode cJ6_bitCount_0f7a4 45 = .ok (.iushr, 1) := by decide +kernel
theorem dJ6_bitCount_0f7a4_46 : decode cJ6_bitCount_0f7a4 46 = .ok (.iadd, 1) := by decide +kernel
theorem dJ6_bitCount_0f7a4_47 : decode cJ6_bitCount_0f7a4 47 = .ok (.istore_n 0, 1) := by decide +kernel
theorem dJ6_bitCount_0f7a4_48 : decode cJ6_bitCount_0f7a4 48 = .ok (.iload_n 0, 1) := by decide +kernel
theorem dJ6_bitCount_0f7a4_49 : decode cJ6_bitCount_0f7a4 49 = .ok (.bipush 63, 2) := by decide +kernel
theorem dJ6_bitCount_0f7a4_51 : decode cJ6_bitCount_0f7a4 51 = .ok (.iand, 1) := by decide +kernel
theorem dJ6_bitCount_0f7a4_52 : decode cJ6_bitCount_0f7a4 52 = .ok (.ireturn, 1) := by decide +kernel
theorem dJ13_bitCount_95d88_0 : decode cJ13_bitCount_95d88 0 = .ok (.lload_n 0, 1) := by decide +kernel
theorem dJ13_bitCount_95d88_1 : decode cJ13_bitCount_95d88 1 = .ok (.lload_n 0, 1) := by decide +kernel
theorem dJ13_bitCount_95d88_2 : decode cJ13_bitCount_95d88 2 = .ok (.iconst 1, 1) := by decide +kernel
theorem dJ13_bitCount_95d88_3 : decode cJ13_bitCount_95d88 3 = .ok (.lushr, 1) := by decide +kernel
theorem dJ13_bitCount_95d88_4 : decode cJ13_bitCount_95d88 4 = .ok (.ldc2_w 314, 3) := by decide +kernel
theorem dJ13_bitCount_95d88_7 : decode cJ13_bitCount_95d88 7 = .ok (.land, 1) := by decide +kernel
theorem dJ13_bitCount_95d88_8 : decode cJ13_bitCount_95d88 8 = .ok (.lsub, 1) := by decide +kernel
theorem dJ13_bitCount_95d88_9 : decode cJ13_bitCount_95d88 9 = .ok (.lstore_n 0, 1) := by decide +kernel
theorem dJ13_bitCount_95d88_10 : decode cJ13_bitCount_95d88 10 = .ok (.lload_n 0, 1) := by decide +kernel
theorem dJ13_bitCount_95d88_11 : decode cJ13_bitCount_95d88 11 = .ok (.ldc2_w 316, 3) := by decide +kernel
theorem dJ13_bitCount_95d88_14 : decode cJ13_bitCount_95d88 14 = .ok (.land, 1) := by decide +kernel
theorem dJ13_bitCount_95d88_15 : decode cJ13_bitCount_95d88 15 = .ok (.lload_n 0, 1) := by decide +kernel
theorem dJ13_bitCount_95d88_16 : decode cJ13_bitCount_95d88 16 = .ok (.iconst 2, 1) := by decide +kernel
theorem dJ13_bitCount_95d88_17 : decode cJ13_bitCount_95d88 17 = .ok (.lushr, 1) := by decide +kernel
theorem dJ13_bitCount_95d88_18 : decode cJ13_bitCount_95d88 18 = .ok (.ldc2_w 316, 3) := by decide +kernel
theorem dJ13_bitCount_95d88_21 : decode cJ13_bitCount_95d88 21 = .ok (.land, 1) := by decide +kernel
theorem dJ13_bitCount_95d88_22 : decode cJ13_bitCount_95d88 22 = .ok (.ladd, 1) := by decide +kernel
theorem dJ13_bitCount_95d88_23 : decode cJ13_bitCount_95d88 23 = .ok (.lstore_n 0, 1) := by decide +kernel
theorem dJ13_bitCount_95d88_24 : decode cJ13_bitCount_95d88 24 = .ok (.lload_n 0, 1) := by decide +kernel
theorem dJ13_bitCount_95d88_25 : decode cJ13_bitCount_95d88 25 = .ok (.lload_n 0, 1) := by decide +kernel
theorem dJ13_bitCount_95d88_26 : decode cJ13_bitCount_95d88 26 = .ok (.iconst 4, 1) := by decide +kernel
theorem dJ13_bitCount_95d88_27 : decode cJ13_bitCount_95d88 27 = .ok (.lushr, 1) := by decide +kernel
theorem dJ13_bitCount_95d88_28 : decode cJ13_bitCount_95d88 28 = .ok (.ladd, 1) := by decide +kernel
theorem dJ13_bitCount_95d88_29 : decode cJ13_bitCount_95d88 29 = .ok (.ldc2_w 318, 3) := by decide +kernel
theorem dJ13_bitCount_95d88_32 : decode cJ13_bitCount_95d88 32 = .ok (.land, 1) := by decide +kernel
theorem dJ13_bitCount_95d88_33 : decode cJ13_bitCount_95d88 33 = .ok (.lstore_n 0, 1) := by decide +kernel
theorem dJ13_bitCount_95d88_34 : decode cJ13_bitCount_95d88 34 = .ok (.lload_n 0, 1) := by decide +kernel
theorem dJ13_bitCount_95d88_35 : decode cJ13_bitCount_95d88 35 = .ok (.lload_n 0, 1) := by decide +kernel
theorem dJ13_bitCount_95d88_36 : decode cJ13_bitCount_95d88 36 = .ok (.bipush 8, 2) := by decide +kernel
theorem dJ13_bitCount_95d88_38 : decode cJ13_bitCount_95d88 38 = .ok (.lushr, 1) := by decide +kernel
theorem dJ13_bitCount_95d88_39 : decode cJ13_bitCount_95d88 39 = .ok (.ladd, 1) := by decide +kernel
theorem dJ13_bitCount_95d88_40 : decode cJ13_bitCount_95d88 40 = .ok (.lstore_n 0, 1) := by decide +kernel
theorem dJ13_bitCount_95d88_41 : decode cJ13_bitCount_95d88 41 = .ok (.lload_n 0, 1) := by decide +kernel
theorem dJ13_bitCount_95d88_42 : decode cJ13_bitCount_95d88 42 = .ok (.lload_n 0, 1) := by decide +kernel
theorem dJ13_bitCount_95d88_43 : decode cJ13_bitCount_95d88 43 = .ok (.bipush 16, 2) := by decide +kernel
theorem dJ13_bitCount_95d88_45 : decode cJ13_bitCount_95d88 45 = .ok (.lushr, 1) := by decide +kernel
theorem dJ13_bitCount_95d88_46 : decode cJ13_bitCount_95d88 46 = .ok (.ladd, 1) := by decide +kernel
theorem dJ13_bitCount_95d88_47 : decode cJ13_bitCount_95d88 47 = .ok (.lstore_n 0, 1) := by decide +kernel
theorem dJ13_bitCount_95d88_48 : decode cJ13_bitCount_95d88 48 = .ok (.lload_n 0, 1) := by decide +kernel
theorem dJ13_bitCount_95d88_49 : decode cJ13_bitCount_95d88 49 = .ok (.lload_n 0, 1) := by decide +kernel
theorem dJ13_bitCount_95d88_50 : decode cJ13_bitCount_95d88 50 = .ok (.bipush 32, 2) := by decide +kernel
theorem dJ13_bitCount_95d88_52 : decode cJ13_bitCount_95d88 52 = .ok (.lushr, 1) := by decide +kernel
theorem dJ13_bitCount_95d88_53 : decode cJ13_bitCount_95d88 53 = .ok (.ladd, 1) := by decide +kernel
theorem dJ13_bitCount_95d88_54 : decode cJ13_bitCount_95d88 54 = .ok (.lstore_n 0, 1) := by decide +kernel
theorem dJ13_bitCount_95d88_55 : decode cJ13_bitCount_95d88 55 = .ok (.lload_n 0, 1) := by decide +kernel
theorem dJ13_bitCount_95d88_56 : decode cJ13_bitCount_95d88 56 = .ok (.l2i, 1) := by decide +kernel
theorem dJ13_bitCount_95d88_57 : decode cJ13_bitCount_95d88 57 = .ok (.bipush 127, 2) := by decide +kernel
theorem dJ13_bitCount_95d88_59 : decode cJ13_bitCount_95d88 59 = .ok (.iand, 1) := by decide +kernel
theorem dJ13_bitCount_95d88_60 : decode cJ13_bitCount_95d88 60 = .ok (.ireturn, 1) := by decide +kernel
theorem dJ9_max_7cf53_0 : decode cJ9_max_7cf53 0 = .ok (.iload_n 0, 1) := by decide +kernel
theorem dJ9_max_7cf53_1 : decode cJ9_max_7cf53 1 = .ok (.iload_n 1, 1) := by decide +kernel
theorem dJ9_max_7cf53_2 : decode cJ9_max_7cf53 2 = .ok (.if_icmp .lt 7, 3) := by decide +kernel
theorem dJ9_max_7cf53_5 : decode cJ9_max_7cf53 5 = .ok (.iload_n 0, 1) := by decide +kernel
theorem dJ9_max_7cf53_6 : decode cJ9_max_7cf53 6 = .ok (.goto 4, 3) := by decide +kernel
theorem dJ9_max_7cf53_9 : decode cJ9_max_7cf53 9 = .ok (.iload_n 1, 1) := by decide +kernel
theorem dJ9_max_7cf53_10 : decode cJ9_max_7cf53 10 = .ok (.ireturn, 1) := by decide +kernel
theorem dJ9_min_7cf53_0 : decode cJ9_min_7cf53 0 = .ok (.iload_n 0, 1) := by decide +kernel
theorem dJ9_min_7cf53_1 : decode cJ9_min_7cf53 1 = .ok (.iload_n 1, 1) := by decide +kernel
theorem dJ9_min_7cf53_2 : decode cJ9_min_7cf53 2 = .ok (.if_icmp .gt 7, 3) := by decide +kernel
theorem dJ9_min_7cf53_5 : decode cJ9_min_7cf53 5 = .ok (.iload_n 0, 1) := by decide +kernel
theorem dJ9_min_7cf53_6 : decode cJ9_min_7cf53 6 = .ok (.goto 4, 3) := by decide +kernel
theorem dJ9_min_7cf53_9 : decode cJ9_min_7cf53 9 = .ok (.iload_n 1, 1) := by decide +kernel
theorem dJ9_min_7cf53_10 : decode cJ9_min_7cf53 10 = .ok (.ireturn, 1) := by decide +kernel
set_option maxRecDepth 20000 in
theorem ggL_law_X3_init : GoodIn wsL_law wsX3_init := goodIn_r _ [8, 9, 10, 11, 12, 13, 14, 15, 16, 17, 18, 19, 20, 21, 22, 23, 24, 25, 26, 27, 28, 29, 30, 31, 32, 33, 34, 35, 36, 37, 38, 39, 40, 41, 42, 2, 43, 44, 45, 46, 47, 48, 49, 50, 51, 52, 53, 54, 606, 607, 608, 609, 610, 611, 612, 613, 614, 615, 616, 617, 618, 595, 596, 597, 619, 620, 621, 622] (by decide +kernel) (by decide +kernel)
set_option maxRecDepth 20000 in
theorem gL_law_X3_init : GoodIn wsL_law (wsX3_init) := ggL_law_X3_init
set_option maxRecDepth 20000 in
theorem ggL_law_X4_init : GoodIn wsL_law wsX4_init := goodIn_r _ [57, 58, 10, 11, 27, 59, 60, 61, 62, 598, 599, 600, 601, 602, 603, 604, 605] (by decide +kernel) (by decide +kernel)
set_option maxRecDepth 20000 in
theorem gL_law_X4_init : GoodIn wsL_law (wsX4_init) := ggL_law_X4_init
set_option maxRecDepth 20000 in
theorem ggL_law_X3_tell : GoodIn wsL_law wsX3_tell := goodIn_r _ [66, 67, 19, 15, 68, 18, 69, 70, 49, 71, 72, 73, 74, 48, 75, 14, 76, 77, 28, 29, 30, 31, 32, 33, 34, 36, 37, 38, 39, 40, 41, 78, 2, 79, 80, 81, 82, 83, 84, 85, 86, 87, 88, 89, 90, 91, 92, 93, 94, 95, 96, 97, 98, 99, 100, 101, 102, 103, 104, 105, 106, 107, 108, 109, 110, 111, 42, 43, 112, 113, 114, 115, 116, 117, 118, 119, 120, 121, 122, 123, 124, 125, 126, 127, 128, 129, 130, 131, 132, 133, 134, 135, 136, 137, 138, 139, 140, 141, 595, 596, 597, 619, 620, 606, 607, 608, 609, 610, 611, 612, 613, 614, 615, 616, 617, 618] (by decide +kernel) (by decide +kernel)
set_option maxRecDepth 20000 in
theorem gL_law_X3_tell : GoodIn wsL_law (wsV RL 13 RX3 yX3_tell wsX3_tell) := goodIn_app (goodIn_of _ (by decide +kernel)) ggL_law_X3_tell
set_option maxRecDepth 20000 in
theorem ggL_law_X4_tell : GoodIn wsL_law wsX4_tell := goodIn_r _ [145, 146, 147, 148, 149, 5, 150, 60, 59, 151, 152, 153, 154, 155, 156, 157, 158, 159, 160, 161, 162, 163, 164, 165, 166, 167, 168, 169, 170, 171, 172, 173, 174, 175, 176, 177, 178, 179, 180, 181, 182, 61, 183, 184, 185, 186, 598, 599, 600, 601, 602, 603, 604, 605] (by decide +kernel) (by decide +kernel)
set_option maxRecDepth 20000 in
theorem gL_law_X4_tell : GoodIn wsL_law (wsV RL 17 RX4 yX4_tell wsX4_tell) := goodIn_app (goodIn_of _ (by decide +kernel)) ggL_law_X4_tell
set_option maxRecDepth 20000 in
theorem ggL_law_X3_rank : GoodIn wsL_law wsX3_rank := goodIn_r _ [190, 67, 19, 15, 68, 18, 69, 70, 49, 71, 72, 73, 74, 48, 75, 14, 76, 77, 28, 29, 30, 31, 32, 33, 34, 36, 37, 38, 39, 40, 41, 78, 2, 79, 80, 81, 82, 83, 84, 85, 86, 87, 88, 89, 191, 192, 193, 194, 195, 196, 197, 104, 105, 42, 43, 128, 129, 130, 131, 132, 133, 134, 135, 136, 137, 138, 139, 140, 141, 595, 596, 597, 619, 620, 606, 607, 608, 609, 610, 611, 612, 613, 614, 615, 616, 617, 618] (by decide +kernel) (by decide +kernel)
set_option maxRecDepth 20000 in
theorem gL_law_X3_rank : GoodIn wsL_law (wsV RL 18 RX3 yX3_rank wsX3_rank) := goodIn_app (goodIn_of _ (by decide +kernel)) ggL_law_X3_rank
set_option maxRecDepth 20000 in
theorem ggL_law_X4_rank : GoodIn wsL_law wsX4_rank := goodIn_r _ [201, 146, 147, 148, 149, 5, 150, 60, 59, 151, 152, 153, 202, 203, 204, 205, 170, 171, 172, 173, 174, 175, 176, 177, 178, 179, 180, 181, 182, 61, 183, 184, 185, 186, 598, 599, 600, 601, 602, 603, 604, 605] (by decide +kernel) (by decide +kernel)
set_option maxRecDepth 20000 in
theorem gL_law_X4_rank : GoodIn wsL_law (wsV RL 22 RX4 yX4_rank wsX4_rank) := goodIn_app (goodIn_of _ (by decide +kernel)) ggL_law_X4_rank
set_option maxRecDepth 20000 in
theorem ggL_law_X3_set : GoodIn wsL_law wsX3_set := goodIn_r _ [209, 67, 19, 15, 68, 18, 69, 70, 49, 71, 72, 73, 74, 48, 75, 14, 76, 77, 28, 29, 30, 31, 32, 33, 34, 36, 37, 38, 39, 40, 41, 78, 2, 79, 80, 81, 82, 83, 84, 85, 86, 87, 88, 89, 128, 129, 130, 131, 132, 133, 134, 135, 136, 137, 138, 139, 140, 141, 595, 596, 597, 606, 607, 608, 609, 610, 611, 612, 613, 614, 615, 616, 617, 618, 619, 620] (by decide +kernel) (by decide +kernel)
set_option maxRecDepth 20000 in
theorem gL_law_X3_set : GoodIn wsL_law (wsV RL 23 RX3 yX3_set wsX3_set) := goodIn_app (goodIn_of _ (by decide +kernel)) ggL_law_X3_set
set_option maxRecDepth 20000 in
theorem ggL_law_X4_set : GoodIn wsL_law wsX4_set := goodIn_r _ [213, 59, 146, 147, 148, 149, 5, 150, 60, 151, 152, 153, 178, 179, 180, 181, 182, 61, 183, 184, 185, 186, 598, 599, 600, 601, 602, 603, 604, 605] (by decide +kernel) (by decide +kernel)
set_option maxRecDepth 20000 in
theorem gL_law_X4_set : GoodIn wsL_law (wsV RL 26 RX4 yX4_set wsX4_set) := goodIn_app (goodIn_of _ (by decide +kernel)) ggL_law_X4_set
set_option maxRecDepth 20000 in
theorem ggL_law_X3_step : GoodIn wsL_law wsX3_step := goodIn_r _ [217, 19, 15, 68, 18, 69, 70, 49, 71, 72, 73, 74, 48, 75, 14, 76, 77, 28, 29, 30, 31, 32, 33, 34, 36, 37, 38, 39, 40, 41, 78, 2, 79, 80, 81, 82, 83, 84, 85, 86, 87, 88, 89, 218, 219, 220, 221, 93, 222, 223, 224, 225, 104, 105, 226, 227, 228, 229, 230, 231, 232, 233, 234, 235, 236, 42, 43, 237, 238, 239, 240, 241, 242, 243, 244, 100, 101, 102, 103, 245, 90, 91, 92, 94, 95, 96, 97, 98, 99, 106, 107, 108, 109, 110, 111, 112, 113, 114, 115, 116, 117, 118, 119, 120, 121, 122, 123, 124, 125, 126, 127, 128, 129, 130, 131, 67, 132, 133, 134, 135, 136, 137, 138, 139, 140, 141, 595, 596, 597, 619, 620, 606, 607, 608, 609, 610, 611, 612, 613, 614, 615, 616, 617, 618] (by decide +kernel) (by decide +kernel)
set_option maxRecDepth 20000 in
theorem gL_law_X3_step : GoodIn wsL_law (wsV RL 27 RX3 yX3_step wsX3_step) := goodIn_app (goodIn_of _ (by decide +kernel)) ggL_law_X3_step
set_option maxRecDepth 20000 in
theorem ggL_law_X4_step : GoodIn wsL_law wsX4_step := goodIn_r _ [249, 147, 148, 149, 5, 150, 60, 59, 250, 251, 252, 253, 254, 158, 255, 256, 257, 258, 170, 171, 172, 173, 259, 260, 261, 262, 263, 264, 265, 174, 175, 176, 177, 166, 167, 168, 169, 266, 267, 268, 269, 270, 271, 272, 273, 274, 275, 276, 277, 278, 279, 280, 281, 282, 283, 284, 154, 155, 156, 157, 159, 160, 161, 162, 163, 164, 165, 178, 179, 180, 181, 146, 182, 61, 183, 184, 185, 186, 598, 599, 600, 601, 602, 603, 604, 605] (by decide +kernel) (by decide +kernel)
set_option maxRecDepth 20000 in
theorem gL_law_X4_step : GoodIn wsL_law (wsV RL 31 RX4 yX4_step wsX4_step) := goodIn_app (goodIn_of _ (by decide +kernel)) ggL_law_X4_step
set_option maxRecDepth 20000 in
theorem ggL_law_X3_run : GoodIn wsL_law wsX3_run := goodIn_r _ [288, 67, 19, 15, 289, 290, 68, 18, 69, 70, 49, 71, 72, 73, 74, 48, 75, 14, 76, 77, 28, 29, 30, 31, 32, 33, 34, 36, 37, 38, 39, 40, 41, 78, 2, 79, 80, 81, 82, 83, 84, 85, 86, 87, 88, 89, 218, 219, 220, 221, 93, 222, 223, 224, 225, 104, 105, 226, 227, 228, 229, 230, 231, 232, 233, 234, 235, 236, 42, 43, 237, 238, 239, 240, 241, 242, 243, 244, 100, 101, 102, 103, 245, 90, 91, 92, 94, 95, 96, 97, 98, 99, 106, 107, 108, 109, 110, 111, 112, 113, 114, 115, 116, 117, 118, 119, 120, 121, 122, 123, 124, 125, 126, 127, 128, 129, 130, 131, 132, 133, 134, 135, 136, 137, 138, 139, 140, 141, 595, 596, 597, 619, 620, 606, 607, 608, 609, 610, 611, 612, 613, 614, 615, 616, 617, 618] (by decide +kernel) (by decide +kernel)
set_option maxRecDepth 20000 in
theorem gL_law_X3_run : GoodIn wsL_law (wsV RL 32 RX3 yX3_run wsX3_run) := goodIn_app (goodIn_of _ (by decide +kernel)) ggL_law_X3_run
set_option maxRecDepth 20000 in
theorem ggL_law_X4_run : GoodIn wsL_law wsX4_run := goodIn_r _ [294, 146, 147, 148, 149, 5, 150, 60, 59, 151, 152, 153, 295, 296, 297, 298, 158, 254, 250, 251, 252, 253, 255, 256, 257, 258, 170, 171, 172, 173, 259, 260, 261, 262, 263, 264, 265, 174, 175, 176, 177, 166, 167, 168, 169, 266, 267, 268, 269, 270, 271, 272, 273, 274, 275, 276, 277, 278, 279, 280, 281, 282, 283, 284, 154, 155, 156, 157, 159, 160, 161, 162, 163, 164, 165, 178, 179, 180, 181, 182, 61, 183, 184, 185, 186, 598, 599, 600, 601, 602, 603, 604, 605] (by decide +kernel) (by decide +kernel)
set_option maxRecDepth 20000 in
theorem gL_law_X4_run : GoodIn wsL_law (wsV RL 35 RX4 yX4_run wsX4_run) := goodIn_app (goodIn_of _ (by decide +kernel)) ggL_law_X4_run
set_option maxRecDepth 20000 in
theorem ggL_law_X3_empty : GoodIn wsL_law wsX3_empty := goodIn_r _ [302, 19, 15, 68, 18, 69, 70, 49, 71, 72, 73, 74, 48, 75, 14, 76, 77, 28, 29, 30, 31, 32, 33, 34, 36, 37, 38, 39, 40, 41, 78, 2, 79, 80, 81, 82, 83, 84, 85, 86, 87, 88, 89, 128, 129, 130, 131, 67, 132, 133, 134, 135, 136, 137, 138, 139, 140, 141, 595, 596, 597, 606, 607, 608, 609, 610, 611, 612, 613, 614, 615, 616, 617, 618, 619, 620] (by decide +kernel) (by decide +kernel)
set_option maxRecDepth 20000 in
theorem gL_law_X3_empty : GoodIn wsL_law (wsV RL 36 RX3 yX3_empty wsX3_empty) := goodIn_app (goodIn_of _ (by decide +kernel)) ggL_law_X3_empty
set_option maxRecDepth 20000 in
theorem ggL_law_X4_empty : GoodIn wsL_law wsX4_empty := goodIn_r _ [306, 147, 148, 149, 5, 150, 60, 59, 307, 308, 309, 310, 178, 179, 180, 181, 146, 182, 61, 183, 184, 185, 186, 598, 599, 600, 601, 602, 603, 604, 605] (by decide +kernel) (by decide +kernel)
set_option maxRecDepth 20000 in
theorem gL_law_X4_empty : GoodIn wsL_law (wsV RL 39 RX4 yX4_empty wsX4_empty) := goodIn_app (goodIn_of _ (by decide +kernel)) ggL_law_X4_empty
set_option maxRecDepth 20000 in
theorem ggL_law_X3_clauseOf : GoodIn wsL_law wsX3_clauseOf := goodIn_r _ [314, 15, 67, 315, 14, 316, 317, 37, 318, 104, 2, 105, 242, 243, 244, 28, 319, 320, 321, 322, 323, 231, 232, 233, 234, 235, 236, 324, 325, 326, 29, 100, 101, 102, 103, 30, 327, 328, 329, 330, 241, 331, 332, 595, 596, 597, 606, 607, 608, 609, 610, 611, 612, 613, 614, 615, 616, 617, 618] (by decide +kernel) (by decide +kernel)
set_option maxRecDepth 20000 in
theorem gL_law_X3_clauseOf : GoodIn wsL_law (wsV RL 40 RX3 yX3_clauseOf wsX3_clauseOf) := goodIn_app (goodIn_of _ (by decide +kernel)) ggL_law_X3_clauseOf
set_option maxRecDepth 20000 in
theorem ggL_law_X4_clauseOf : GoodIn wsL_law wsX4_clauseOf := goodIn_r _ [336, 146, 337, 338, 339, 340, 5, 341, 59, 151, 152, 153, 170, 171, 172, 173, 270, 271, 272, 273, 274, 275, 276, 277, 278, 279, 280, 342, 343, 344, 345, 259, 260, 261, 346, 347, 348, 349, 166, 167, 168, 169, 350, 351, 352, 353, 598, 599, 600, 601, 602, 603, 604, 605] (by decide +kernel) (by decide +kernel)
set_option maxRecDepth 20000 in
theorem gL_law_X4_clauseOf : GoodIn wsL_law (wsV RL 43 RX4 yX4_clauseOf wsX4_clauseOf) := goodIn_app (goodIn_of _ (by decide +kernel)) ggL_law_X4_clauseOf
set_option maxRecDepth 20000 in
theorem ggL_law_X3_tree : GoodIn wsL_law wsX3_tree := goodIn_r _ [357, 15, 358, 315, 14, 316, 317, 37, 359, 360, 361, 31, 32, 362, 2, 363, 331, 332, 104, 105, 595, 596, 597, 606, 607, 608, 609, 610, 611, 612, 613, 614, 615, 616, 617, 618] (by decide +kernel) (by decide +kernel)
set_option maxRecDepth 20000 in
theorem gL_law_X3_tree : GoodIn wsL_law (wsV RL 44 RX3 yX3_tree wsX3_tree) := goodIn_app (goodIn_of _ (by decide +kernel)) ggL_law_X3_tree
set_option maxRecDepth 20000 in
theorem ggL_law_X4_tree : GoodIn wsL_law wsX4_tree := goodIn_r _ [367, 368, 338, 339, 340, 5, 341, 59, 151, 152, 153, 369, 370, 371, 372, 373, 374, 375, 170, 171, 172, 173, 598, 599, 600, 601, 602, 603, 604, 605] (by decide +kernel) (by decide +kernel)
set_option maxRecDepth 20000 in
theorem gL_law_X4_tree : GoodIn wsL_law (wsV RL 48 RX4 yX4_tree wsX4_tree) := goodIn_app (goodIn_of _ (by decide +kernel)) ggL_law_X4_tree
set_option maxRecDepth 20000 in
theorem ggL_law_X3_widest : GoodIn wsL_law wsX3_widest := goodIn_r _ [379, 15, 67, 315, 14, 316, 317, 37, 359, 360, 361, 31, 32, 362, 2, 363, 331, 332, 104, 105, 380, 381, 382, 29, 116, 117, 82, 118, 230, 231, 232, 233, 234, 235, 236, 595, 596, 597, 606, 607, 608, 609, 610, 611, 612, 613, 614, 615, 616, 617, 618] (by decide +kernel) (by decide +kernel)
set_option maxRecDepth 20000 in
theorem gL_law_X3_widest : GoodIn wsL_law (wsV RL 49 RX3 yX3_widest wsX3_widest) := goodIn_app (goodIn_of _ (by decide +kernel)) ggL_law_X3_widest
set_option maxRecDepth 20000 in
theorem ggL_law_X4_widest : GoodIn wsL_law wsX4_widest := goodIn_r _ [386, 146, 338, 339, 340, 5, 341, 59, 151, 152, 153, 369, 370, 371, 372, 373, 374, 375, 170, 171, 172, 173, 259, 260, 261, 598, 599, 600, 601, 602, 603, 604, 605] (by decide +kernel) (by decide +kernel)
set_option maxRecDepth 20000 in
theorem gL_law_X4_widest : GoodIn wsL_law (wsV RL 52 RX4 yX4_widest wsX4_widest) := goodIn_app (goodIn_of _ (by decide +kernel)) ggL_law_X4_widest
set_option maxRecDepth 20000 in
theorem ggL_law_X3_refutation : GoodIn wsL_law wsX3_refutation := goodIn_r _ [390, 15, 223, 14, 224, 225, 37, 29, 104, 2, 105, 319, 320, 321, 322, 595, 596, 597, 606, 607, 608, 609, 610, 611, 612, 613, 614, 615, 616, 617, 618] (by decide +kernel) (by decide +kernel)
set_option maxRecDepth 20000 in
theorem gL_law_X3_refutation : GoodIn wsL_law (wsV RL 53 RX3 yX3_refutation wsX3_refutation) := goodIn_app (goodIn_of _ (by decide +kernel)) ggL_law_X3_refutation
set_option maxRecDepth 20000 in
theorem ggL_law_X4_refutation : GoodIn wsL_law wsX4_refutation := goodIn_r _ [394, 337, 262, 263, 264, 5, 265, 59, 170, 171, 172, 173, 598, 599, 600, 601, 602, 603, 604, 605] (by decide +kernel) (by decide +kernel)
set_option maxRecDepth 20000 in
theorem gL_law_X4_refutation : GoodIn wsL_law (wsV RL 56 RX4 yX4_refutation wsX4_refutation) := goodIn_app (goodIn_of _ (by decide +kernel)) ggL_law_X4_refutation
set_option maxRecDepth 20000 in
theorem ggL_law_X3_models : GoodIn wsL_law wsX3_models := goodIn_r _ [398, 15, 399, 14, 400, 401, 37, 402, 403, 404, 405, 31, 104, 2, 105, 362, 363, 406, 407, 408, 409, 36, 331, 332, 124, 125, 410, 411, 412, 413, 414, 415, 416, 595, 596, 597, 606, 607, 608, 609, 610, 611, 612, 613, 614, 615, 616, 617, 618] (by decide +kernel) (by decide +kernel)
set_option maxRecDepth 20000 in
theorem gL_law_X3_models : GoodIn wsL_law (wsV RL 57 RX3 yX3_models wsX3_models) := goodIn_app (goodIn_of _ (by decide +kernel)) ggL_law_X3_models
set_option maxRecDepth 20000 in
theorem ggL_law_X4_models : GoodIn wsL_law wsX4_models := goodIn_r _ [420, 421, 422, 423, 5, 424, 59, 170, 171, 172, 173, 425, 426, 427, 428, 429, 430, 431, 432, 373, 374, 375, 433, 434, 435, 274, 275, 276, 598, 599, 600, 601, 602, 603, 604, 605] (by decide +kernel) (by decide +kernel)
set_option maxRecDepth 20000 in
theorem gL_law_X4_models : GoodIn wsL_law (wsV RL 60 RX4 yX4_models wsX4_models) := goodIn_app (goodIn_of _ (by decide +kernel)) ggL_law_X4_models
set_option maxRecDepth 20000 in
theorem ggL_law_X3_model : GoodIn wsL_law wsX3_model := goodIn_r _ [439, 67, 15, 322, 399, 14, 400, 401, 37, 402, 403, 404, 405, 31, 104, 2, 105, 362, 363, 406, 407, 408, 409, 36, 331, 332, 124, 125, 440, 595, 596, 597, 606, 607, 608, 609, 610, 611, 612, 613, 614, 615, 616, 617, 618] (by decide +kernel) (by decide +kernel)
set_option maxRecDepth 20000 in
theorem gL_law_X3_model : GoodIn wsL_law (wsV RL 61 RX3 yX3_model wsX3_model) := goodIn_app (goodIn_of _ (by decide +kernel)) ggL_law_X3_model
set_option maxRecDepth 20000 in
theorem ggL_law_X4_model : GoodIn wsL_law wsX4_model := goodIn_r _ [444, 146, 337, 421, 422, 423, 5, 424, 59, 170, 171, 172, 173, 429, 430, 431, 432, 373, 374, 375, 433, 434, 435, 274, 275, 276, 598, 599, 600, 601, 602, 603, 604, 605] (by decide +kernel) (by decide +kernel)
set_option maxRecDepth 20000 in
theorem gL_law_X4_model : GoodIn wsL_law (wsV RL 64 RX4 yX4_model wsX4_model) := goodIn_app (goodIn_of _ (by decide +kernel)) ggL_law_X4_model
set_option maxRecDepth 20000 in
theorem ggL_law_X3_broken : GoodIn wsL_law wsX3_broken := goodIn_r _ [448, 358, 15, 449, 14, 450, 451, 37, 36, 100, 101, 102, 103, 30, 104, 2, 105, 124, 125, 331, 332, 362, 363, 595, 596, 597, 606, 607, 608, 609, 610, 611, 612, 613, 614, 615, 616, 617, 618] (by decide +kernel) (by decide +kernel)
set_option maxRecDepth 20000 in
theorem gL_law_X3_broken : GoodIn wsL_law (wsV RL 65 RX3 yX3_broken wsX3_broken) := goodIn_app (goodIn_of _ (by decide +kernel)) ggL_law_X3_broken
set_option maxRecDepth 20000 in
theorem ggL_law_X4_broken : GoodIn wsL_law wsX4_broken := goodIn_r _ [455, 368, 59, 151, 152, 5, 153, 166, 167, 168, 169, 170, 171, 172, 173, 433, 434, 435, 274, 275, 276, 598, 599, 600, 601, 602, 603, 604, 605] (by decide +kernel) (by decide +kernel)
set_option maxRecDepth 20000 in
theorem gL_law_X4_broken : GoodIn wsL_law (wsV RL 68 RX4 yX4_broken wsX4_broken) := goodIn_app (goodIn_of _ (by decide +kernel)) ggL_law_X4_broken
set_option maxRecDepth 20000 in
theorem ggL_law_X3_core : GoodIn wsL_law wsX3_core := goodIn_r _ [459, 15, 460, 399, 14, 400, 401, 37, 402, 403, 404, 405, 31, 104, 2, 105, 362, 363, 406, 407, 408, 409, 36, 331, 332, 124, 125, 461, 462, 463, 464, 595, 596, 597, 606, 607, 608, 609, 610, 611, 612, 613, 614, 615, 616, 617, 618] (by decide +kernel) (by decide +kernel)
set_option maxRecDepth 20000 in
theorem gL_law_X3_core : GoodIn wsL_law (wsV RL 69 RX3 yX3_core wsX3_core) := goodIn_app (goodIn_of _ (by decide +kernel)) ggL_law_X3_core
set_option maxRecDepth 20000 in
theorem ggL_law_X4_core : GoodIn wsL_law wsX4_core := goodIn_r _ [468, 469, 59, 470, 421, 422, 423, 5, 424, 170, 171, 172, 173, 425, 426, 427, 428, 429, 430, 431, 432, 373, 374, 375, 433, 434, 435, 274, 275, 276, 598, 599, 600, 601, 602, 603, 604, 605] (by decide +kernel) (by decide +kernel)
set_option maxRecDepth 20000 in
theorem gL_law_X4_core : GoodIn wsL_law (wsV RL 73 RX4 yX4_core wsX4_core) := goodIn_app (goodIn_of _ (by decide +kernel)) ggL_law_X4_core
set_option maxRecDepth 20000 in
theorem ggL_law_X3_follows : GoodIn wsL_law wsX3_follows := goodIn_r _ [474, 67, 15, 122, 399, 14, 400, 401, 37, 402, 403, 404, 405, 31, 104, 2, 105, 362, 363, 406, 407, 408, 409, 36, 331, 332, 124, 125, 475, 119, 120, 121, 123, 595, 596, 597, 606, 607, 608, 609, 610, 611, 612, 613, 614, 615, 616, 617, 618] (by decide +kernel) (by decide +kernel)
set_option maxRecDepth 20000 in
theorem gL_law_X3_follows : GoodIn wsL_law (wsV RL 74 RX3 yX3_follows wsX3_follows) := goodIn_app (goodIn_of _ (by decide +kernel)) ggL_law_X3_follows
set_option maxRecDepth 20000 in
theorem ggL_law_X4_follows : GoodIn wsL_law wsX4_follows := goodIn_r _ [479, 146, 151, 152, 5, 153, 421, 422, 423, 424, 59, 170, 171, 172, 173, 429, 430, 431, 432, 373, 374, 375, 433, 434, 435, 274, 275, 276, 598, 599, 600, 601, 602, 603, 604, 605] (by decide +kernel) (by decide +kernel)
set_option maxRecDepth 20000 in
theorem gL_law_X4_follows : GoodIn wsL_law (wsV RL 77 RX4 yX4_follows wsX4_follows) := goodIn_app (goodIn_of _ (by decide +kernel)) ggL_law_X4_follows
set_option maxRecDepth 20000 in
theorem ggL_law_X3_share : GoodIn wsL_law wsX3_share := goodIn_r _ [483, 67, 475, 119, 2, 120, 121, 122, 123, 124, 125, 410, 411, 412, 413, 414, 415, 416, 484, 485, 486, 487] (by decide +kernel) (by decide +kernel)
set_option maxRecDepth 20000 in
theorem gL_law_X3_share : GoodIn wsL_law (wsV RL 78 RX3 yX3_share wsX3_share) := goodIn_app (goodIn_of _ (by decide +kernel)) ggL_law_X3_share
set_option maxRecDepth 20000 in
theorem ggL_law_X4_share : GoodIn wsL_law wsX4_share := goodIn_r _ [491, 146, 492, 151, 152, 5, 153, 433, 434, 435, 274, 275, 276, 493, 494, 495, 496, 497, 498, 499, 500, 501, 502, 503, 504] (by decide +kernel) (by decide +kernel)
set_option maxRecDepth 20000 in
theorem gL_law_X4_share : GoodIn wsL_law (wsV RL 81 RX4 yX4_share wsX4_share) := goodIn_app (goodIn_of _ (by decide +kernel)) ggL_law_X4_share
set_option maxRecDepth 20000 in
theorem ggL_law_X3_count : GoodIn wsL_law wsX3_count := goodIn_r _ [508, 15, 19, 23, 67, 509, 14, 510, 511, 37, 30, 104, 2, 105, 195, 196, 197, 28, 595, 596, 597, 606, 607, 608, 609, 610, 611, 612, 613, 614, 615, 616, 617, 618, 619, 620, 621, 622] (by decide +kernel) (by decide +kernel)
set_option maxRecDepth 20000 in
theorem gL_law_X3_count : GoodIn wsL_law (wsV RL 82 RX3 yX3_count wsX3_count) := goodIn_app (goodIn_of _ (by decide +kernel)) ggL_law_X3_count
set_option maxRecDepth 20000 in
theorem ggL_law_X4_count : GoodIn wsL_law wsX4_count := goodIn_r _ [515, 59, 182, 516, 146, 517, 518, 519, 5, 520, 170, 171, 172, 173, 151, 152, 153, 598, 599, 600, 601, 602, 603, 604, 605] (by decide +kernel) (by decide +kernel)
set_option maxRecDepth 20000 in
theorem gL_law_X4_count : GoodIn wsL_law (wsV RL 85 RX4 yX4_count wsX4_count) := goodIn_app (goodIn_of _ (by decide +kernel)) ggL_law_X4_count
set_option maxRecDepth 20000 in
theorem ggL_law_X3_undo : GoodIn wsL_law wsX3_undo := goodIn_r _ [524, 19, 15, 290, 525, 18, 526, 527, 49, 71, 72, 73, 74, 48, 75, 14, 76, 77, 28, 29, 30, 31, 32, 33, 34, 36, 37, 38, 39, 40, 41, 78, 2, 79, 80, 81, 82, 83, 84, 85, 86, 87, 88, 89, 595, 596, 597, 619, 620, 606, 607, 608, 609, 610, 611, 612, 613, 614, 615, 616, 617, 618] (by decide +kernel) (by decide +kernel)
set_option maxRecDepth 20000 in
theorem gL_law_X3_undo : GoodIn wsL_law (wsV RL 86 RX3 yX3_undo wsX3_undo) := goodIn_app (goodIn_of _ (by decide +kernel)) ggL_law_X3_undo
set_option maxRecDepth 20000 in
theorem ggL_law_X4_undo : GoodIn wsL_law wsX4_undo := goodIn_r _ [531, 182, 254, 59, 61, 598, 599, 600, 601, 602, 603, 604, 605] (by decide +kernel) (by decide +kernel)
set_option maxRecDepth 20000 in
theorem gL_law_X4_undo : GoodIn wsL_law (wsV RL 89 RX4 yX4_undo wsX4_undo) := goodIn_app (goodIn_of _ (by decide +kernel)) ggL_law_X4_undo
set_option maxRecDepth 20000 in
theorem ggL_law_X3_type : GoodIn wsL_law wsX3_type := goodIn_r _ [535, 67, 23, 289, 536, 22, 537, 538, 54, 53, 42, 2, 43, 595, 596, 597, 621, 622] (by decide +kernel) (by decide +kernel)
set_option maxRecDepth 20000 in
theorem gL_law_X3_type : GoodIn wsL_law (wsV RL 90 RX3 yX3_type wsX3_type) := goodIn_app (goodIn_of _ (by decide +kernel)) ggL_law_X3_type
set_option maxRecDepth 20000 in
theorem ggL_law_X4_type : GoodIn wsL_law wsX4_type := goodIn_r _ [542, 146, 516, 158, 62, 151, 152, 5, 153, 598, 599, 600, 601, 602, 603, 604, 605] (by decide +kernel) (by decide +kernel)
set_option maxRecDepth 20000 in
theorem gL_law_X4_type : GoodIn wsL_law (wsV RL 93 RX4 yX4_type wsX4_type) := goodIn_app (goodIn_of _ (by decide +kernel)) ggL_law_X4_type
set_option maxRecDepth 20000 in
theorem ggL_law_X3_clearText : GoodIn wsL_law wsX3_clearText := goodIn_r _ [546, 23, 595, 596, 597, 621, 622] (by decide +kernel) (by decide +kernel)
set_option maxRecDepth 20000 in
theorem gL_law_X3_clearText : GoodIn wsL_law (wsV RL 94 RX3 yX3_clearText wsX3_clearText) := goodIn_app (goodIn_of _ (by decide +kernel)) ggL_law_X3_clearText
set_option maxRecDepth 20000 in
theorem ggL_law_X4_clearText : GoodIn wsL_law wsX4_clearText := goodIn_r _ [550, 516, 598, 599, 600, 601, 602, 603, 604, 605] (by decide +kernel) (by decide +kernel)
set_option maxRecDepth 20000 in
theorem gL_law_X4_clearText : GoodIn wsL_law (wsV RL 97 RX4 yX4_clearText wsX4_clearText) := goodIn_app (goodIn_of _ (by decide +kernel)) ggL_law_X4_clearText
set_option maxRecDepth 20000 in
theorem ggL_law_X3_fault : GoodIn wsL_law wsX3_fault := goodIn_r _ [554, 67, 23, 322, 555, 22, 556, 557, 54, 53, 104, 2, 105, 558, 559, 560, 595, 596, 597, 621, 622] (by decide +kernel) (by decide +kernel)
set_option maxRecDepth 20000 in
theorem gL_law_X3_fault : GoodIn wsL_law (wsV RL 98 RX3 yX3_fault wsX3_fault) := goodIn_app (goodIn_of _ (by decide +kernel)) ggL_law_X3_fault
set_option maxRecDepth 20000 in
theorem ggL_law_X4_fault : GoodIn wsL_law wsX4_fault := goodIn_r _ [564, 146, 337, 565, 151, 152, 5, 153, 566, 567, 568, 569, 516, 570, 571, 572, 573, 574, 575, 576, 577, 578, 62, 598, 599, 600, 601, 602, 603, 604, 605] (by decide +kernel) (by decide +kernel)
set_option maxRecDepth 20000 in
theorem gL_law_X4_fault : GoodIn wsL_law (wsV RL 101 RX4 yX4_fault wsX4_fault) := goodIn_app (goodIn_of _ (by decide +kernel)) ggL_law_X4_fault
set_option maxRecDepth 20000 in
theorem ggL_law_X3_play : GoodIn wsL_law wsX3_play := goodIn_r _ [582, 23, 290, 19, 15, 555, 22, 556, 557, 54, 53, 104, 2, 105, 68, 18, 69, 70, 49, 71, 72, 73, 74, 48, 75, 14, 76, 77, 28, 29, 30, 31, 32, 33, 34, 36, 37, 38, 39, 40, 41, 78, 79, 80, 81, 82, 83, 84, 85, 86, 87, 88, 89, 583, 584, 585, 586, 289, 318, 90, 91, 92, 93, 94, 95, 96, 97, 98, 99, 100, 101, 102, 103, 106, 107, 108, 109, 110, 111, 42, 43, 112, 113, 114, 115, 116, 117, 118, 119, 120, 121, 122, 123, 124, 125, 126, 127, 128, 129, 130, 131, 67, 132, 133, 134, 135, 136, 137, 138, 139, 140, 141, 595, 596, 597, 621, 622, 619, 620, 606, 607, 608, 609, 610, 611, 612, 613, 614, 615, 616, 617, 618] (by decide +kernel) (by decide +kernel)
set_option maxRecDepth 20000 in
theorem gL_law_X3_play : GoodIn wsL_law (wsV RL 102 RX3 yX3_play wsX3_play) := goodIn_app (goodIn_of _ (by decide +kernel)) ggL_law_X3_play
set_option maxRecDepth 20000 in
theorem ggL_law_X4_play : GoodIn wsL_law wsX4_play := goodIn_r _ [590, 254, 566, 567, 568, 5, 569, 565, 516, 570, 571, 572, 573, 574, 575, 576, 577, 578, 62, 151, 152, 153, 147, 148, 149, 150, 60, 59, 591, 592, 593, 594, 158, 154, 155, 156, 157, 159, 160, 161, 162, 163, 164, 165, 166, 167, 168, 169, 170, 171, 172, 173, 174, 175, 176, 177, 178, 179, 180, 181, 146, 182, 61, 183, 184, 185, 186, 598, 599, 600, 601, 602, 603, 604, 605] (by decide +kernel) (by decide +kernel)
set_option maxRecDepth 20000 in
theorem gL_law_X4_play : GoodIn wsL_law (wsV RL 105 RX4 yX4_play wsX4_play) := goodIn_app (goodIn_of _ (by decide +kernel)) ggL_law_X4_play
theorem dL_law_0 : decode cL_law 0 = .ok (.new 7, 3) := by decide +kernel
theorem dL_law_3 : decode cL_law 3 = .ok (.dup, 1) := by decide +kernel
theorem dL_law_4 : decode cL_law 4 = .ok (.invokespecial 9, 3) := by decide +kernel
theorem dL_law_7 : decode cL_law 7 = .ok (.astore_n 1, 1) := by decide +kernel
theorem dL_law_8 : decode cL_law 8 = .ok (.new 10, 3) := by decide +kernel
theorem dL_law_11 : decode cL_law 11 = .ok (.dup, 1) := by decide +kernel
theorem dL_law_12 : decode cL_law 12 = .ok (.invokespecial 12, 3) := by decide +kernel
theorem dL_law_15 : decode cL_law 15 = .ok (.astore_n 2, 1) := by decide +kernel
theorem dL_law_16 : decode cL_law 16 = .ok (.iconst 0, 1) := by decide +kernel
theorem dL_law_17 : decode cL_law 17 = .ok (.istore_n 3, 1) := by decide +kernel
theorem dL_law_18 : decode cL_law 18 = .ok (.iload_n 3, 1) := by decide +kernel
theorem dL_law_19 : decode cL_law 19 = .ok (.aload_n 0, 1) := by decide +kernel
theorem dL_law_20 : decode cL_law 20 = .ok (.arraylength, 1) := by decide +kernel
theorem dL_law_21 : decode cL_law 21 = .ok (.iconst 3, 1) := by decide +kernel
theorem dL_law_22 : decode cL_law 22 = .ok (.isub, 1) := by decide +kernel
theorem dL_law_23 : decode cL_law 23 = .ok (.if_icmp .gt 568, 3) := by decide +kernel
theorem dL_law_26 : decode cL_law 26 = .ok (.aload_n 0, 1) := by decide +kernel
theorem dL_law_27 : decode cL_law 27 = .ok (.iload_n 3, 1) := by decide +kernel
theorem dL_law_28 : decode cL_law 28 = .ok (.iaload, 1) := by decide +kernel
theorem dL_law_29 : decode cL_law 29 = .ok (.bipush 31, 2) := by decide +kernel
theorem dL_law_31 : decode cL_law 31 = .ok (.iand, 1) := by decide +kernel
theorem dL_law_32 : decode cL_law 32 = .ok (.tableswitch 553 0 21 #[104, 127, 160, 183, 196, 219, 232, 265, 289, 312, 325, 338, 361, 385, 399, 422, 445, 468, 481, 504, 517, 540], 104) := by decide +kernel
theorem dL_law_136 : decode cL_law 136 = .ok (.aload_n 1, 1) := by decide +kernel
theorem dL_law_137 : decode cL_law 137 = .ok (.aload_n 0, 1) := by decide +kernel
theorem dL_law_138 : decode cL_law 138 = .ok (.iload_n 3, 1) := by decide +kernel
theorem dL_law_139 : decode cL_law 139 = .ok (.iconst 1, 1) := by decide +kernel
theorem dL_law_140 : decode cL_law 140 = .ok (.iadd, 1) := by decide +kernel
theorem dL_law_141 : decode cL_law 141 = .ok (.iaload, 1) := by decide +kernel
theorem dL_law_142 : decode cL_law 142 = .ok (.invokevirtual 13, 3) := by decide +kernel
theorem dL_law_145 : decode cL_law 145 = .ok (.aload_n 2, 1) := by decide +kernel
theorem dL_law_146 : decode cL_law 146 = .ok (.aload_n 0, 1) := by decide +kernel
theorem dL_law_147 : decode cL_law 147 = .ok (.iload_n 3, 1) := by decide +kernel
theorem dL_law_148 : decode cL_law 148 = .ok (.iconst 1, 1) := by decide +kernel
theorem dL_law_149 : decode cL_law 149 = .ok (.iadd, 1) := by decide +kernel
theorem dL_law_150 : decode cL_law 150 = .ok (.iaload, 1) := by decide +kernel
theorem dL_law_151 : decode cL_law 151 = .ok (.invokevirtual 17, 3) := by decide +kernel
theorem dL_law_154 : decode cL_law 154 = .ok (.if_icmp .eq 431, 3) := by decide +kernel
theorem dL_law_157 : decode cL_law 157 = .ok (.iconst 0, 1) := by decide +kernel
theorem dL_law_158 : decode cL_law 158 = .ok (.ireturn, 1) := by decide +kernel
theorem dL_law_159 : decode cL_law 159 = .ok (.aload_n 1, 1) := by decide +kernel
theorem dL_law_160 : decode cL_law 160 = .ok (.aload_n 0, 1) := by decide +kernel
theorem dL_law_161 : decode cL_law 161 = .ok (.iload_n 3, 1) := by decide +kernel
theorem dL_law_162 : decode cL_law 162 = .ok (.iconst 1, 1) := by decide +kernel
theorem dL_law_163 : decode cL_law 163 = .ok (.iadd, 1) := by decide +kernel
theorem dL_law_164 : decode cL_law 164 = .ok (.iaload, 1) := by decide +kernel
theorem dL_law_165 : decode cL_law 165 = .ok (.aload_n 0, 1) := by decide +kernel
theorem dL_law_166 : decode cL_law 166 = .ok (.iload_n 3, 1) := by decide +kernel
theorem dL_law_167 : decode cL_law 167 = .ok (.iconst 2, 1) := by decide +kernel
theorem dL_law_168 : decode cL_law 168 = .ok (.iadd, 1) := by decide +kernel
theorem dL_law_169 : decode cL_law 169 = .ok (.iaload, 1) := by decide +kernel
theorem dL_law_170 : decode cL_law 170 = .ok (.invokevirtual 18, 3) := by decide +kernel
theorem dL_law_173 : decode cL_law 173 = .ok (.aload_n 2, 1) := by decide +kernel
theorem dL_law_174 : decode cL_law 174 = .ok (.aload_n 0, 1) := by decide +kernel
theorem dL_law_175 : decode cL_law 175 = .ok (.iload_n 3, 1) := by decide +kernel
theorem dL_law_176 : decode cL_law 176 = .ok (.iconst 1, 1) := by decide +kernel
theorem dL_law_177 : decode cL_law 177 = .ok (.iadd, 1) := by decide +kernel
theorem dL_law_178 : decode cL_law 178 = .ok (.iaload, 1) := by decide +kernel
theorem dL_law_179 : decode cL_law 179 = .ok (.aload_n 0, 1) := by decide +kernel
theorem dL_law_180 : decode cL_law 180 = .ok (.iload_n 3, 1) := by decide +kernel
theorem dL_law_181 : decode cL_law 181 = .ok (.iconst 2, 1) := by decide +kernel
theorem dL_law_182 : decode cL_law 182 = .ok (.iadd, 1) := by decide +kernel
theorem dL_law_183 : decode cL_law 183 = .ok (.iaload, 1) := by decide +kernel
theorem dL_law_184 : decode cL_law 184 = .ok (.invokevirtual 22, 3) := by decide +kernel
theorem dL_law_187 : decode cL_law 187 = .ok (.if_icmp .eq 398, 3) := by decide +kernel
theorem dL_law_190 : decode cL_law 190 = .ok (.iconst 0, 1) := by decide +kernel
theorem dL_law_191 : decode cL_law 191 = .ok (.ireturn, 1) := by decide +kernel
theorem dL_law_192 : decode cL_law 192 = .ok (.aload_n 1, 1) := by decide +kernel
theorem dL_law_193 : decode cL_law 193 = .ok (.aload_n 0, 1) := by decide +kernel
theorem dL_law_194 : decode cL_law 194 = .ok (.iload_n 3, 1) := by decide +kernel
theorem dL_law_195 : decode cL_law 195 = .ok (.iconst 1, 1) := by decide +kernel
theorem dL_law_196 : decode cL_law 196 = .ok (.iadd, 1) := by decide +kernel
theorem dL_law_197 : decode cL_law 197 = .ok (.iaload, 1) := by decide +kernel
theorem dL_law_198 : decode cL_law 198 = .ok (.invokevirtual 23, 3) := by decide +kernel
theorem dL_law_201 : decode cL_law 201 = .ok (.aload_n 2, 1) := by decide +kernel
theorem dL_law_202 : decode cL_law 202 = .ok (.aload_n 0, 1) := by decide +kernel
theorem dL_law_203 : decode cL_law 203 = .ok (.iload_n 3, 1) := by decide +kernel
theorem dL_law_204 : decode cL_law 204 = .ok (.iconst 1, 1) := by decide +kernel
theorem dL_law_205 : decode cL_law 205 = .ok (.iadd, 1) := by decide +kernel
theorem dL_law_206 : decode cL_law 206 = .ok (.iaload, 1) := by decide +kernel
theorem dL_law_207 : decode cL_law 207 = .ok (.invokevirtual 26, 3) := by decide +kernel
theorem dL_law_210 : decode cL_law 210 = .ok (.if_icmp .eq 375, 3) := by decide +kernel
theorem dL_law_213 : decode cL_law 213 = .ok (.iconst 0, 1) := by decide +kernel
theorem dL_law_214 : decode cL_law 214 = .ok (.ireturn, 1) := by decide +kernel
theorem dL_law_215 : decode cL_law 215 = .ok (.aload_n 1, 1) := by decide +kernel
theorem dL_law_216 : decode cL_law 216 = .ok (.invokevirtual 27, 3) := by decide +kernel
theorem dL_law_219 : decode cL_law 219 = .ok (.aload_n 2, 1) := by decide +kernel
theorem dL_law_220 : decode cL_law 220 = .ok (.invokevirtual 31, 3) := by decide +kernel
theorem dL_law_223 : decode cL_law 223 = .ok (.if_icmp .eq 362, 3) := by decide +kernel
theorem dL_law_226 : decode cL_law 226 = .ok (.iconst 0, 1) := by decide +kernel
theorem dL_law_227 : decode cL_law 227 = .ok (.ireturn, 1) := by decide +kernel
theorem dL_law_228 : decode cL_law 228 = .ok (.aload_n 1, 1) := by decide +kernel
theorem dL_law_229 : decode cL_law 229 = .ok (.aload_n 0, 1) := by decide +kernel
theorem dL_law_230 : decode cL_law 230 = .ok (.iload_n 3, 1) := by decide +kernel
theorem dL_law_231 : decode cL_law 231 = .ok (.iconst 1, 1) := by decide +kernel
theorem dL_law_232 : decode cL_law 232 = .ok (.iadd, 1) := by decide +kernel
theorem dL_law_233 : decode cL_law 233 = .ok (.iaload, 1) := by decide +kernel
theorem dL_law_234 : decode cL_law 234 = .ok (.invokevirtual 32, 3) := by decide +kernel
theorem dL_law_237 : decode cL_law 237 = .ok (.aload_n 2, 1) := by decide +kernel
theorem dL_law_238 : decode cL_law 238 = .ok (.aload_n 0, 1) := by decide +kernel
theorem dL_law_239 : decode cL_law 239 = .ok (.iload_n 3, 1) := by decide +kernel
theorem dL_law_240 : decode cL_law 240 = .ok (.iconst 1, 1) := by decide +kernel
theorem dL_law_241 : decode cL_law 241 = .ok (.iadd, 1) := by decide +kernel
theorem dL_law_242 : decode cL_law 242 = .ok (.iaload, 1) := by decide +kernel
theorem dL_law_243 : decode cL_law 243 = .ok (.invokevirtual 35, 3) := by decide +kernel
theorem dL_law_246 : decode cL_law 246 = .ok (.if_icmp .eq 339, 3) := by decide +kernel
theorem dL_law_249 : decode cL_law 249 = .ok (.iconst 0, 1) := by decide +kernel
theorem dL_law_250 : decode cL_law 250 = .ok (.ireturn, 1) := by decide +kernel
theorem dL_law_251 : decode cL_law 251 = .ok (.aload_n 1, 1) := by decide +kernel
theorem dL_law_252 : decode cL_law 252 = .ok (.invokevirtual 36, 3) := by decide +kernel
theorem dL_law_255 : decode cL_law 255 = .ok (.aload_n 2, 1) := by decide +kernel
theorem dL_law_256 : decode cL_law 256 = .ok (.invokevirtual 39, 3) := by decide +kernel
theorem dL_law_259 : decode cL_law 259 = .ok (.if_icmp .eq 326, 3) := by decide +kernel
theorem dL_law_262 : decode cL_law 262 = .ok (.iconst 0, 1) := by decide +kernel
theorem dL_law_263 : decode cL_law 263 = .ok (.ireturn, 1) := by decide +kernel
theorem dL_law_264 : decode cL_law 264 = .ok (.aload_n 1, 1) := by decide +kernel
theorem dL_law_265 : decode cL_law 265 = .ok (.aload_n 0, 1) := by decide +kernel
theorem dL_law_266 : decode cL_law 266 = .ok (.iload_n 3, 1) := by decide +kernel
theorem dL_law_267 : decode cL_law 267 = .ok (.iconst 1, 1) := by decide +kernel
theorem dL_law_268 : decode cL_law 268 = .ok (.iadd, 1) := by decide +kernel
theorem dL_law_269 : decode cL_law 269 = .ok (.iaload, 1) := by decide +kernel
theorem dL_law_270 : decode cL_law 270 = .ok (.aload_n 0, 1) := by decide +kernel
theorem dL_law_271 : decode cL_law 271 = .ok (.iload_n 3, 1) := by decide +kernel
theorem dL_law_272 : decode cL_law 272 = .ok (.iconst 2, 1) := by decide +kernel
theorem dL_law_273 : decode cL_law 273 = .ok (.iadd, 1) := by decide +kernel
theorem dL_law_274 : decode cL_law 274 = .ok (.iaload, 1) := by decide +kernel
theorem dL_law_275 : decode cL_law 275 = .ok (.invokevirtual 40, 3) := by decide +kernel
theorem dL_law_278 : decode cL_law 278 = .ok (.aload_n 2, 1) := by decide +kernel
theorem dL_law_279 : decode cL_law 279 = .ok (.aload_n 0, 1) := by decide +kernel
theorem dL_law_280 : decode cL_law 280 = .ok (.iload_n 3, 1) := by decide +kernel
theorem dL_law_281 : decode cL_law 281 = .ok (.iconst 1, 1) := by decide +kernel
theorem dL_law_282 : decode cL_law 282 = .ok (.iadd, 1) := by decide +kernel
theorem dL_law_283 : decode cL_law 283 = .ok (.iaload, 1) := by decide +kernel
theorem dL_law_284 : decode cL_law 284 = .ok (.aload_n 0, 1) := by decide +kernel
theorem dL_law_285 : decode cL_law 285 = .ok (.iload_n 3, 1) := by decide +kernel
theorem dL_law_286 : decode cL_law 286 = .ok (.iconst 2, 1) := by decide +kernel
theorem dL_law_287 : decode cL_law 287 = .ok (.iadd, 1) := by decide +kernel
theorem dL_law_288 : decode cL_law 288 = .ok (.iaload, 1) := by decide +kernel
theorem dL_law_289 : decode cL_law 289 = .ok (.invokevirtual 43, 3) := by decide +kernel
theorem dL_law_292 : decode cL_law 292 = .ok (.if_icmp .eq 293, 3) := by decide +kernel
theorem dL_law_295 : decode cL_law 295 = .ok (.iconst 0, 1) := by decide +kernel
theorem dL_law_296 : decode cL_law 296 = .ok (.ireturn, 1) := by decide +kernel
theorem dL_law_297 : decode cL_law 297 = .ok (.aload_n 1, 1) := by decide +kernel
theorem dL_law_298 : decode cL_law 298 = .ok (.aload_n 0, 1) := by decide +kernel
theorem dL_law_299 : decode cL_law 299 = .ok (.iload_n 3, 1) := by decide +kernel
theorem dL_law_300 : decode cL_law 300 = .ok (.iconst 1, 1) := by decide +kernel
theorem dL_law_301 : decode cL_law 301 = .ok (.iadd, 1) := by decide +kernel
theorem dL_law_302 : decode cL_law 302 = .ok (.iaload, 1) := by decide +kernel
theorem dL_law_303 : decode cL_law 303 = .ok (.invokevirtual 44, 3) := by decide +kernel
theorem dL_law_306 : decode cL_law 306 = .ok (.aload_n 2, 1) := by decide +kernel
theorem dL_law_307 : decode cL_law 307 = .ok (.aload_n 0, 1) := by decide +kernel
theorem dL_law_308 : decode cL_law 308 = .ok (.iload_n 3, 1) := by decide +kernel
theorem dL_law_309 : decode cL_law 309 = .ok (.iconst 1, 1) := by decide +kernel
theorem dL_law_310 : decode cL_law 310 = .ok (.iadd, 1) := by decide +kernel
theorem dL_law_311 : decode cL_law 311 = .ok (.iaload, 1) := by decide +kernel
theorem dL_law_312 : decode cL_law 312 = .ok (.invokevirtual 48, 3) := by decide +kernel
theorem dL_law_315 : decode cL_law 315 = .ok (.lcmp, 1) := by decide +kernel
theorem dL_law_316 : decode cL_law 316 = .ok (.ifCond .eq 269, 3) := by decide +kernel
theorem dL_law_319 : decode cL_law 319 = .ok (.iconst 0, 1) := by decide +kernel
theorem dL_law_320 : decode cL_law 320 = .ok (.ireturn, 1) := by decide +kernel
theorem dL_law_321 : decode cL_law 321 = .ok (.aload_n 1, 1) := by decide +kernel
theorem dL_law_322 : decode cL_law 322 = .ok (.aload_n 0, 1) := by decide +kernel
theorem dL_law_323 : decode cL_law 323 = .ok (.iload_n 3, 1) := by decide +kernel
theorem dL_law_324 : decode cL_law 324 = .ok (.iconst 1, 1) := by decide +kernel
theorem dL_law_325 : decode cL_law 325 = .ok (.iadd, 1) := by decide +kernel
theorem dL_law_326 : decode cL_law 326 = .ok (.iaload, 1) := by decide +kernel
theorem dL_law_327 : decode cL_law 327 = .ok (.invokevirtual 49, 3) := by decide +kernel
theorem dL_law_330 : decode cL_law 330 = .ok (.aload_n 2, 1) := by decide +kernel
theorem dL_law_331 : decode cL_law 331 = .ok (.aload_n 0, 1) := by decide +kernel
theorem dL_law_332 : decode cL_law 332 = .ok (.iload_n 3, 1) := by decide +kernel
theorem dL_law_333 : decode cL_law 333 = .ok (.iconst 1, 1) := by decide +kernel
theorem dL_law_334 : decode cL_law 334 = .ok (.iadd, 1) := by decide +kernel
theorem dL_law_335 : decode cL_law 335 = .ok (.iaload, 1) := by decide +kernel
theorem dL_law_336 : decode cL_law 336 = .ok (.invokevirtual 52, 3) := by decide +kernel
theorem dL_law_339 : decode cL_law 339 = .ok (.if_icmp .eq 246, 3) := by decide +kernel
theorem dL_law_342 : decode cL_law 342 = .ok (.iconst 0, 1) := by decide +kernel
theorem dL_law_343 : decode cL_law 343 = .ok (.ireturn, 1) := by decide +kernel
theorem dL_law_344 : decode cL_law 344 = .ok (.aload_n 1, 1) := by decide +kernel
theorem dL_law_345 : decode cL_law 345 = .ok (.invokevirtual 53, 3) := by decide +kernel
theorem dL_law_348 : decode cL_law 348 = .ok (.aload_n 2, 1) := by decide +kernel
theorem dL_law_349 : decode cL_law 349 = .ok (.invokevirtual 56, 3) := by decide +kernel
theorem dL_law_352 : decode cL_law 352 = .ok (.if_icmp .eq 233, 3) := by decide +kernel
theorem dL_law_355 : decode cL_law 355 = .ok (.iconst 0, 1) := by decide +kernel
theorem dL_law_356 : decode cL_law 356 = .ok (.ireturn, 1) := by decide +kernel
theorem dL_law_357 : decode cL_law 357 = .ok (.aload_n 1, 1) := by decide +kernel
theorem dL_law_358 : decode cL_law 358 = .ok (.invokevirtual 57, 3) := by decide +kernel
theorem dL_law_361 : decode cL_law 361 = .ok (.aload_n 2, 1) := by decide +kernel
theorem dL_law_362 : decode cL_law 362 = .ok (.invokevirtual 60, 3) := by decide +kernel
theorem dL_law_365 : decode cL_law 365 = .ok (.if_icmp .eq 220, 3) := by decide +kernel
theorem dL_law_368 : decode cL_law 368 = .ok (.iconst 0, 1) := by decide +kernel
theorem dL_law_369 : decode cL_law 369 = .ok (.ireturn, 1) := by decide +kernel
theorem dL_law_370 : decode cL_law 370 = .ok (.aload_n 1, 1) := by decide +kernel
theorem dL_law_371 : decode cL_law 371 = .ok (.aload_n 0, 1) := by decide +kernel
theorem dL_law_372 : decode cL_law 372 = .ok (.iload_n 3, 1) := by decide +kernel
theorem dL_law_373 : decode cL_law 373 = .ok (.iconst 1, 1) := by decide +kernel
theorem dL_law_374 : decode cL_law 374 = .ok (.iadd, 1) := by decide +kernel
theorem dL_law_375 : decode cL_law 375 = .ok (.iaload, 1) := by decide +kernel
theorem dL_law_376 : decode cL_law 376 = .ok (.invokevirtual 61, 3) := by decide +kernel
theorem dL_law_379 : decode cL_law 379 = .ok (.aload_n 2, 1) := by decide +kernel
theorem dL_law_380 : decode cL_law 380 = .ok (.aload_n 0, 1) := by decide +kernel
theorem dL_law_381 : decode cL_law 381 = .ok (.iload_n 3, 1) := by decide +kernel
theorem dL_law_382 : decode cL_law 382 = .ok (.iconst 1, 1) := by decide +kernel
theorem dL_law_383 : decode cL_law 383 = .ok (.iadd, 1) := by decide +kernel
theorem dL_law_384 : decode cL_law 384 = .ok (.iaload, 1) := by decide +kernel
theorem dL_law_385 : decode cL_law 385 = .ok (.invokevirtual 64, 3) := by decide +kernel
theorem dL_law_388 : decode cL_law 388 = .ok (.if_icmp .eq 197, 3) := by decide +kernel
theorem dL_law_391 : decode cL_law 391 = .ok (.iconst 0, 1) := by decide +kernel
theorem dL_law_392 : decode cL_law 392 = .ok (.ireturn, 1) := by decide +kernel
theorem dL_law_393 : decode cL_law 393 = .ok (.aload_n 1, 1) := by decide +kernel
theorem dL_law_394 : decode cL_law 394 = .ok (.aload_n 0, 1) := by decide +kernel
theorem dL_law_395 : decode cL_law 395 = .ok (.iload_n 3, 1) := by decide +kernel
theorem dL_law_396 : decode cL_law 396 = .ok (.iconst 1, 1) := by decide +kernel
theorem dL_law_397 : decode cL_law 397 = .ok (.iadd, 1) := by decide +kernel
theorem dL_law_398 : decode cL_law 398 = .ok (.iaload, 1) := by decide +kernel
theorem dL_law_399 : decode cL_law 399 = .ok (.invokevirtual 65, 3) := by decide +kernel
theorem dL_law_402 : decode cL_law 402 = .ok (.aload_n 2, 1) := by decide +kernel
theorem dL_law_403 : decode cL_law 403 = .ok (.aload_n 0, 1) := by decide +kernel
theorem dL_law_404 : decode cL_law 404 = .ok (.iload_n 3, 1) := by decide +kernel
theorem dL_law_405 : decode cL_law 405 = .ok (.iconst 1, 1) := by decide +kernel
theorem dL_law_406 : decode cL_law 406 = .ok (.iadd, 1) := by decide +kernel
theorem dL_law_407 : decode cL_law 407 = .ok (.iaload, 1) := by decide +kernel
theorem dL_law_408 : decode cL_law 408 = .ok (.invokevirtual 68, 3) := by decide +kernel
theorem dL_law_411 : decode cL_law 411 = .ok (.lcmp, 1) := by decide +kernel
theorem dL_law_412 : decode cL_law 412 = .ok (.ifCond .eq 173, 3) := by decide +kernel
theorem dL_law_415 : decode cL_law 415 = .ok (.iconst 0, 1) := by decide +kernel
theorem dL_law_416 : decode cL_law 416 = .ok (.ireturn, 1) := by decide +kernel
theorem dL_law_417 : decode cL_law 417 = .ok (.aload_n 1, 1) := by decide +kernel
theorem dL_law_418 : decode cL_law 418 = .ok (.invokevirtual 69, 3) := by decide +kernel
theorem dL_law_421 : decode cL_law 421 = .ok (.aload_n 2, 1) := by decide +kernel
theorem dL_law_422 : decode cL_law 422 = .ok (.invokevirtual 73, 3) := by decide +kernel
theorem dL_law_425 : decode cL_law 425 = .ok (.lcmp, 1) := by decide +kernel
theorem dL_law_426 : decode cL_law 426 = .ok (.ifCond .eq 159, 3) := by decide +kernel
theorem dL_law_429 : decode cL_law 429 = .ok (.iconst 0, 1) := by decide +kernel
theorem dL_law_430 : decode cL_law 430 = .ok (.ireturn, 1) := by decide +kernel
theorem dL_law_431 : decode cL_law 431 = .ok (.aload_n 1, 1) := by decide +kernel
theorem dL_law_432 : decode cL_law 432 = .ok (.aload_n 0, 1) := by decide +kernel
theorem dL_law_433 : decode cL_law 433 = .ok (.iload_n 3, 1) := by decide +kernel
theorem dL_law_434 : decode cL_law 434 = .ok (.iconst 1, 1) := by decide +kernel
theorem dL_law_435 : decode cL_law 435 = .ok (.iadd, 1) := by decide +kernel
theorem dL_law_436 : decode cL_law 436 = .ok (.iaload, 1) := by decide +kernel
theorem dL_law_437 : decode cL_law 437 = .ok (.invokevirtual 74, 3) := by decide +kernel
theorem dL_law_440 : decode cL_law 440 = .ok (.aload_n 2, 1) := by decide +kernel
theorem dL_law_441 : decode cL_law 441 = .ok (.aload_n 0, 1) := by decide +kernel
theorem dL_law_442 : decode cL_law 442 = .ok (.iload_n 3, 1) := by decide +kernel
theorem dL_law_443 : decode cL_law 443 = .ok (.iconst 1, 1) := by decide +kernel
theorem dL_law_444 : decode cL_law 444 = .ok (.iadd, 1) := by decide +kernel
theorem dL_law_445 : decode cL_law 445 = .ok (.iaload, 1) := by decide +kernel
theorem dL_law_446 : decode cL_law 446 = .ok (.invokevirtual 77, 3) := by decide +kernel
theorem dL_law_449 : decode cL_law 449 = .ok (.if_icmp .eq 136, 3) := by decide +kernel
theorem dL_law_452 : decode cL_law 452 = .ok (.iconst 0, 1) := by decide +kernel
theorem dL_law_453 : decode cL_law 453 = .ok (.ireturn, 1) := by decide +kernel
theorem dL_law_454 : decode cL_law 454 = .ok (.aload_n 1, 1) := by decide +kernel
theorem dL_law_455 : decode cL_law 455 = .ok (.aload_n 0, 1) := by decide +kernel
theorem dL_law_456 : decode cL_law 456 = .ok (.iload_n 3, 1) := by decide +kernel
theorem dL_law_457 : decode cL_law 457 = .ok (.iconst 1, 1) := by decide +kernel
theorem dL_law_458 : decode cL_law 458 = .ok (.iadd, 1) := by decide +kernel
theorem dL_law_459 : decode cL_law 459 = .ok (.iaload, 1) := by decide +kernel
theorem dL_law_460 : decode cL_law 460 = .ok (.invokevirtual 78, 3) := by decide +kernel
theorem dL_law_463 : decode cL_law 463 = .ok (.aload_n 2, 1) := by decide +kernel
theorem dL_law_464 : decode cL_law 464 = .ok (.aload_n 0, 1) := by decide +kernel
theorem dL_law_465 : decode cL_law 465 = .ok (.iload_n 3, 1) := by decide +kernel
theorem dL_law_466 : decode cL_law 466 = .ok (.iconst 1, 1) := by decide +kernel
theorem dL_law_467 : decode cL_law 467 = .ok (.iadd, 1) := by decide +kernel
theorem dL_law_468 : decode cL_law 468 = .ok (.iaload, 1) := by decide +kernel
theorem dL_law_469 : decode cL_law 469 = .ok (.invokevirtual 81, 3) := by decide +kernel
theorem dL_law_472 : decode cL_law 472 = .ok (.if_icmp .eq 113, 3) := by decide +kernel
theorem dL_law_475 : decode cL_law 475 = .ok (.iconst 0, 1) := by decide +kernel
theorem dL_law_476 : decode cL_law 476 = .ok (.ireturn, 1) := by decide +kernel
theorem dL_law_477 : decode cL_law 477 = .ok (.aload_n 1, 1) := by decide +kernel
theorem dL_law_478 : decode cL_law 478 = .ok (.aload_n 0, 1) := by decide +kernel
theorem dL_law_479 : decode cL_law 479 = .ok (.iload_n 3, 1) := by decide +kernel
theorem dL_law_480 : decode cL_law 480 = .ok (.iconst 1, 1) := by decide +kernel
theorem dL_law_481 : decode cL_law 481 = .ok (.iadd, 1) := by decide +kernel
theorem dL_law_482 : decode cL_law 482 = .ok (.iaload, 1) := by decide +kernel
theorem dL_law_483 : decode cL_law 483 = .ok (.invokevirtual 82, 3) := by decide +kernel
theorem dL_law_486 : decode cL_law 486 = .ok (.aload_n 2, 1) := by decide +kernel
theorem dL_law_487 : decode cL_law 487 = .ok (.aload_n 0, 1) := by decide +kernel
theorem dL_law_488 : decode cL_law 488 = .ok (.iload_n 3, 1) := by decide +kernel
theorem dL_law_489 : decode cL_law 489 = .ok (.iconst 1, 1) := by decide +kernel
theorem dL_law_490 : decode cL_law 490 = .ok (.iadd, 1) := by decide +kernel
theorem dL_law_491 : decode cL_law 491 = .ok (.iaload, 1) := by decide +kernel
theorem dL_law_492 : decode cL_law 492 = .ok (.invokevirtual 85, 3) := by decide +kernel
theorem dL_law_495 : decode cL_law 495 = .ok (.if_icmp .eq 90, 3) := by decide +kernel
theorem dL_law_498 : decode cL_law 498 = .ok (.iconst 0, 1) := by decide +kernel
theorem dL_law_499 : decode cL_law 499 = .ok (.ireturn, 1) := by decide +kernel
theorem dL_law_500 : decode cL_law 500 = .ok (.aload_n 1, 1) := by decide +kernel
theorem dL_law_501 : decode cL_law 501 = .ok (.invokevirtual 86, 3) := by decide +kernel
theorem dL_law_504 : decode cL_law 504 = .ok (.aload_n 2, 1) := by decide +kernel
theorem dL_law_505 : decode cL_law 505 = .ok (.invokevirtual 89, 3) := by decide +kernel
theorem dL_law_508 : decode cL_law 508 = .ok (.if_icmp .eq 77, 3) := by decide +kernel
theorem dL_law_511 : decode cL_law 511 = .ok (.iconst 0, 1) := by decide +kernel
theorem dL_law_512 : decode cL_law 512 = .ok (.ireturn, 1) := by decide +kernel
theorem dL_law_513 : decode cL_law 513 = .ok (.aload_n 1, 1) := by decide +kernel
theorem dL_law_514 : decode cL_law 514 = .ok (.aload_n 0, 1) := by decide +kernel
theorem dL_law_515 : decode cL_law 515 = .ok (.iload_n 3, 1) := by decide +kernel
theorem dL_law_516 : decode cL_law 516 = .ok (.iconst 1, 1) := by decide +kernel
theorem dL_law_517 : decode cL_law 517 = .ok (.iadd, 1) := by decide +kernel
theorem dL_law_518 : decode cL_law 518 = .ok (.iaload, 1) := by decide +kernel
theorem dL_law_519 : decode cL_law 519 = .ok (.invokevirtual 90, 3) := by decide +kernel
theorem dL_law_522 : decode cL_law 522 = .ok (.aload_n 2, 1) := by decide +kernel
theorem dL_law_523 : decode cL_law 523 = .ok (.aload_n 0, 1) := by decide +kernel
theorem dL_law_524 : decode cL_law 524 = .ok (.iload_n 3, 1) := by decide +kernel
theorem dL_law_525 : decode cL_law 525 = .ok (.iconst 1, 1) := by decide +kernel
theorem dL_law_526 : decode cL_law 526 = .ok (.iadd, 1) := by decide +kernel
theorem dL_law_527 : decode cL_law 527 = .ok (.iaload, 1) := by decide +kernel
theorem dL_law_528 : decode cL_law 528 = .ok (.invokevirtual 93, 3) := by decide +kernel
theorem dL_law_531 : decode cL_law 531 = .ok (.if_icmp .eq 54, 3) := by decide +kernel
theorem dL_law_534 : decode cL_law 534 = .ok (.iconst 0, 1) := by decide +kernel
theorem dL_law_535 : decode cL_law 535 = .ok (.ireturn, 1) := by decide +kernel
theorem dL_law_536 : decode cL_law 536 = .ok (.aload_n 1, 1) := by decide +kernel
theorem dL_law_537 : decode cL_law 537 = .ok (.invokevirtual 94, 3) := by decide +kernel
theorem dL_law_540 : decode cL_law 540 = .ok (.aload_n 2, 1) := by decide +kernel
theorem dL_law_541 : decode cL_law 541 = .ok (.invokevirtual 97, 3) := by decide +kernel
theorem dL_law_544 : decode cL_law 544 = .ok (.if_icmp .eq 41, 3) := by decide +kernel
theorem dL_law_547 : decode cL_law 547 = .ok (.iconst 0, 1) := by decide +kernel
theorem dL_law_548 : decode cL_law 548 = .ok (.ireturn, 1) := by decide +kernel
theorem dL_law_549 : decode cL_law 549 = .ok (.aload_n 1, 1) := by decide +kernel
theorem dL_law_550 : decode cL_law 550 = .ok (.aload_n 0, 1) := by decide +kernel
theorem dL_law_551 : decode cL_law 551 = .ok (.iload_n 3, 1) := by decide +kernel
theorem dL_law_552 : decode cL_law 552 = .ok (.iconst 1, 1) := by decide +kernel
theorem dL_law_553 : decode cL_law 553 = .ok (.iadd, 1) := by decide +kernel
theorem dL_law_554 : decode cL_law 554 = .ok (.iaload, 1) := by decide +kernel
theorem dL_law_555 : decode cL_law 555 = .ok (.invokevirtual 98, 3) := by decide +kernel
theorem dL_law_558 : decode cL_law 558 = .ok (.aload_n 2, 1) := by decide +kernel
theorem dL_law_559 : decode cL_law 559 = .ok (.aload_n 0, 1) := by decide +kernel
theorem dL_law_560 : decode cL_law 560 = .ok (.iload_n 3, 1) := by decide +kernel
theorem dL_law_561 : decode cL_law 561 = .ok (.iconst 1, 1) := by decide +kernel
theorem dL_law_562 : decode cL_law 562 = .ok (.iadd, 1) := by decide +kernel
theorem dL_law_563 : decode cL_law 563 = .ok (.iaload, 1) := by decide +kernel
theorem dL_law_564 : decode cL_law 564 = .ok (.invokevirtual 101, 3) := by decide +kernel
theorem dL_law_567 : decode cL_law 567 = .ok (.if_icmp .eq 18, 3) := by decide +kernel
theorem dL_law_570 : decode cL_law 570 = .ok (.iconst 0, 1) := by decide +kernel
theorem dL_law_571 : decode cL_law 571 = .ok (.ireturn, 1) := by decide +kernel
theorem dL_law_572 : decode cL_law 572 = .ok (.aload_n 1, 1) := by decide +kernel
theorem dL_law_573 : decode cL_law 573 = .ok (.invokevirtual 102, 3) := by decide +kernel
theorem dL_law_576 : decode cL_law 576 = .ok (.aload_n 2, 1) := by decide +kernel
theorem dL_law_577 : decode cL_law 577 = .ok (.invokevirtual 105, 3) := by decide +kernel
theorem dL_law_580 : decode cL_law 580 = .ok (.if_icmp .eq 5, 3) := by decide +kernel
theorem dL_law_583 : decode cL_law 583 = .ok (.iconst 0, 1) := by decide +kernel
theorem dL_law_584 : decode cL_law 584 = .ok (.ireturn, 1) := by decide +kernel
theorem dL_law_585 : decode cL_law 585 = .ok (.iinc 3 3, 3) := by decide +kernel
theorem dL_law_588 : decode cL_law 588 = .ok (.goto (-570), 3) := by decide +kernel
theorem dL_law_591 : decode cL_law 591 = .ok (.iconst 1, 1) := by decide +kernel
theorem dL_law_592 : decode cL_law 592 = .ok (.ireturn, 1) := by decide +kernel
abbrev vwCl : List vw_C := [(RX0, TX0, 2), (RX1, TX1, 13), (RX2, TX2, 2), (RX3, TX3, 3), (RX4, TX4, 8)]
end
section
/-! The heap as a map from addresses to cells (a pool), and one row an instruction over it. -/
/-- the classes' ids and slots; the array classes of int, long, Store; the address of the table of values -/
abbrev Gm : Type := va_G × (ClassId × ClassId × ClassId) × Nat
abbrev gI (g : Gm) : ClassId := g.2.1.1
abbrev gJ (g : Gm) : ClassId := g.2.1.2.1
abbrev gR (g : Gm) : ClassId := g.2.1.2.2
abbrev gT (g : Gm) : Nat := g.2.2
abbrev tyl (g : Gm) : List (ClassId × FieldType) := [(gI g, .int), (gJ g, .long), (gR g, .object RX1)]
def tabv (j : Nat) : Int64 := match j with
  | 0 => -6148914691236517206
  | 1 => -3689348814741910324
  | 2 => -1085102592571150096
  | 3 => -71777214294589696
  | 4 => -281470681808896
  | _ => -4294967296
def nestF : List (String × Nat × String × String × String × String) := [(RX3, 67, RX1, "literals", "[I", RX3), (RX3, 75, RX1, "status", "[I", RX3), (RX3, 84, RX1, "holdingParent", "[I", RX3), (RX3, 87, RX1, "otherParent", "[I", RX3), (RX3, 90, RX1, "atomMadeBy", "[I", RX3), (RX3, 101, RX1, "depth", "[I", RX3), (RX3, 57, RX1, "clauses", "I", RX3), (RX3, 60, RX1, "steps", "I", RX3), (RX3, 47, RX1, "setting", "I", RX3), (RX3, 153, RX1, "heldAlways", "I", RX3), (RX3, 156, RX1, "hadAnotherWithin", "I", RX3), (RX3, 159, RX0, "kept", "I", RX3), (RX3, 190, RX2, "characters", "[I", RX3), (RX3, 162, RX2, "length", "I", RX3)]
def nestM : List (String × Nat × MethodName × String) := [(RX3, 9, yX1_init, RX3), (RX1, 53, yX3_put, RX3), (RX3, 18, yX0_init, RX3), (RX0, 21, yX1_init, RX3), (RX3, 25, yX2_init, RX3), (RX3, 31, yX0_putAside, RX3), (RX0, 26, yX1_copyFrom, RX3), (RX1, 57, yX3_copyRow, RX3), (RX1, 61, yX3_copyLongRow, RX3), (RX3, 35, yX1_bring, RX3), (RX1, 88, yX3_holdsAlways, RX3), (RX1, 65, yX3_at, RX3), (RX1, 103, yX3_isWithin, RX3), (RX1, 112, yX3_valuesOfClause, RX3), (RX1, 116, yX3_putLong, RX3), (RX3, 184, yX0_takeBack, RX3), (RX3, 187, yX0_keep, RX3), (RX3, 43, yX1_changeRank, RX3), (RX3, 51, yX1_takeStep, RX3), (RX3, 63, yX1_has, RX3), (RX3, 78, yX1_greatestOf, RX3), (RX3, 98, yX1_howManyLessThan, RX3), (RX1, 76, yX3_isIn, RX3), (RX3, 104, yX1_treeOf, RX3), (RX1, 139, yX3_setOf, RX3), (RX3, 110, yX1_mostLiterals, RX3), (RX3, 114, yX1_emptyClause, RX3), (RX3, 117, yX1_toldClauses, RX3), (RX3, 121, yX1_valuesFulfilling, RX3), (RX1, 147, yX3_longAt, RX3), (RX3, 134, yX1_clausesBrokenBy, RX3), (RX3, 137, yX1_fewestUnfulfillable, RX3), (RX3, 150, yX1_howMany, RX3), (RX3, 165, yX1_rankOf, RX3), (RX3, 168, yX0_restoreLatest, RX3), (RX3, 172, yX2_add, RX3), (RX2, 19, yX3_put, RX3), (RX3, 175, yX2_whereItBreaksOff, RX3), (RX2, 23, yX3_at, RX3), (RX3, 178, yX2_startOfClause, RX3)]
def nst (U : State) : Prop := (∀ q ∈ nestF, va_Nw (.fieldLinkNest q.1 q.2.1 q.2.2.1 q.2.2.2.1 q.2.2.2.2.1 q.2.2.2.2.2) U) ∧ (∀ q ∈ nestM, va_Nw (.methodLinkNest q.1 q.2.1 q.2.2.1 q.2.2.2) U)
theorem nst.warm {s U : State} (hW : s.WarmedH U.vm) (h : nst s) : nst U := ⟨fun q hq => va_Nw.warmF hW (h.1 q hq), fun q hq => va_Nw.warmM hW (h.2 q hq)⟩
theorem nst.same {u U : State} (e : u.vm = U.vm) (h : nst u) : nst U := ⟨fun q hq => va_Nw.same rfl e (h.1 q hq), fun q hq => va_Nw.same rfl e (h.2 q hq)⟩
abbrev kA (L : List Nat) : Nat → Prop := fun q => q ∈ L
/-- what holds of the tables and of the table of values, whatever our own cells hold -/
def Cx (g : Gm) (L : List Nat) (U : State) (H : Heap) : Prop :=
  va_K g.1 vwCl (tyl g) U ∧ nst U ∧ va_Z "OrderedClauses" "VALUES_WITH_ATOM" "[J" (.ref (gT g)) (kA L) U H ∧ va_T .long (gT g) 6 (fun j => .long (tabv j)) (kA L) U H
theorem Cx.go {g : Gm} {L : List Nat} {s U : State} {H : Heap} {locs : List Loc} (hC : Cx g L s s.heap) (hS : va_S (kA L) s.heap H locs) (hU : U.heap = H) (hW : s.WarmedH U.vm) : Cx g L U U.heap :=
  ⟨va_K.moved hW.alike hC.1, nst.warm hW hC.2.1, by rw [hU]; exact va_Z.moved hW.alike (va_Z.kept hC.2.2.1 hS.2.1), by rw [hU]; exact va_T.moved hW.alike (va_T.kept hC.2.2.2 hS.2.1)⟩
abbrev kB (g : Gm) (L : List Nat) (G : Nat → va_E) (U : State) : Prop := va_P g.1 vwCl (va_pl L G) U.heap ∧ Cx g L U U.heap
abbrev kE (g : Gm) (L : List Nat) (G : Nat → va_E) (t : State) : Prop := va_P g.1 vwCl (va_pl L G) t.heap
theorem k_blind {g : Gm} {L : List Nat} {G : Nat → va_E} {As : List Value} : FrameBlind (va_Pc As (kB g L G)) := fun a U gg mk q =>
  ⟨q.1, q.2.1, va_K.moved (u := U) (U := U.calling gg mk a) (Vm.Alike.refl U.vm) q.2.2.1, nst.same (u := U) (U := U.calling gg mk a) rfl q.2.2.2.1, va_Z.moved (u := U) (U := U.calling gg mk a) (Vm.Alike.refl U.vm) q.2.2.2.2.1, va_T.moved (u := U) (U := U.calling gg mk a) (Vm.Alike.refl U.vm) q.2.2.2.2.2⟩
theorem k_pre {g : Gm} {L : List Nat} {G : Nat → va_E} {As : List Value} {s : State} {H : Heap} {locs : List Loc} (hC : Cx g L s s.heap) (hS : va_S (kA L) s.heap H locs) (hP : va_P g.1 vwCl (va_pl L G) H) : PreS s H (va_Pc As (kB g L G)) As :=
  ⟨k_blind, fun U hU hW => ⟨rfl, by rw [hU]; exact hP, hC.go hS hU hW⟩⟩
theorem k_plget {L : List Nat} {G : Nat → va_E} {a : Nat} {e : va_E} (ha : a ∈ L) (hG : G a = e) : ∃ k : Nat, (va_pl L G)[k]? = some (a, e) := by
  obtain ⟨k, hk⟩ := va_pl_get (X := []) (f := G) ha
  exact ⟨k, by rw [← hG]; exact hk⟩
theorem k_plD {L : List Nat} (hL : L.Nodup) (G : Nat → va_E) : va_D (kA L) (va_pl L G) := by
  have at' : ∀ (i : Nat) (p : Nat × va_E), (va_pl L G)[i]? = some p → L[i]? = some p.1 := by
    intro i p h
    simp only [va_pl, List.getElem?_map] at h
    cases hb : L[i]? with
    | none => rw [hb] at h; cases h
    | some b => rw [hb] at h; cases h; rfl
  refine ⟨fun i j p q hp hq e => ?_, fun k q h => List.mem_of_getElem? (at' k q h)⟩
  have h1 := at' i p hp
  have h2 := at' j q hq
  exact (List.getElem?_inj (List.getElem?_eq_some_iff.mp h1).1 hL).mp (by rw [h1, h2, e])
theorem k_plset {L : List Nat} (hL : L.Nodup) {G : Nat → va_E} {a k : Nat} {e0 e : va_E} (ha : a ∈ L) (hG : G a = e0) (hk : (va_pl L G)[k]? = some (a, e0)) : (va_pl L G).set k (a, e) = va_pl L (va_up G a e) :=
  va_pl_set (X := []) (k_plD hL G) ha (by rw [hG]; exact hk)
theorem k_preV {g : Gm} {L : List Nat} {G : Nat → va_E} {b : Nat} {As : List Value} {s : State} {H : Heap} {locs : List Loc} {ci : Nat} {fs : List Value} {C : String} {T : u_T} {N : Nat} (hC : Cx g L s s.heap) (hS : va_S (kA L) s.heap H locs) (hP : va_P g.1 vwCl (va_pl L G) H) (hb : b ∈ L) (hG : G b = .inr (ci, fs)) (hc : vwCl[ci]? = some (C, T, N)) : PreV s H C b (va_Pc (.ref b :: As) (kB g L G)) As := by
  obtain ⟨k, hk⟩ := k_plget hb hG
  exact ⟨k_blind, va_recv hC.1 hP (q0 := k) hc hk, fun U hU hW => ⟨rfl, by rw [hU]; exact hP, hC.go hS hU hW⟩⟩
/-! reads of arrays, as partial functions -/
def aLd {α : Type} (f : Nat → α) (n : Nat) (i : Int32) : Option α := if i < 0 ∨ n ≤ i.toNatClampNeg then none else some (f i.toNatClampNeg)
theorem aLd_spec {α : Type} {f : Nat → α} {n : Nat} {i : Int32} {v : α} (h : aLd f n i = some v) : vp_in i n ∧ v = f i.toNatClampNeg := by
  unfold aLd at h
  split at h
  · cases h
  · rename_i h1
    exact ⟨h1, (Option.some.inj h).symm⟩
def aSt (f : Nat → Int32) (n : Nat) (i : Int32) (x : Int32) : Option (Nat → Int32) := if i < 0 ∨ n ≤ i.toNatClampNeg then none else some (upd f i.toNatClampNeg x)
theorem aSt_spec {f : Nat → Int32} {n : Nat} {i x : Int32} {v : Nat → Int32} (h : aSt f n i x = some v) : vp_in i n ∧ v = upd f i.toNatClampNeg x := by
  unfold aSt at h
  split at h
  · cases h
  · rename_i h1
    exact ⟨h1, (Option.some.inj h).symm⟩
def aStL (f : Nat → Int64) (n : Nat) (i : Int32) (x : Int64) : Option (Nat → Int64) := if i < 0 ∨ n ≤ i.toNatClampNeg then none else some (vp_updL f i.toNatClampNeg x)
theorem aStL_spec {f : Nat → Int64} {n : Nat} {i : Int32} {x : Int64} {v : Nat → Int64} (h : aStL f n i x = some v) : vp_in i n ∧ v = vp_updL f i.toNatClampNeg x := by
  unfold aStL at h
  split at h
  · cases h
  · rename_i h1
    exact ⟨h1, (Option.some.inj h).symm⟩
def oB {α β : Type} (o : Option α) (f : α → Option β) : Option β := match o with
  | none => none
  | some a => f a
theorem oB_spec {α β : Type} {o : Option α} {f : α → Option β} {r : β} (h : oB o f = some r) : ∃ a, o = some a ∧ f a = some r := by
  cases o with
  | none => cases h
  | some a => exact ⟨a, rfl, h⟩
def oB2 {α β γ : Type} (o : Option (α × β)) (f : α → β → Option γ) : Option γ := match o with
  | none => none
  | some (a, b) => f a b
theorem oB2_spec {α β γ : Type} {o : Option (α × β)} {f : α → β → Option γ} {r : γ} (h : oB2 o f = some r) : ∃ a b, o = some (a, b) ∧ f a b = some r := by
  cases o with
  | none => cases h
  | some a => exact ⟨a.1, a.2, rfl, h⟩
/-- what is returned as a boolean is 0 or 1 -/
def oZ {β : Type} (v : Int32) (o : Option β) : Option β := if v &&& 1 = v then o else none
theorem oZ_spec {β : Type} {v : Int32} {o : Option β} {r : β} (h : oZ v o = some r) : narrow .boolean (.int v) = .int v ∧ o = some r := by
  unfold oZ at h
  split at h
  · rename_i h1
    refine ⟨?_, h⟩
    simp [narrow, h1]
  · cases h
section KX
variable {p : Program} {l : Launch} {e : Env} {R : Room} {s : State} {m : MethodId} {args : Array Value} {below : List Frame} {meth : Method} {c : Code} {H : Heap} {locs : List Loc} {cells slots : Nat} {Q : State → Prop} {cc : ByteArray} {pc : Nat} {ls : Array Slot} {rest st0 : List Value} {a : Array Value} {g : Gm} {L : List Nat} {G : Nat → va_E}
theorem k_i {post : Int32 → (Nat → va_E) → Prop} (hS : va_S (kA L) s.heap H locs) (hr : va_Run p l e R s m args below meth c H locs cells slots 0 0 (F0 m pc ls st0) rest (va_Qi post (kE g L) (kA L) a) (kA L)) (kk : ∀ (r : Int32) (G1 : Nat → va_E) (H1 : Heap) (locs1 : List Loc), post r G1 → va_P g.1 vwCl (va_pl L G1) H1 → va_S (kA L) s.heap H1 locs1 → W p l e R s m args below meth c H1 locs1 cells slots Q (F0 m (pc + 3) ls (.int r :: rest))) : W p l e R s m args below meth c H locs cells slots Q (F0 m pc ls st0) :=
  va_calli hr hS (fun _ _ h => h) (fun _ h => h) (fun r u t H1 locs1 ht _ hp hb _ _ hS1 => kk r u H1 locs1 hp (ht ▸ hb) hS1)
theorem k_l {post : Int64 → (Nat → va_E) → Prop} (hS : va_S (kA L) s.heap H locs) (hr : va_Run p l e R s m args below meth c H locs cells slots 0 0 (F0 m pc ls st0) rest (va_Ql post (kE g L) (kA L) a) (kA L)) (kk : ∀ (r : Int64) (G1 : Nat → va_E) (H1 : Heap) (locs1 : List Loc), post r G1 → va_P g.1 vwCl (va_pl L G1) H1 → va_S (kA L) s.heap H1 locs1 → W p l e R s m args below meth c H1 locs1 cells slots Q (F0 m (pc + 3) ls (.long r :: rest))) : W p l e R s m args below meth c H locs cells slots Q (F0 m pc ls st0) :=
  va_calll hr hS (fun _ _ h => h) (fun _ h => h) (fun r u t H1 locs1 ht _ hp hb _ _ hS1 => kk r u H1 locs1 hp (ht ▸ hb) hS1)
theorem k_v {post : (Nat → va_E) → Prop} (hS : va_S (kA L) s.heap H locs) (hr : va_Run p l e R s m args below meth c H locs cells slots 0 0 (F0 m pc ls st0) rest (va_Qv post (kE g L) (kA L) a) (kA L)) (kk : ∀ (G1 : Nat → va_E) (H1 : Heap) (locs1 : List Loc), post G1 → va_P g.1 vwCl (va_pl L G1) H1 → va_S (kA L) s.heap H1 locs1 → W p l e R s m args below meth c H1 locs1 cells slots Q (F0 m (pc + 3) ls rest)) : W p l e R s m args below meth c H locs cells slots Q (F0 m pc ls st0) :=
  va_callv hr hS (fun _ _ h => h) (fun _ h => h) (fun u t H1 locs1 ht _ hp hb _ _ hS1 => kk u H1 locs1 hp (ht ▸ hb) hS1)
theorem k_q {post : Option Nat → (Nat → va_E) → Prop} (hS : va_S (kA L) s.heap H locs) (hr : va_Run p l e R s m args below meth c H locs cells slots 0 0 (F0 m pc ls st0) rest (va_Qq post (kE g L) (kA L) a) (kA L)) (kk : ∀ (r : Option Nat) (G1 : Nat → va_E) (H1 : Heap) (locs1 : List Loc), post r G1 → va_P g.1 vwCl (va_pl L G1) H1 → va_S (kA L) s.heap H1 locs1 → W p l e R s m args below meth c H1 locs1 cells slots Q (F0 m (pc + 3) ls (va_rf r :: rest))) : W p l e R s m args below meth c H locs cells slots Q (F0 m pc ls st0) :=
  va_callq hr hS (fun _ _ h => h) (fun _ h => h) (fun r u t H1 locs1 ht _ hp hb _ _ hS1 => kk r u H1 locs1 hp (ht ▸ hb) hS1)
theorem k_get (hexec : p.tables.exec = Jvm.exec) (hb : c.code = cc) {own C : String} {T : u_T} {N ci index : Nat} {Ts : List Cond} (hts : ∀ w ∈ Ts, w.before args s = true) (hin : ∀ w ∈ u_ws C T N, w ∈ Ts) (hown : s.vm.findClass own = some m.cls) (hC : Cx g L s s.heap) (hP : va_P g.1 vwCl (va_pl L G) H) {b : Nat} {fs : List Value} (hbL : b ∈ L) (hG : G b = .inr (ci, fs)) (hc : vwCl[ci]? = some (C, T, N)) (k : Nat) (hk : k < N) (hlink : (Cond.fieldLink own index (T k).1 (T k).2.1 (T k).2.2.1).before args s = true) {v : Value} (hv : fs[k]? = some v) (hdg : decode cc pc = .ok (.getfield index, 3))
    (kk : W p l e R s m args below meth c H locs cells slots Q (F0 m (pc + 3) ls (v :: rest))) : W p l e R s m args below meth c H locs cells slots Q (F0 m pc ls (.ref b :: rest)) := by
  obtain ⟨q, hq⟩ := k_plget hbL hG
  exact va_get hexec hb hts hin hown hC.1 hP q hq hc k hk hlink (fun _ h => h) hv hdg kk
theorem k_getN (hexec : p.tables.exec = Jvm.exec) (hb : c.code = cc) {own C host : String} {T : u_T} {N ci index : Nat} {Ts : List Cond} (hts : ∀ w ∈ Ts, w.before args s = true) (hin : ∀ w ∈ u_ws C T N, w ∈ Ts) (hown : s.vm.findClass own = some m.cls) (hC : Cx g L s s.heap) (hP : va_P g.1 vwCl (va_pl L G) H) {b : Nat} {fs : List Value} (hbL : b ∈ L) (hG : G b = .inr (ci, fs)) (hc : vwCl[ci]? = some (C, T, N)) (k : Nat) (hk : k < N) (hlink : va_Nw (.fieldLinkNest own index (T k).1 (T k).2.1 (T k).2.2.1 host) s) {v : Value} (hv : fs[k]? = some v) (hdg : decode cc pc = .ok (.getfield index, 3))
    (kk : W p l e R s m args below meth c H locs cells slots Q (F0 m (pc + 3) ls (v :: rest))) : W p l e R s m args below meth c H locs cells slots Q (F0 m pc ls (.ref b :: rest)) := by
  obtain ⟨q, hq⟩ := k_plget hbL hG
  exact va_getN hexec hb hts hin hown hC.1 hP q hq hc k hk (va_Nw.use rfl hlink) (fun _ h => h) hv hdg kk
theorem k_put (hexec : p.tables.exec = Jvm.exec) (hb : c.code = cc) {own C : String} {T : u_T} {N ci index : Nat} {Ts : List Cond} (hts : ∀ w ∈ Ts, w.before args s = true) (hin : ∀ w ∈ u_ws C T N, w ∈ Ts) (ty0 : Nat → FieldType) (hty : ∀ k, k < N → parseFieldDescriptor (T k).2.2.1 = some (ty0 k)) (hnm : ∀ a, a < N → ∀ b, b < N → a ≠ b → (T a).2.1 ≠ (T b).2.1) (hown : s.vm.findClass own = some m.cls) (hL : L.Nodup) (hC : Cx g L s s.heap) (hP : va_P g.1 vwCl (va_pl L G) H) (hS : va_S (kA L) s.heap H locs) {b : Nat} {fs : List Value} (hbL : b ∈ L) (hG : G b = .inr (ci, fs)) (hc : vwCl[ci]? = some (C, T, N)) (k : Nat) (hk : k < N) (hlink : (Cond.fieldLink own index (T k).1 (T k).2.1 (T k).2.2.1).before args s = true) (hfin : (T k).2.2.2 = false) {ty : FieldType} {v : Value} (hd : parseFieldDescriptor (T k).2.2.1 = some ty) (hn : narrow ty v = v) (hfit : fits ty v = true) (hl : k < fs.length) (hdg : decode cc pc = .ok (.putfield index, 3))
    (kk : ∀ (H1 : Heap) (locs1 : List Loc), va_P g.1 vwCl (va_pl L (va_up G b (.inr (ci, fs.set k v)))) H1 → va_S (kA L) s.heap H1 locs1 → W p l e R s m args below meth c H1 locs1 cells slots Q (F0 m (pc + 3) ls rest)) : W p l e R s m args below meth c H locs cells slots Q (F0 m pc ls (v :: .ref b :: rest)) := by
  obtain ⟨q, hq⟩ := k_plget hbL hG
  exact va_put hexec hb hts hin ty0 hty hnm hown hC.1 hP (k_plD hL G) hS q hq hc k hk hlink (fun _ h => h) hfin hd hn hfit hl hdg (fun H1 locs1 h1 _ h3 => kk H1 locs1 (by rw [← k_plset hL hbL hG hq]; exact h1) h3)
theorem k_putN (hexec : p.tables.exec = Jvm.exec) (hb : c.code = cc) {own C host : String} {T : u_T} {N ci index : Nat} {Ts : List Cond} (hts : ∀ w ∈ Ts, w.before args s = true) (hin : ∀ w ∈ u_ws C T N, w ∈ Ts) (ty0 : Nat → FieldType) (hty : ∀ k, k < N → parseFieldDescriptor (T k).2.2.1 = some (ty0 k)) (hnm : ∀ a, a < N → ∀ b, b < N → a ≠ b → (T a).2.1 ≠ (T b).2.1) (hown : s.vm.findClass own = some m.cls) (hL : L.Nodup) (hC : Cx g L s s.heap) (hP : va_P g.1 vwCl (va_pl L G) H) (hS : va_S (kA L) s.heap H locs) {b : Nat} {fs : List Value} (hbL : b ∈ L) (hG : G b = .inr (ci, fs)) (hc : vwCl[ci]? = some (C, T, N)) (k : Nat) (hk : k < N) (hlink : va_Nw (.fieldLinkNest own index (T k).1 (T k).2.1 (T k).2.2.1 host) s) (hfin : (T k).2.2.2 = false) {ty : FieldType} {v : Value} (hd : parseFieldDescriptor (T k).2.2.1 = some ty) (hn : narrow ty v = v) (hfit : fits ty v = true) (hl : k < fs.length) (hdg : decode cc pc = .ok (.putfield index, 3))
    (kk : ∀ (H1 : Heap) (locs1 : List Loc), va_P g.1 vwCl (va_pl L (va_up G b (.inr (ci, fs.set k v)))) H1 → va_S (kA L) s.heap H1 locs1 → W p l e R s m args below meth c H1 locs1 cells slots Q (F0 m (pc + 3) ls rest)) : W p l e R s m args below meth c H locs cells slots Q (F0 m pc ls (v :: .ref b :: rest)) := by
  obtain ⟨q, hq⟩ := k_plget hbL hG
  exact va_putN hexec hb hts hin ty0 hty hnm hown hC.1 hP (k_plD hL G) hS q hq hc k hk (va_Nw.use rfl hlink) (fun _ h => h) hfin hd hn hfit hl hdg (fun H1 locs1 h1 _ h3 => kk H1 locs1 (by rw [← k_plset hL hbL hG hq]; exact h1) h3)
theorem k_ild (hexec : p.tables.exec = Jvm.exec) (hb : c.code = cc) (hC : Cx g L s s.heap) (hP : va_P g.1 vwCl (va_pl L G) H) {b n : Nat} {f : Nat → Int32} (hbL : b ∈ L) (hG : G b = .inl (gI g, n, .inl f)) {i : Int32} (hin : vp_in i n) (hdg : decode cc pc = .ok (.iaload, 1))
    (kk : W p l e R s m args below meth c H locs cells slots Q (F0 m (pc + 1) ls (.int (f i.toNatClampNeg) :: rest))) : W p l e R s m args below meth c H locs cells slots Q (F0 m pc ls (.int i :: .ref b :: rest)) := by
  obtain ⟨q, hq⟩ := k_plget hbL hG
  exact va_iald hexec hb hC.1 hP q 0 hq rfl hin hdg kk
theorem k_lld (hexec : p.tables.exec = Jvm.exec) (hb : c.code = cc) (hC : Cx g L s s.heap) (hP : va_P g.1 vwCl (va_pl L G) H) {b n : Nat} {f : Nat → Int64} (hbL : b ∈ L) (hG : G b = .inl (gJ g, n, .inr (.inl f))) {i : Int32} (hin : vp_in i n) (hdg : decode cc pc = .ok (.laload, 1))
    (kk : W p l e R s m args below meth c H locs cells slots Q (F0 m (pc + 1) ls (.long (f i.toNatClampNeg) :: rest))) : W p l e R s m args below meth c H locs cells slots Q (F0 m pc ls (.int i :: .ref b :: rest)) := by
  obtain ⟨q, hq⟩ := k_plget hbL hG
  exact va_lald hexec hb hC.1 hP q 1 hq rfl hin hdg kk
theorem k_ist (hexec : p.tables.exec = Jvm.exec) (hb : c.code = cc) (hL : L.Nodup) (hC : Cx g L s s.heap) (hP : va_P g.1 vwCl (va_pl L G) H) (hS : va_S (kA L) s.heap H locs) {b n : Nat} {f : Nat → Int32} (hbL : b ∈ L) (hG : G b = .inl (gI g, n, .inl f)) {i x : Int32} (hin : vp_in i n) (hdg : decode cc pc = .ok (.iastore, 1))
    (kk : ∀ (H1 : Heap) (locs1 : List Loc), va_P g.1 vwCl (va_pl L (va_up G b (.inl (gI g, n, .inl (upd f i.toNatClampNeg x))))) H1 → va_S (kA L) s.heap H1 locs1 → W p l e R s m args below meth c H1 locs1 cells slots Q (F0 m (pc + 1) ls rest)) : W p l e R s m args below meth c H locs cells slots Q (F0 m pc ls (.int x :: .int i :: .ref b :: rest)) := by
  obtain ⟨q, hq⟩ := k_plget hbL hG
  exact va_iast hexec hb hC.1 hP (k_plD hL G) hS q 0 hq rfl hin hdg (fun H1 locs1 h1 _ h3 => kk H1 locs1 (by rw [← k_plset hL hbL hG hq]; exact h1) h3)
theorem k_lst (hexec : p.tables.exec = Jvm.exec) (hb : c.code = cc) (hL : L.Nodup) (hC : Cx g L s s.heap) (hP : va_P g.1 vwCl (va_pl L G) H) (hS : va_S (kA L) s.heap H locs) {b n : Nat} {f : Nat → Int64} (hbL : b ∈ L) (hG : G b = .inl (gJ g, n, .inr (.inl f))) {i : Int32} {x : Int64} (hin : vp_in i n) (hdg : decode cc pc = .ok (.lastore, 1))
    (kk : ∀ (H1 : Heap) (locs1 : List Loc), va_P g.1 vwCl (va_pl L (va_up G b (.inl (gJ g, n, .inr (.inl (vp_updL f i.toNatClampNeg x)))))) H1 → va_S (kA L) s.heap H1 locs1 → W p l e R s m args below meth c H1 locs1 cells slots Q (F0 m (pc + 1) ls rest)) : W p l e R s m args below meth c H locs cells slots Q (F0 m pc ls (.long x :: .int i :: .ref b :: rest)) := by
  obtain ⟨q, hq⟩ := k_plget hbL hG
  exact va_last hexec hb hC.1 hP (k_plD hL G) hS q 1 hq rfl hin hdg (fun H1 locs1 h1 _ h3 => kk H1 locs1 (by rw [← k_plset hL hbL hG hq]; exact h1) h3)
theorem k_leni (hexec : p.tables.exec = Jvm.exec) (hb : c.code = cc) (hC : Cx g L s s.heap) (hP : va_P g.1 vwCl (va_pl L G) H) {b n : Nat} {f : Nat → Int32} (hbL : b ∈ L) (hG : G b = .inl (gI g, n, .inl f)) (hdg : decode cc pc = .ok (.arraylength, 1))
    (kk : W p l e R s m args below meth c H locs cells slots Q (F0 m (pc + 1) ls (.int (Int32.ofNat n) :: rest))) : W p l e R s m args below meth c H locs cells slots Q (F0 m pc ls (.ref b :: rest)) := by
  obtain ⟨q, hq⟩ := k_plget hbL hG
  exact va_alen hexec hb hC.1 hP q 0 hq rfl rfl hdg kk
theorem k_lenl (hexec : p.tables.exec = Jvm.exec) (hb : c.code = cc) (hC : Cx g L s s.heap) (hP : va_P g.1 vwCl (va_pl L G) H) {b n : Nat} {f : Nat → Int64} (hbL : b ∈ L) (hG : G b = .inl (gJ g, n, .inr (.inl f))) (hdg : decode cc pc = .ok (.arraylength, 1))
    (kk : W p l e R s m args below meth c H locs cells slots Q (F0 m (pc + 1) ls (.int (Int32.ofNat n) :: rest))) : W p l e R s m args below meth c H locs cells slots Q (F0 m pc ls (.ref b :: rest)) := by
  obtain ⟨q, hq⟩ := k_plget hbL hG
  exact va_alen hexec hb hC.1 hP q 1 hq rfl rfl hdg kk
theorem k_lenr (hexec : p.tables.exec = Jvm.exec) (hb : c.code = cc) (hC : Cx g L s s.heap) (hP : va_P g.1 vwCl (va_pl L G) H) {b n : Nat} {f : Nat → Option Nat} (hbL : b ∈ L) (hG : G b = .inl (gR g, n, .inr (.inr (.inr (.inr f))))) (hdg : decode cc pc = .ok (.arraylength, 1))
    (kk : W p l e R s m args below meth c H locs cells slots Q (F0 m (pc + 1) ls (.int (Int32.ofNat n) :: rest))) : W p l e R s m args below meth c H locs cells slots Q (F0 m pc ls (.ref b :: rest)) := by
  obtain ⟨q, hq⟩ := k_plget hbL hG
  exact va_alen hexec hb hC.1 hP q 2 hq rfl rfl hdg kk
theorem k_rld (hexec : p.tables.exec = Jvm.exec) (hb : c.code = cc) (hC : Cx g L s s.heap) (hP : va_P g.1 vwCl (va_pl L G) H) {b n : Nat} {f : Nat → Option Nat} (hbL : b ∈ L) (hG : G b = .inl (gR g, n, .inr (.inr (.inr (.inr f))))) {i : Int32} (hin : vp_in i n) (hdg : decode cc pc = .ok (.aaload, 1))
    (kk : W p l e R s m args below meth c H locs cells slots Q (F0 m (pc + 1) ls (va_rf (f i.toNatClampNeg) :: rest))) : W p l e R s m args below meth c H locs cells slots Q (F0 m pc ls (.int i :: .ref b :: rest)) := by
  obtain ⟨q, hq⟩ := k_plget hbL hG
  exact va_aldq hexec hb hC.1 hP q 2 hq rfl hin hdg kk
theorem k_rst (hexec : p.tables.exec = Jvm.exec) (hb : c.code = cc) (hL : L.Nodup) (hC : Cx g L s s.heap) (hP : va_P g.1 vwCl (va_pl L G) H) (hS : va_S (kA L) s.heap H locs) {b n : Nat} {f : Nat → Option Nat} (hbL : b ∈ L) (hG : G b = .inl (gR g, n, .inr (.inr (.inr (.inr f))))) {v : Nat} {vs : List Value} (hv : v ∈ L) (hGv : G v = .inr (1, vs)) {i : Int32} (hin : vp_in i n) (hdg : decode cc pc = .ok (.aastore, 1))
    (kk : ∀ (H1 : Heap) (locs1 : List Loc), va_P g.1 vwCl (va_pl L (va_up G b (.inl (gR g, n, .inr (.inr (.inr (.inr (va_up f i.toNatClampNeg (some v))))))))) H1 → va_S (kA L) s.heap H1 locs1 → W p l e R s m args below meth c H1 locs1 cells slots Q (F0 m (pc + 1) ls rest)) : W p l e R s m args below meth c H locs cells slots Q (F0 m pc ls (.ref v :: .int i :: .ref b :: rest)) := by
  obtain ⟨q, hq⟩ := k_plget hbL hG
  obtain ⟨q2, hq2⟩ := k_plget hv hGv
  exact va_astq hexec hb hC.1 hP (k_plD hL G) hS q 2 q2 1 (r := (RX1, TX1, 13)) hq rfl hq2 rfl hin hdg (fun H1 locs1 h1 _ h3 => kk H1 locs1 (by rw [← k_plset hL hbL hG hq]; exact h1) h3)
theorem k_gets (hexec : p.tables.exec = Jvm.exec) (hb : c.code = cc) (hC : Cx g L s s.heap) (hS : va_S (kA L) s.heap H locs) {own : String} {index : Nat} (hown : s.vm.findClass own = some m.cls) (hlink : (Cond.fieldLink own index "OrderedClauses" "VALUES_WITH_ATOM" "[J").before args s = true) (hdg : decode cc pc = .ok (.getstatic index, 3))
    (kk : W p l e R s m args below meth c H locs cells slots Q (F0 m (pc + 3) ls (.ref (gT g) :: rest))) : W p l e R s m args below meth c H locs cells slots Q (F0 m pc ls rest) :=
  va_gets hexec hb hC.2.2.1 hS hown hlink (fun _ h => h) hdg kk
theorem k_tld (hexec : p.tables.exec = Jvm.exec) (hb : c.code = cc) (hC : Cx g L s s.heap) (hS : va_S (kA L) s.heap H locs) {i : Int32} (hin : vp_in i 6) (hdg : decode cc pc = .ok (.laload, 1))
    (kk : W p l e R s m args below meth c H locs cells slots Q (F0 m (pc + 1) ls (.long (tabv i.toNatClampNeg) :: rest))) : W p l e R s m args below meth c H locs cells slots Q (F0 m pc ls (.int i :: .ref (gT g) :: rest)) :=
  va_tl hexec hb hC.2.2.2 hS hin rfl hdg kk
theorem k_tlen (hexec : p.tables.exec = Jvm.exec) (hb : c.code = cc) (hC : Cx g L s s.heap) (hS : va_S (kA L) s.heap H locs) (hdg : decode cc pc = .ok (.arraylength, 1))
    (kk : W p l e R s m args below meth c H locs cells slots Q (F0 m (pc + 1) ls (.int 6 :: rest))) : W p l e R s m args below meth c H locs cells slots Q (F0 m pc ls (.ref (gT g) :: rest)) :=
  va_tlen hexec hb hC.2.2.2 hS rfl hdg kk
end KX
/-! an object with rows of ints (lengths as len says), maybe one row of longs, and ints -/
abbrev St : Type := (Nat → Nat → Int32) × (Nat → Int64) × (Nat → Int32)
def ownS (a : Nat) (r : Nat → Nat) (n : Nat) (q : Nat) : Prop := q = a ∨ ∃ j, j < n ∧ q = r j
/-- nothing but the object's own cells has changed -/
def frS (a : Nat) (r : Nat → Nat) (n : Nat) (G G1 : Nat → va_E) : Prop := ∀ q, ¬ ownS a r n q → G1 q = G q
theorem frS.rf {a : Nat} {r : Nat → Nat} {n : Nat} {G : Nat → va_E} : frS a r n G G := fun _ _ => rfl
theorem frS.tr {a : Nat} {r : Nat → Nat} {n : Nat} {G G1 G2 : Nat → va_E} (h1 : frS a r n G G1) (h2 : frS a r n G1 G2) : frS a r n G G2 := fun q hq => (h2 q hq).trans (h1 q hq)
def vO (g : Gm) (L : List Nat) (G : Nat → va_E) (a : Nat) (r : Nat → Nat) (ci nI n : Nat) (len : Nat → Nat) (fs : (Nat → Nat) → (Nat → Int32) → List Value) (u : St) : Prop :=
  a ∈ L ∧ G a = .inr (ci, fs r u.2.2) ∧ (∀ j, j < n → r j ∈ L ∧ r j ≠ a) ∧ (∀ i j, i < n → j < n → r i = r j → i = j) ∧ (∀ j, j < nI → G (r j) = .inl (gI g, len j, .inl (u.1 j))) ∧ (∀ j, nI ≤ j → j < n → G (r j) = .inl (gJ g, len j, .inr (.inl u.2.1)))
section VO
variable {g : Gm} {L : List Nat} {G : Nat → va_E} {a : Nat} {r : Nat → Nat} {ci nI n : Nat} {len : Nat → Nat} {fs : (Nat → Nat) → (Nat → Int32) → List Value} {f : Nat → Nat → Int32} {gg : Nat → Int64} {k : Nat → Int32}
theorem vO.m {u : St} (h : vO g L G a r ci nI n len fs u) : a ∈ L := h.1
theorem vO.o {u : St} (h : vO g L G a r ci nI n len fs u) : G a = .inr (ci, fs r u.2.2) := h.2.1
theorem vO.rm {u : St} (h : vO g L G a r ci nI n len fs u) (j : Nat) (hj : j < n) : r j ∈ L := (h.2.2.1 j hj).1
theorem vO.ri {u : St} (h : vO g L G a r ci nI n len fs u) (j : Nat) (hj : j < nI) : G (r j) = .inl (gI g, len j, .inl (u.1 j)) := h.2.2.2.2.1 j hj
theorem vO.rl {u : St} (h : vO g L G a r ci nI n len fs u) (j : Nat) (h1 : nI ≤ j) (hj : j < n) : G (r j) = .inl (gJ g, len j, .inr (.inl u.2.1)) := h.2.2.2.2.2 j h1 hj
theorem vO.setI (h : vO g L G a r ci nI n len fs (f, gg, k)) (hn : nI ≤ n) (j : Nat) (hj : j < nI) (x : Nat → Int32) : vO g L (va_up G (r j) (.inl (gI g, len j, .inl x))) a r ci nI n len fs (va_up f j x, gg, k) := by
  obtain ⟨h1, h2, h3, h4, h5, h6⟩ := h
  refine ⟨h1, ?_, h3, h4, fun i hi => ?_, fun i hi hi2 => ?_⟩
  · rw [va_up_ne _ _ (fun q => (h3 j (by omega)).2 q.symm)]; exact h2
  · by_cases e : i = j
    · subst e
      rw [va_up_self]
      show _ = Sum.inl (gI g, len i, Sum.inl (va_up f i x i))
      rw [va_up_self]
    · rw [va_up_ne _ _ (fun q => e (h4 i j (by omega) (by omega) q))]
      show _ = Sum.inl (gI g, len i, Sum.inl (va_up f j x i))
      rw [va_up_ne _ _ e]
      exact h5 i hi
  · rw [va_up_ne _ _ (fun q => by have := h4 i j hi2 (by omega) q; omega)]
    exact h6 i hi hi2
theorem vO.setL (h : vO g L G a r ci nI n len fs (f, gg, k)) (hn : n = nI + 1) (x : Nat → Int64) : vO g L (va_up G (r nI) (.inl (gJ g, len nI, .inr (.inl x)))) a r ci nI n len fs (f, x, k) := by
  obtain ⟨h1, h2, h3, h4, h5, h6⟩ := h
  refine ⟨h1, ?_, h3, h4, fun i hi => ?_, fun i hi hi2 => ?_⟩
  · rw [va_up_ne _ _ (fun q => (h3 nI (by omega)).2 q.symm)]; exact h2
  · rw [va_up_ne _ _ (fun q => by have := h4 i nI (by omega) (by omega) q; omega)]
    exact h5 i hi
  · have e : i = nI := by omega
    subst e
    rw [va_up_self]
theorem vO.setK (h : vO g L G a r ci nI n len fs (f, gg, k)) {w : List Value} {k1 : Nat → Int32} (e : fs r k1 = w) : vO g L (va_up G a (.inr (ci, w))) a r ci nI n len fs (f, gg, k1) := by
  obtain ⟨h1, h2, h3, h4, h5, h6⟩ := h
  refine ⟨h1, ?_, h3, h4, fun i hi => ?_, fun i hi hi2 => ?_⟩
  · rw [va_up_self, ← e]
  · by_cases e2 : i < n
    · rw [va_up_ne _ _ (h3 i e2).2]; exact h5 i hi
    · rw [va_up]
      split
      · rename_i q
        have := h5 i hi
        rw [q, h2] at this
        cases this
      · exact h5 i hi
  · rw [va_up_ne _ _ (h3 i hi2).2]; exact h6 i hi hi2
theorem vO.frI {u : St} (h : vO g L G a r ci nI n len fs u) (hn : nI ≤ n) {G0 : Nat → va_E} (h0 : frS a r n G0 G) (j : Nat) (hj : j < n) (x : va_E) : frS a r n G0 (va_up G (r j) x) := fun q hq => by
  rw [va_up_ne _ _ (fun e => hq (Or.inr ⟨j, hj, e⟩))]
  exact h0 q hq
theorem vO.frK {G0 : Nat → va_E} (h0 : frS a r n G0 G) (x : va_E) : frS a r n G0 (va_up G a x) := fun q hq => by
  rw [va_up_ne _ _ (fun e => hq (Or.inl e))]
  exact h0 q hq
/-- the view stays where the object's own cells do -/
theorem vO.keep {u : St} (h : vO g L G a r ci nI n len fs u) (hn : nI ≤ n) {G1 : Nat → va_E} (hq : ∀ q, ownS a r n q → G1 q = G q) : vO g L G1 a r ci nI n len fs u := by
  obtain ⟨h1, h2, h3, h4, h5, h6⟩ := h
  refine ⟨h1, by rw [hq a (Or.inl rfl)]; exact h2, h3, h4, fun i hi => ?_, fun i hi hi2 => ?_⟩
  · rw [hq _ (Or.inr ⟨i, by omega, rfl⟩)]; exact h5 i hi
  · rw [hq _ (Or.inr ⟨i, hi2, rfl⟩)]; exact h6 i hi hi2
end VO
abbrev fsS (r : Nat → Nat) (k : Nat → Int32) : List Value := [.ref (r 0), .ref (r 1), .ref (r 2), .ref (r 3), .ref (r 4), .ref (r 5), .ref (r 6), .ref (r 7), .int (k 0), .int (k 1), .int (k 2), .int (k 3), .int (k 4)]
abbrev fsT (r : Nat → Nat) (k : Nat → Int32) : List Value := [.ref (r 0), .int (k 0)]
abbrev fsM (r : Nat → Nat) (k : Nat → Int32) : List Value := [.ref (r 0), .ref (r 1), .ref (r 2), .int (k 0), .ref (r 3), .int (k 1), .int (k 2), .int (k 3)]
def lnS : Nat → Nat := fun j => if j = 0 then 6 else 40
def lnT : Nat → Nat := fun _ => 60
def lnM : Nat → Nat := fun j => if j = 2 then 1004 else if j = 3 then 60 else 251
abbrev vS (g : Gm) (L : List Nat) (G : Nat → va_E) (a : Nat) (r : Nat → Nat) (u : St) : Prop := vO g L G a r 1 7 8 lnS fsS u
abbrev vT (g : Gm) (L : List Nat) (G : Nat → va_E) (a : Nat) (r : Nat → Nat) (u : St) : Prop := vO g L G a r 2 1 1 lnT fsT u
abbrev vM (g : Gm) (L : List Nat) (G : Nat → va_E) (a : Nat) (r : Nat → Nat) (u : St) : Prop := vO g L G a r 4 4 4 lnM fsM u
/-! rows that take the partial functions' results by name -/
def iRem (x y : Int32) : Option Int32 := if y = 0 then none else some (x - x / y * y)
def iDiv (x y : Int32) : Option Int32 := if y = 0 then none else some (x / y)
def fDv (x y : UInt32) : Option UInt32 := if FP.fdiv x y &&& 0x7fffffff ≤ 0x7f800000 then some (FP.fdiv x y) else none
def aCp {α : Type} (f : Nat → α) (n0 : Nat) (h : Nat → α) (n1 : Nat) (sp dp n : Int32) : Option (Nat → α) := if ¬ sp < 0 ∧ ¬ dp < 0 ∧ ¬ n < 0 ∧ sp.toNatClampNeg + n.toNatClampNeg ≤ n0 ∧ dp.toNatClampNeg + n.toNatClampNeg ≤ n1 then some (va_cpy f h sp.toNatClampNeg dp.toNatClampNeg n.toNatClampNeg) else none
theorem spair {α β : Type} {a c : α} {b d : β} (h : some (a, b) = some (c, d)) : a = c ∧ b = d := by cases h; exact ⟨rfl, rfl⟩
theorem ts_out {x : Int32} {n : Nat} (hn : n < 2 ^ 31) (h : ∀ j, j < n → ¬ x = nI j) : x.toInt < 0 ∨ ((n : Int) - 1) < x.toInt := by
  rcases Int.lt_or_le x.toInt 0 with q | q
  · exact Or.inl q
  · rcases Int.lt_or_le ((n : Int) - 1) x.toInt with q2 | q2
    · exact Or.inr q2
    · exfalso
      refine h x.toInt.toNat (by omega) ?_
      apply Int32.toInt_inj.mp
      rw [nI_toInt (by omega)]
      omega
section KY
variable {p : Program} {l : Launch} {e : Env} {R : Room} {s : State} {m : MethodId} {args : Array Value} {below : List Frame} {meth : Method} {c : Code} {H : Heap} {locs : List Loc} {cells slots : Nat} {Q : State → Prop} {cc : ByteArray} {pc : Nat} {ls : Array Slot} {rest st0 : List Value} {a : Array Value} {g : Gm} {L : List Nat} {G : Nat → va_E}
theorem k_ildE (hexec : p.tables.exec = Jvm.exec) (hb : c.code = cc) (hC : Cx g L s s.heap) (hP : va_P g.1 vwCl (va_pl L G) H) {b n : Nat} {f : Nat → Int32} (hbL : b ∈ L) (hG : G b = .inl (gI g, n, .inl f)) {i v : Int32} (hv : aLd f n i = some v) (hdg : decode cc pc = .ok (.iaload, 1))
    (kk : W p l e R s m args below meth c H locs cells slots Q (F0 m (pc + 1) ls (.int v :: rest))) : W p l e R s m args below meth c H locs cells slots Q (F0 m pc ls (.int i :: .ref b :: rest)) := by
  obtain ⟨h1, rfl⟩ := aLd_spec hv
  exact k_ild hexec hb hC hP hbL hG h1 hdg kk
theorem k_lldE (hexec : p.tables.exec = Jvm.exec) (hb : c.code = cc) (hC : Cx g L s s.heap) (hP : va_P g.1 vwCl (va_pl L G) H) {b n : Nat} {f : Nat → Int64} (hbL : b ∈ L) (hG : G b = .inl (gJ g, n, .inr (.inl f))) {i : Int32} {v : Int64} (hv : aLd f n i = some v) (hdg : decode cc pc = .ok (.laload, 1))
    (kk : W p l e R s m args below meth c H locs cells slots Q (F0 m (pc + 1) ls (.long v :: rest))) : W p l e R s m args below meth c H locs cells slots Q (F0 m pc ls (.int i :: .ref b :: rest)) := by
  obtain ⟨h1, rfl⟩ := aLd_spec hv
  exact k_lld hexec hb hC hP hbL hG h1 hdg kk
theorem k_tldE (hexec : p.tables.exec = Jvm.exec) (hb : c.code = cc) (hC : Cx g L s s.heap) (hS : va_S (kA L) s.heap H locs) {i : Int32} {v : Int64} (hv : aLd tabv 6 i = some v) (hdg : decode cc pc = .ok (.laload, 1))
    (kk : W p l e R s m args below meth c H locs cells slots Q (F0 m (pc + 1) ls (.long v :: rest))) : W p l e R s m args below meth c H locs cells slots Q (F0 m pc ls (.int i :: .ref (gT g) :: rest)) := by
  obtain ⟨h1, rfl⟩ := aLd_spec hv
  exact k_tld hexec hb hC hS h1 hdg kk
theorem k_istE (hexec : p.tables.exec = Jvm.exec) (hb : c.code = cc) (hL : L.Nodup) (hC : Cx g L s s.heap) (hP : va_P g.1 vwCl (va_pl L G) H) (hS : va_S (kA L) s.heap H locs) {b n : Nat} {f y : Nat → Int32} (hbL : b ∈ L) (hG : G b = .inl (gI g, n, .inl f)) {i x : Int32} (hv : aSt f n i x = some y) (hdg : decode cc pc = .ok (.iastore, 1))
    (kk : ∀ (G1 : Nat → va_E) (H1 : Heap) (locs1 : List Loc), G1 = va_up G b (.inl (gI g, n, .inl y)) → va_P g.1 vwCl (va_pl L G1) H1 → va_S (kA L) s.heap H1 locs1 → W p l e R s m args below meth c H1 locs1 cells slots Q (F0 m (pc + 1) ls rest)) : W p l e R s m args below meth c H locs cells slots Q (F0 m pc ls (.int x :: .int i :: .ref b :: rest)) := by
  obtain ⟨h1, rfl⟩ := aSt_spec hv
  exact k_ist hexec hb hL hC hP hS hbL hG h1 hdg (fun H1 locs1 hP1 hS1 => kk _ H1 locs1 rfl hP1 hS1)
theorem k_lstE (hexec : p.tables.exec = Jvm.exec) (hb : c.code = cc) (hL : L.Nodup) (hC : Cx g L s s.heap) (hP : va_P g.1 vwCl (va_pl L G) H) (hS : va_S (kA L) s.heap H locs) {b n : Nat} {f y : Nat → Int64} (hbL : b ∈ L) (hG : G b = .inl (gJ g, n, .inr (.inl f))) {i : Int32} {x : Int64} (hv : aStL f n i x = some y) (hdg : decode cc pc = .ok (.lastore, 1))
    (kk : ∀ (G1 : Nat → va_E) (H1 : Heap) (locs1 : List Loc), G1 = va_up G b (.inl (gJ g, n, .inr (.inl y))) → va_P g.1 vwCl (va_pl L G1) H1 → va_S (kA L) s.heap H1 locs1 → W p l e R s m args below meth c H1 locs1 cells slots Q (F0 m (pc + 1) ls rest)) : W p l e R s m args below meth c H locs cells slots Q (F0 m pc ls (.long x :: .int i :: .ref b :: rest)) := by
  obtain ⟨h1, rfl⟩ := aStL_spec hv
  exact k_lst hexec hb hL hC hP hS hbL hG h1 hdg (fun H1 locs1 hP1 hS1 => kk _ H1 locs1 rfl hP1 hS1)
theorem k_putE (hexec : p.tables.exec = Jvm.exec) (hb : c.code = cc) {own C : String} {T : u_T} {N ci index : Nat} {Ts : List Cond} (hts : ∀ w ∈ Ts, w.before args s = true) (hin : ∀ w ∈ u_ws C T N, w ∈ Ts) (ty0 : Nat → FieldType) (hty : ∀ k, k < N → parseFieldDescriptor (T k).2.2.1 = some (ty0 k)) (hnm : ∀ a, a < N → ∀ b, b < N → a ≠ b → (T a).2.1 ≠ (T b).2.1) (hown : s.vm.findClass own = some m.cls) (hL : L.Nodup) (hC : Cx g L s s.heap) (hP : va_P g.1 vwCl (va_pl L G) H) (hS : va_S (kA L) s.heap H locs) {b : Nat} {fs : List Value} (hbL : b ∈ L) (hG : G b = .inr (ci, fs)) (hc : vwCl[ci]? = some (C, T, N)) (k : Nat) (hk : k < N) (hlink : (Cond.fieldLink own index (T k).1 (T k).2.1 (T k).2.2.1).before args s = true) (hfin : (T k).2.2.2 = false) {v : Int32} (hd : parseFieldDescriptor (T k).2.2.1 = some .int) (hl : k < fs.length) (hdg : decode cc pc = .ok (.putfield index, 3))
    (kk : ∀ (G1 : Nat → va_E) (H1 : Heap) (locs1 : List Loc), G1 = va_up G b (.inr (ci, fs.set k (.int v))) → va_P g.1 vwCl (va_pl L G1) H1 → va_S (kA L) s.heap H1 locs1 → W p l e R s m args below meth c H1 locs1 cells slots Q (F0 m (pc + 3) ls rest)) : W p l e R s m args below meth c H locs cells slots Q (F0 m pc ls (.int v :: .ref b :: rest)) :=
  k_put hexec hb hts hin ty0 hty hnm hown hL hC hP hS hbL hG hc k hk hlink hfin (v := .int v) hd rfl rfl hl hdg (fun H1 locs1 hP1 hS1 => kk _ H1 locs1 rfl hP1 hS1)
theorem k_putNE (hexec : p.tables.exec = Jvm.exec) (hb : c.code = cc) {own C host : String} {T : u_T} {N ci index : Nat} {Ts : List Cond} (hts : ∀ w ∈ Ts, w.before args s = true) (hin : ∀ w ∈ u_ws C T N, w ∈ Ts) (ty0 : Nat → FieldType) (hty : ∀ k, k < N → parseFieldDescriptor (T k).2.2.1 = some (ty0 k)) (hnm : ∀ a, a < N → ∀ b, b < N → a ≠ b → (T a).2.1 ≠ (T b).2.1) (hown : s.vm.findClass own = some m.cls) (hL : L.Nodup) (hC : Cx g L s s.heap) (hP : va_P g.1 vwCl (va_pl L G) H) (hS : va_S (kA L) s.heap H locs) {b : Nat} {fs : List Value} (hbL : b ∈ L) (hG : G b = .inr (ci, fs)) (hc : vwCl[ci]? = some (C, T, N)) (k : Nat) (hk : k < N) (hlink : va_Nw (.fieldLinkNest own index (T k).1 (T k).2.1 (T k).2.2.1 host) s) (hfin : (T k).2.2.2 = false) {v : Int32} (hd : parseFieldDescriptor (T k).2.2.1 = some .int) (hl : k < fs.length) (hdg : decode cc pc = .ok (.putfield index, 3))
    (kk : ∀ (G1 : Nat → va_E) (H1 : Heap) (locs1 : List Loc), G1 = va_up G b (.inr (ci, fs.set k (.int v))) → va_P g.1 vwCl (va_pl L G1) H1 → va_S (kA L) s.heap H1 locs1 → W p l e R s m args below meth c H1 locs1 cells slots Q (F0 m (pc + 3) ls rest)) : W p l e R s m args below meth c H locs cells slots Q (F0 m pc ls (.int v :: .ref b :: rest)) :=
  k_putN hexec hb hts hin ty0 hty hnm hown hL hC hP hS hbL hG hc k hk hlink hfin (v := .int v) hd rfl rfl hl hdg (fun H1 locs1 hP1 hS1 => kk _ H1 locs1 rfl hP1 hS1)
theorem lv_iremE (hexec : p.tables.exec = Jvm.exec) (hb : c.code = cc) {x y v : Int32} (hdg : decode cc pc = .ok (.irem, 1)) (hv : iRem x y = some v) (k : W p l e R s m args below meth c H locs cells slots Q (F0 m (pc + 1) ls (.int v :: rest))) : W p l e R s m args below meth c H locs cells slots Q (F0 m pc ls (.int y :: .int x :: rest)) := by
  unfold iRem at hv
  split at hv
  · cases hv
  · rename_i h
    obtain rfl := Option.some.inj hv
    exact lv_irem hexec hb hdg h k
theorem lv_idivE (hexec : p.tables.exec = Jvm.exec) (hb : c.code = cc) {x y v : Int32} (hdg : decode cc pc = .ok (.idiv, 1)) (hv : iDiv x y = some v) (k : W p l e R s m args below meth c H locs cells slots Q (F0 m (pc + 1) ls (.int v :: rest))) : W p l e R s m args below meth c H locs cells slots Q (F0 m pc ls (.int y :: .int x :: rest)) := by
  unfold iDiv at hv
  split at hv
  · cases hv
  · rename_i h
    obtain rfl := Option.some.inj hv
    exact lv_idiv hexec hb hdg h k
theorem lv_fdivE (hexec : p.tables.exec = Jvm.exec) (hb : c.code = cc) {x y v : UInt32} (hdg : decode cc pc = .ok (.fdiv, 1)) (hv : fDv x y = some v) (k : W p l e R s m args below meth c H locs cells slots Q (F0 m (pc + 1) ls (.float v :: rest))) : W p l e R s m args below meth c H locs cells slots Q (F0 m pc ls (.float y :: .float x :: rest)) := by
  unfold fDv at hv
  split at hv
  · rename_i h
    obtain rfl := Option.some.inj hv
    exact lv_fdiv hexec hb hdg h k
  · cases hv
theorem k_iR {rv : Int32} (hS : va_S (kA L) s.heap H locs) (hr : va_Run p l e R s m args below meth c H locs cells slots 0 0 (F0 m pc ls st0) rest (va_Qi (fun x (G1 : Nat → va_E) => x = rv ∧ G1 = G) (kE g L) (kA L) a) (kA L)) (kk : ∀ (H1 : Heap) (locs1 : List Loc), va_P g.1 vwCl (va_pl L G) H1 → va_S (kA L) s.heap H1 locs1 → W p l e R s m args below meth c H1 locs1 cells slots Q (F0 m (pc + 3) ls (.int rv :: rest))) : W p l e R s m args below meth c H locs cells slots Q (F0 m pc ls st0) :=
  k_i hS hr (fun r G1 H1 locs1 hq hP1 hS1 => by obtain ⟨rfl, rfl⟩ := hq; exact kk H1 locs1 hP1 hS1)
theorem k_lR {rv : Int64} (hS : va_S (kA L) s.heap H locs) (hr : va_Run p l e R s m args below meth c H locs cells slots 0 0 (F0 m pc ls st0) rest (va_Ql (fun x (G1 : Nat → va_E) => x = rv ∧ G1 = G) (kE g L) (kA L) a) (kA L)) (kk : ∀ (H1 : Heap) (locs1 : List Loc), va_P g.1 vwCl (va_pl L G) H1 → va_S (kA L) s.heap H1 locs1 → W p l e R s m args below meth c H1 locs1 cells slots Q (F0 m (pc + 3) ls (.long rv :: rest))) : W p l e R s m args below meth c H locs cells slots Q (F0 m pc ls st0) :=
  k_l hS hr (fun r G1 H1 locs1 hq hP1 hS1 => by obtain ⟨rfl, rfl⟩ := hq; exact kk H1 locs1 hP1 hS1)
theorem k_iW {rv : Int32} {P : (Nat → va_E) → Prop} (hS : va_S (kA L) s.heap H locs) (hr : va_Run p l e R s m args below meth c H locs cells slots 0 0 (F0 m pc ls st0) rest (va_Qi (fun x (G1 : Nat → va_E) => x = rv ∧ P G1) (kE g L) (kA L) a) (kA L)) (kk : ∀ (G1 : Nat → va_E) (H1 : Heap) (locs1 : List Loc), P G1 → va_P g.1 vwCl (va_pl L G1) H1 → va_S (kA L) s.heap H1 locs1 → W p l e R s m args below meth c H1 locs1 cells slots Q (F0 m (pc + 3) ls (.int rv :: rest))) : W p l e R s m args below meth c H locs cells slots Q (F0 m pc ls st0) :=
  k_i hS hr (fun r G1 H1 locs1 hq hP1 hS1 => by obtain ⟨rfl, hq⟩ := hq; exact kk G1 H1 locs1 hq hP1 hS1)
theorem k_iretR (hexec : p.tables.exec = Jvm.exec) (hb : c.code = cc) (hr : meth.sig.returnType = some .int) {v rv : Int32} (hE : v = rv) (hP : va_P g.1 vwCl (va_pl L G) H) (hS : va_S (kA L) s.heap H locs) (hlocks : meth.locks = false) (hdg : decode cc pc = .ok (.ireturn, 1)) : W p l e R s m args below meth c H locs cells slots (MQ below (va_Qi (fun x (G1 : Nat → va_E) => x = rv ∧ G1 = G) (kE g L) (kA L)) args s cells slots (kA L)) (F0 m pc ls [.int v]) :=
  W.iret (v := v) hexec hb hr (fun t ht _ => ⟨⟨v, G, rfl, ⟨hE, rfl⟩, by show va_P _ _ _ t.heap; rw [ht]; exact hP⟩, hS.F ht⟩) hS.2.2 hdg hlocks
theorem k_zretR (hexec : p.tables.exec = Jvm.exec) (hb : c.code = cc) (hr : meth.sig.returnType = some .boolean) {v rv : Int32} (hn : narrow .boolean (.int v) = .int v) (hE : v = rv) (hP : va_P g.1 vwCl (va_pl L G) H) (hS : va_S (kA L) s.heap H locs) (hlocks : meth.locks = false) (hdg : decode cc pc = .ok (.ireturn, 1)) : W p l e R s m args below meth c H locs cells slots (MQ below (va_Qi (fun x (G1 : Nat → va_E) => x = rv ∧ G1 = G) (kE g L) (kA L)) args s cells slots (kA L)) (F0 m pc ls [.int v]) :=
  W.zret (v := v) hexec hb hr hn (fun t ht _ => ⟨⟨v, G, rfl, ⟨hE, rfl⟩, by show va_P _ _ _ t.heap; rw [ht]; exact hP⟩, hS.F ht⟩) hS.2.2 hdg hlocks
theorem k_lretR (hexec : p.tables.exec = Jvm.exec) (hb : c.code = cc) (hr : meth.sig.returnType = some .long) {v rv : Int64} (hE : v = rv) (hP : va_P g.1 vwCl (va_pl L G) H) (hS : va_S (kA L) s.heap H locs) (hlocks : meth.locks = false) (hdg : decode cc pc = .ok (.lreturn, 1)) : W p l e R s m args below meth c H locs cells slots (MQ below (va_Ql (fun x (G1 : Nat → va_E) => x = rv ∧ G1 = G) (kE g L) (kA L)) args s cells slots (kA L)) (F0 m pc ls [.long v]) :=
  W.lret (v := v) hexec hb hr (fun t ht _ => ⟨⟨v, G, rfl, ⟨hE, rfl⟩, by show va_P _ _ _ t.heap; rw [ht]; exact hP⟩, hS.F ht⟩) hS.2.2 hdg hlocks
theorem k_iretW (hexec : p.tables.exec = Jvm.exec) (hb : c.code = cc) (hr : meth.sig.returnType = some .int) {v rv : Int32} {P : (Nat → va_E) → Prop} (hE : v = rv) (hQ : P G) (hP : va_P g.1 vwCl (va_pl L G) H) (hS : va_S (kA L) s.heap H locs) (hlocks : meth.locks = false) (hdg : decode cc pc = .ok (.ireturn, 1)) : W p l e R s m args below meth c H locs cells slots (MQ below (va_Qi (fun x (G1 : Nat → va_E) => x = rv ∧ P G1) (kE g L) (kA L)) args s cells slots (kA L)) (F0 m pc ls [.int v]) :=
  W.iret (v := v) hexec hb hr (fun t ht _ => ⟨⟨v, G, rfl, ⟨hE, hQ⟩, by show va_P _ _ _ t.heap; rw [ht]; exact hP⟩, hS.F ht⟩) hS.2.2 hdg hlocks
theorem k_zretW (hexec : p.tables.exec = Jvm.exec) (hb : c.code = cc) (hr : meth.sig.returnType = some .boolean) {v rv : Int32} {P : (Nat → va_E) → Prop} (hn : narrow .boolean (.int v) = .int v) (hE : v = rv) (hQ : P G) (hP : va_P g.1 vwCl (va_pl L G) H) (hS : va_S (kA L) s.heap H locs) (hlocks : meth.locks = false) (hdg : decode cc pc = .ok (.ireturn, 1)) : W p l e R s m args below meth c H locs cells slots (MQ below (va_Qi (fun x (G1 : Nat → va_E) => x = rv ∧ P G1) (kE g L) (kA L)) args s cells slots (kA L)) (F0 m pc ls [.int v]) :=
  W.zret (v := v) hexec hb hr hn (fun t ht _ => ⟨⟨v, G, rfl, ⟨hE, hQ⟩, by show va_P _ _ _ t.heap; rw [ht]; exact hP⟩, hS.F ht⟩) hS.2.2 hdg hlocks
theorem k_vretW (hexec : p.tables.exec = Jvm.exec) (hb : c.code = cc) (hr : meth.sig.returnType = none) {P : (Nat → va_E) → Prop} (hQ : P G) (hP : va_P g.1 vwCl (va_pl L G) H) (hS : va_S (kA L) s.heap H locs) (hlocks : meth.locks = false) (hdg : decode cc pc = .ok (.return_, 1)) : W p l e R s m args below meth c H locs cells slots (MQ below (va_Qv P (kE g L) (kA L)) args s cells slots (kA L)) (F0 m pc ls []) :=
  W.vret hexec hb hr (fun t ht _ => ⟨⟨G, rfl, hQ, by show va_P _ _ _ t.heap; rw [ht]; exact hP⟩, hS.F ht⟩) hS.2.2 hdg hlocks
end KY
end
