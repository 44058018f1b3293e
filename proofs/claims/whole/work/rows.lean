section
-- ===== PART A: goes FIRST, ahead of the names: the tables' words, and 'selects' of the private methods out of them =====
/-- a private method of a class that the tables say can be made, by its rows of tables_1 -/
def lw_okq (q : MethodName × Nat) : Prop := (q.1.cls ≠ "java/lang/invoke/MethodHandle" ∧ q.1.cls ≠ "java/lang/invoke/VarHandle") ∧ Cond.instantiable q.1.cls q.2 ∈ tables_1 ∧ Cond.privateMethod q.1 ∈ tables_1 ∧ Cond.instanceMethod q.1 ∈ tables_1
theorem lw_p0 : lw_okq (⟨"JumpHill", "tapeInt", "(I)V"⟩, 11) := ⟨⟨by decide +kernel, by decide +kernel⟩, List.mem_of_getElem? (i := 11) (by decide +kernel), List.mem_of_getElem? (i := 176) (by decide +kernel), List.mem_of_getElem? (i := 177) (by decide +kernel)⟩
theorem lw_p1 : lw_okq (⟨"JumpHill$Rules", "read", "([II)I"⟩, 2) := ⟨⟨by decide +kernel, by decide +kernel⟩, List.mem_of_getElem? (i := 25) (by decide +kernel), List.mem_of_getElem? (i := 184) (by decide +kernel), List.mem_of_getElem? (i := 185) (by decide +kernel)⟩
theorem lw_p2 : lw_okq (⟨"JumpHill$Rules", "number", "(I)I"⟩, 2) := ⟨⟨by decide +kernel, by decide +kernel⟩, List.mem_of_getElem? (i := 25) (by decide +kernel), List.mem_of_getElem? (i := 208) (by decide +kernel), List.mem_of_getElem? (i := 209) (by decide +kernel)⟩
theorem lw_p3 : lw_okq (⟨"JumpHill", "isTeam", "(I)Z"⟩, 11) := ⟨⟨by decide +kernel, by decide +kernel⟩, List.mem_of_getElem? (i := 11) (by decide +kernel), List.mem_of_getElem? (i := 216) (by decide +kernel), List.mem_of_getElem? (i := 217) (by decide +kernel)⟩
theorem lw_p4 : lw_okq (⟨"JumpHill", "isSensor", "(I)Z"⟩, 11) := ⟨⟨by decide +kernel, by decide +kernel⟩, List.mem_of_getElem? (i := 11) (by decide +kernel), List.mem_of_getElem? (i := 224) (by decide +kernel), List.mem_of_getElem? (i := 225) (by decide +kernel)⟩
theorem lw_p5 : lw_okq (⟨"JumpHill", "isGate", "(I)Z"⟩, 11) := ⟨⟨by decide +kernel, by decide +kernel⟩, List.mem_of_getElem? (i := 11) (by decide +kernel), List.mem_of_getElem? (i := 232) (by decide +kernel), List.mem_of_getElem? (i := 233) (by decide +kernel)⟩
theorem lw_p6 : lw_okq (⟨"JumpHill", "isJumper", "(I)Z"⟩, 11) := ⟨⟨by decide +kernel, by decide +kernel⟩, List.mem_of_getElem? (i := 11) (by decide +kernel), List.mem_of_getElem? (i := 240) (by decide +kernel), List.mem_of_getElem? (i := 241) (by decide +kernel)⟩
theorem lw_p7 : lw_okq (⟨"JumpHill", "isRound", "(I)Z"⟩, 11) := ⟨⟨by decide +kernel, by decide +kernel⟩, List.mem_of_getElem? (i := 11) (by decide +kernel), List.mem_of_getElem? (i := 244) (by decide +kernel), List.mem_of_getElem? (i := 245) (by decide +kernel)⟩
theorem lw_p8 : lw_okq (⟨"JumpHill$Entries", "add", "(IIIIIII)I"⟩, 4) := ⟨⟨by decide +kernel, by decide +kernel⟩, List.mem_of_getElem? (i := 44) (by decide +kernel), List.mem_of_getElem? (i := 251) (by decide +kernel), List.mem_of_getElem? (i := 252) (by decide +kernel)⟩
theorem lw_p9 : lw_okq (⟨"JumpHill", "isWind", "(I)Z"⟩, 11) := ⟨⟨by decide +kernel, by decide +kernel⟩, List.mem_of_getElem? (i := 11) (by decide +kernel), List.mem_of_getElem? (i := 259) (by decide +kernel), List.mem_of_getElem? (i := 260) (by decide +kernel)⟩
theorem lw_p10 : lw_okq (⟨"JumpHill", "addToJump", "(IIIIIII)I"⟩, 11) := ⟨⟨by decide +kernel, by decide +kernel⟩, List.mem_of_getElem? (i := 11) (by decide +kernel), List.mem_of_getElem? (i := 263) (by decide +kernel), List.mem_of_getElem? (i := 264) (by decide +kernel)⟩
theorem lw_p11 : lw_okq (⟨"JumpHill", "isMark", "(I)Z"⟩, 11) := ⟨⟨by decide +kernel, by decide +kernel⟩, List.mem_of_getElem? (i := 11) (by decide +kernel), List.mem_of_getElem? (i := 271) (by decide +kernel), List.mem_of_getElem? (i := 272) (by decide +kernel)⟩
theorem lw_p12 : lw_okq (⟨"JumpHill$Scorer", "know", "(I)V"⟩, 10) := ⟨⟨by decide +kernel, by decide +kernel⟩, List.mem_of_getElem? (i := 19) (by decide +kernel), List.mem_of_getElem? (i := 279) (by decide +kernel), List.mem_of_getElem? (i := 280) (by decide +kernel)⟩
theorem lw_p13 : lw_okq (⟨"JumpHill$Scorer", "isStruck", "(I)Z"⟩, 10) := ⟨⟨by decide +kernel, by decide +kernel⟩, List.mem_of_getElem? (i := 19) (by decide +kernel), List.mem_of_getElem? (i := 286) (by decide +kernel), List.mem_of_getElem? (i := 287) (by decide +kernel)⟩
theorem lw_p14 : lw_okq (⟨"JumpHill$Scorer", "countingOf", "(II)I"⟩, 10) := ⟨⟨by decide +kernel, by decide +kernel⟩, List.mem_of_getElem? (i := 19) (by decide +kernel), List.mem_of_getElem? (i := 290) (by decide +kernel), List.mem_of_getElem? (i := 291) (by decide +kernel)⟩
theorem lw_p15 : lw_okq (⟨"JumpHill$Entries", "value", "(II)I"⟩, 4) := ⟨⟨by decide +kernel, by decide +kernel⟩, List.mem_of_getElem? (i := 44) (by decide +kernel), List.mem_of_getElem? (i := 294) (by decide +kernel), List.mem_of_getElem? (i := 295) (by decide +kernel)⟩
def lw_privs_1 : List (MethodName × Nat) := [(⟨"JumpHill", "tapeInt", "(I)V"⟩, 11), (⟨"JumpHill$Rules", "read", "([II)I"⟩, 2), (⟨"JumpHill$Rules", "number", "(I)I"⟩, 2), (⟨"JumpHill", "isTeam", "(I)Z"⟩, 11), (⟨"JumpHill", "isSensor", "(I)Z"⟩, 11), (⟨"JumpHill", "isGate", "(I)Z"⟩, 11), (⟨"JumpHill", "isJumper", "(I)Z"⟩, 11), (⟨"JumpHill", "isRound", "(I)Z"⟩, 11), (⟨"JumpHill$Entries", "add", "(IIIIIII)I"⟩, 4), (⟨"JumpHill", "isWind", "(I)Z"⟩, 11), (⟨"JumpHill", "addToJump", "(IIIIIII)I"⟩, 11), (⟨"JumpHill", "isMark", "(I)Z"⟩, 11), (⟨"JumpHill$Scorer", "know", "(I)V"⟩, 10), (⟨"JumpHill$Scorer", "isStruck", "(I)Z"⟩, 10), (⟨"JumpHill$Scorer", "countingOf", "(II)I"⟩, 10), (⟨"JumpHill$Entries", "value", "(II)I"⟩, 4)]
theorem lw_r1 : ∀ q ∈ lw_privs_1, lw_okq q := List.forall_mem_cons.mpr ⟨lw_p0, List.forall_mem_cons.mpr ⟨lw_p1, List.forall_mem_cons.mpr ⟨lw_p2, List.forall_mem_cons.mpr ⟨lw_p3, List.forall_mem_cons.mpr ⟨lw_p4, List.forall_mem_cons.mpr ⟨lw_p5, List.forall_mem_cons.mpr ⟨lw_p6, List.forall_mem_cons.mpr ⟨lw_p7, List.forall_mem_cons.mpr ⟨lw_p8, List.forall_mem_cons.mpr ⟨lw_p9, List.forall_mem_cons.mpr ⟨lw_p10, List.forall_mem_cons.mpr ⟨lw_p11, List.forall_mem_cons.mpr ⟨lw_p12, List.forall_mem_cons.mpr ⟨lw_p13, List.forall_mem_cons.mpr ⟨lw_p14, List.forall_mem_cons.mpr ⟨lw_p15, fun _ h => absurd h List.not_mem_nil⟩⟩⟩⟩⟩⟩⟩⟩⟩⟩⟩⟩⟩⟩⟩⟩
theorem lw_p16 : lw_okq (⟨"JumpHill", "isKnowing", "(I)Z"⟩, 11) := ⟨⟨by decide +kernel, by decide +kernel⟩, List.mem_of_getElem? (i := 11) (by decide +kernel), List.mem_of_getElem? (i := 302) (by decide +kernel), List.mem_of_getElem? (i := 303) (by decide +kernel)⟩
theorem lw_p17 : lw_okq (⟨"JumpHill$Scorer", "measure", "(I)Z"⟩, 10) := ⟨⟨by decide +kernel, by decide +kernel⟩, List.mem_of_getElem? (i := 19) (by decide +kernel), List.mem_of_getElem? (i := 306) (by decide +kernel), List.mem_of_getElem? (i := 307) (by decide +kernel)⟩
theorem lw_p18 : lw_okq (⟨"JumpHill$Scorer", "meanOf", "(I)I"⟩, 10) := ⟨⟨by decide +kernel, by decide +kernel⟩, List.mem_of_getElem? (i := 19) (by decide +kernel), List.mem_of_getElem? (i := 310) (by decide +kernel), List.mem_of_getElem? (i := 311) (by decide +kernel)⟩
theorem lw_p19 : lw_okq (⟨"JumpHill$Scorer", "hasPoints", "(I)Z"⟩, 10) := ⟨⟨by decide +kernel, by decide +kernel⟩, List.mem_of_getElem? (i := 19) (by decide +kernel), List.mem_of_getElem? (i := 320) (by decide +kernel), List.mem_of_getElem? (i := 321) (by decide +kernel)⟩
theorem lw_p20 : lw_okq (⟨"JumpHill$Scorer", "styleOf", "(I)I"⟩, 10) := ⟨⟨by decide +kernel, by decide +kernel⟩, List.mem_of_getElem? (i := 19) (by decide +kernel), List.mem_of_getElem? (i := 326) (by decide +kernel), List.mem_of_getElem? (i := 327) (by decide +kernel)⟩
theorem lw_p21 : lw_okq (⟨"JumpHill$Scorer", "gateOf", "(I)I"⟩, 10) := ⟨⟨by decide +kernel, by decide +kernel⟩, List.mem_of_getElem? (i := 19) (by decide +kernel), List.mem_of_getElem? (i := 336) (by decide +kernel), List.mem_of_getElem? (i := 337) (by decide +kernel)⟩
theorem lw_p22 : lw_okq (⟨"JumpHill", "partOfPoints", "(I)I"⟩, 11) := ⟨⟨by decide +kernel, by decide +kernel⟩, List.mem_of_getElem? (i := 11) (by decide +kernel), List.mem_of_getElem? (i := 340) (by decide +kernel), List.mem_of_getElem? (i := 341) (by decide +kernel)⟩
theorem lw_p23 : lw_okq (⟨"JumpHill$Scorer", "sum", "()I"⟩, 10) := ⟨⟨by decide +kernel, by decide +kernel⟩, List.mem_of_getElem? (i := 19) (by decide +kernel), List.mem_of_getElem? (i := 344) (by decide +kernel), List.mem_of_getElem? (i := 345) (by decide +kernel)⟩
theorem lw_p24 : lw_okq (⟨"JumpHill$Scorer", "worthOf", "(I)I"⟩, 10) := ⟨⟨by decide +kernel, by decide +kernel⟩, List.mem_of_getElem? (i := 19) (by decide +kernel), List.mem_of_getElem? (i := 348) (by decide +kernel), List.mem_of_getElem? (i := 349) (by decide +kernel)⟩
theorem lw_p25 : lw_okq (⟨"JumpHill$Board", "draw", "(LJumpHill$Scorer;II)V"⟩, 7) := ⟨⟨by decide +kernel, by decide +kernel⟩, List.mem_of_getElem? (i := 107) (by decide +kernel), List.mem_of_getElem? (i := 357) (by decide +kernel), List.mem_of_getElem? (i := 358) (by decide +kernel)⟩
theorem lw_p26 : lw_okq (⟨"JumpHill$Board", "aheadInRoundZero", "(ILJumpHill$Rules;)I"⟩, 7) := ⟨⟨by decide +kernel, by decide +kernel⟩, List.mem_of_getElem? (i := 107) (by decide +kernel), List.mem_of_getElem? (i := 364) (by decide +kernel), List.mem_of_getElem? (i := 365) (by decide +kernel)⟩
theorem lw_p27 : lw_okq (⟨"JumpHill$Board", "placeOnList", "(I)V"⟩, 7) := ⟨⟨by decide +kernel, by decide +kernel⟩, List.mem_of_getElem? (i := 107) (by decide +kernel), List.mem_of_getElem? (i := 369) (by decide +kernel), List.mem_of_getElem? (i := 370) (by decide +kernel)⟩
theorem lw_p28 : lw_okq (⟨"JumpHill$Board", "isBetter", "(II)Z"⟩, 7) := ⟨⟨by decide +kernel, by decide +kernel⟩, List.mem_of_getElem? (i := 107) (by decide +kernel), List.mem_of_getElem? (i := 373) (by decide +kernel), List.mem_of_getElem? (i := 374) (by decide +kernel)⟩
theorem lw_p29 : lw_okq (⟨"JumpHill$Board", "isThrough", "(I)Z"⟩, 7) := ⟨⟨by decide +kernel, by decide +kernel⟩, List.mem_of_getElem? (i := 107) (by decide +kernel), List.mem_of_getElem? (i := 377) (by decide +kernel), List.mem_of_getElem? (i := 378) (by decide +kernel)⟩
theorem lw_p30 : lw_okq (⟨"JumpHill$Board", "isListed", "(I)Z"⟩, 7) := ⟨⟨by decide +kernel, by decide +kernel⟩, List.mem_of_getElem? (i := 107) (by decide +kernel), List.mem_of_getElem? (i := 381) (by decide +kernel), List.mem_of_getElem? (i := 382) (by decide +kernel)⟩
theorem lw_p31 : lw_okq (⟨"JumpHill$Board", "placeOf", "(I)I"⟩, 7) := ⟨⟨by decide +kernel, by decide +kernel⟩, List.mem_of_getElem? (i := 107) (by decide +kernel), List.mem_of_getElem? (i := 385) (by decide +kernel), List.mem_of_getElem? (i := 386) (by decide +kernel)⟩
def lw_privs_2 : List (MethodName × Nat) := [(⟨"JumpHill", "isKnowing", "(I)Z"⟩, 11), (⟨"JumpHill$Scorer", "measure", "(I)Z"⟩, 10), (⟨"JumpHill$Scorer", "meanOf", "(I)I"⟩, 10), (⟨"JumpHill$Scorer", "hasPoints", "(I)Z"⟩, 10), (⟨"JumpHill$Scorer", "styleOf", "(I)I"⟩, 10), (⟨"JumpHill$Scorer", "gateOf", "(I)I"⟩, 10), (⟨"JumpHill", "partOfPoints", "(I)I"⟩, 11), (⟨"JumpHill$Scorer", "sum", "()I"⟩, 10), (⟨"JumpHill$Scorer", "worthOf", "(I)I"⟩, 10), (⟨"JumpHill$Board", "draw", "(LJumpHill$Scorer;II)V"⟩, 7), (⟨"JumpHill$Board", "aheadInRoundZero", "(ILJumpHill$Rules;)I"⟩, 7), (⟨"JumpHill$Board", "placeOnList", "(I)V"⟩, 7), (⟨"JumpHill$Board", "isBetter", "(II)Z"⟩, 7), (⟨"JumpHill$Board", "isThrough", "(I)Z"⟩, 7), (⟨"JumpHill$Board", "isListed", "(I)Z"⟩, 7), (⟨"JumpHill$Board", "placeOf", "(I)I"⟩, 7)]
theorem lw_r2 : ∀ q ∈ lw_privs_2, lw_okq q := List.forall_mem_cons.mpr ⟨lw_p16, List.forall_mem_cons.mpr ⟨lw_p17, List.forall_mem_cons.mpr ⟨lw_p18, List.forall_mem_cons.mpr ⟨lw_p19, List.forall_mem_cons.mpr ⟨lw_p20, List.forall_mem_cons.mpr ⟨lw_p21, List.forall_mem_cons.mpr ⟨lw_p22, List.forall_mem_cons.mpr ⟨lw_p23, List.forall_mem_cons.mpr ⟨lw_p24, List.forall_mem_cons.mpr ⟨lw_p25, List.forall_mem_cons.mpr ⟨lw_p26, List.forall_mem_cons.mpr ⟨lw_p27, List.forall_mem_cons.mpr ⟨lw_p28, List.forall_mem_cons.mpr ⟨lw_p29, List.forall_mem_cons.mpr ⟨lw_p30, List.forall_mem_cons.mpr ⟨lw_p31, fun _ h => absurd h List.not_mem_nil⟩⟩⟩⟩⟩⟩⟩⟩⟩⟩⟩⟩⟩⟩⟩⟩
theorem lw_p32 : lw_okq (⟨"JumpHill$Board", "totalOf", "(I)I"⟩, 7) := ⟨⟨by decide +kernel, by decide +kernel⟩, List.mem_of_getElem? (i := 107) (by decide +kernel), List.mem_of_getElem? (i := 389) (by decide +kernel), List.mem_of_getElem? (i := 390) (by decide +kernel)⟩
theorem lw_p33 : lw_okq (⟨"JumpHill$Board", "isPosition", "(I)Z"⟩, 7) := ⟨⟨by decide +kernel, by decide +kernel⟩, List.mem_of_getElem? (i := 107) (by decide +kernel), List.mem_of_getElem? (i := 398) (by decide +kernel), List.mem_of_getElem? (i := 399) (by decide +kernel)⟩
theorem lw_p34 : lw_okq (⟨"JumpHill$Board", "jumperAt", "(I)I"⟩, 7) := ⟨⟨by decide +kernel, by decide +kernel⟩, List.mem_of_getElem? (i := 107) (by decide +kernel), List.mem_of_getElem? (i := 402) (by decide +kernel), List.mem_of_getElem? (i := 403) (by decide +kernel)⟩
theorem lw_p35 : lw_okq (⟨"JumpHill$Board", "starterAt", "(I)I"⟩, 7) := ⟨⟨by decide +kernel, by decide +kernel⟩, List.mem_of_getElem? (i := 107) (by decide +kernel), List.mem_of_getElem? (i := 410) (by decide +kernel), List.mem_of_getElem? (i := 411) (by decide +kernel)⟩
theorem lw_p36 : lw_okq (⟨"JumpHill$Board", "startersBefore", "(I)I"⟩, 7) := ⟨⟨by decide +kernel, by decide +kernel⟩, List.mem_of_getElem? (i := 107) (by decide +kernel), List.mem_of_getElem? (i := 414) (by decide +kernel), List.mem_of_getElem? (i := 415) (by decide +kernel)⟩
theorem lw_p37 : lw_okq (⟨"JumpHill", "teamTotal", "(I)I"⟩, 11) := ⟨⟨by decide +kernel, by decide +kernel⟩, List.mem_of_getElem? (i := 11) (by decide +kernel), List.mem_of_getElem? (i := 422) (by decide +kernel), List.mem_of_getElem? (i := 423) (by decide +kernel)⟩
theorem lw_p38 : lw_okq (⟨"JumpHill", "recordJump", "()I"⟩, 11) := ⟨⟨by decide +kernel, by decide +kernel⟩, List.mem_of_getElem? (i := 11) (by decide +kernel), List.mem_of_getElem? (i := 430) (by decide +kernel), List.mem_of_getElem? (i := 431) (by decide +kernel)⟩
theorem lw_p39 : lw_okq (⟨"JumpHill$Scorer", "mayBeRecord", "(I)Z"⟩, 10) := ⟨⟨by decide +kernel, by decide +kernel⟩, List.mem_of_getElem? (i := 19) (by decide +kernel), List.mem_of_getElem? (i := 434) (by decide +kernel), List.mem_of_getElem? (i := 435) (by decide +kernel)⟩
theorem lw_p40 : lw_okq (⟨"JumpHill$Scorer", "lengthOf", "(I)I"⟩, 10) := ⟨⟨by decide +kernel, by decide +kernel⟩, List.mem_of_getElem? (i := 19) (by decide +kernel), List.mem_of_getElem? (i := 438) (by decide +kernel), List.mem_of_getElem? (i := 439) (by decide +kernel)⟩
theorem lw_p41 : lw_okq (⟨"JumpHill$Scorer", "isLonger", "(II)Z"⟩, 10) := ⟨⟨by decide +kernel, by decide +kernel⟩, List.mem_of_getElem? (i := 19) (by decide +kernel), List.mem_of_getElem? (i := 442) (by decide +kernel), List.mem_of_getElem? (i := 443) (by decide +kernel)⟩
theorem lw_p42 : lw_okq (⟨"JumpHill", "keepRecord", "()V"⟩, 11) := ⟨⟨by decide +kernel, by decide +kernel⟩, List.mem_of_getElem? (i := 11) (by decide +kernel), List.mem_of_getElem? (i := 463) (by decide +kernel), List.mem_of_getElem? (i := 464) (by decide +kernel)⟩
theorem lw_p43 : lw_okq (⟨"JumpHillModel", "push", "(I)V"⟩, 21) := ⟨⟨by decide +kernel, by decide +kernel⟩, List.mem_of_getElem? (i := 471) (by decide +kernel), List.mem_of_getElem? (i := 549) (by decide +kernel), List.mem_of_getElem? (i := 550) (by decide +kernel)⟩
theorem lw_p44 : lw_okq (⟨"JumpHillModel", "reads", "(I)I"⟩, 21) := ⟨⟨by decide +kernel, by decide +kernel⟩, List.mem_of_getElem? (i := 471) (by decide +kernel), List.mem_of_getElem? (i := 557) (by decide +kernel), List.mem_of_getElem? (i := 558) (by decide +kernel)⟩
theorem lw_p45 : lw_okq (⟨"JumpHillModel", "at", "(II)I"⟩, 21) := ⟨⟨by decide +kernel, by decide +kernel⟩, List.mem_of_getElem? (i := 471) (by decide +kernel), List.mem_of_getElem? (i := 561) (by decide +kernel), List.mem_of_getElem? (i := 562) (by decide +kernel)⟩
theorem lw_p46 : lw_okq (⟨"JumpHillModel", "isJumper", "(I)Z"⟩, 21) := ⟨⟨by decide +kernel, by decide +kernel⟩, List.mem_of_getElem? (i := 471) (by decide +kernel), List.mem_of_getElem? (i := 594) (by decide +kernel), List.mem_of_getElem? (i := 595) (by decide +kernel)⟩
theorem lw_p47 : lw_okq (⟨"JumpHillModel", "tells", "(IIIIIII)I"⟩, 21) := ⟨⟨by decide +kernel, by decide +kernel⟩, List.mem_of_getElem? (i := 471) (by decide +kernel), List.mem_of_getElem? (i := 598) (by decide +kernel), List.mem_of_getElem? (i := 599) (by decide +kernel)⟩
def lw_privs_3 : List (MethodName × Nat) := [(⟨"JumpHill$Board", "totalOf", "(I)I"⟩, 7), (⟨"JumpHill$Board", "isPosition", "(I)Z"⟩, 7), (⟨"JumpHill$Board", "jumperAt", "(I)I"⟩, 7), (⟨"JumpHill$Board", "starterAt", "(I)I"⟩, 7), (⟨"JumpHill$Board", "startersBefore", "(I)I"⟩, 7), (⟨"JumpHill", "teamTotal", "(I)I"⟩, 11), (⟨"JumpHill", "recordJump", "()I"⟩, 11), (⟨"JumpHill$Scorer", "mayBeRecord", "(I)Z"⟩, 10), (⟨"JumpHill$Scorer", "lengthOf", "(I)I"⟩, 10), (⟨"JumpHill$Scorer", "isLonger", "(II)Z"⟩, 10), (⟨"JumpHill", "keepRecord", "()V"⟩, 11), (⟨"JumpHillModel", "push", "(I)V"⟩, 21), (⟨"JumpHillModel", "reads", "(I)I"⟩, 21), (⟨"JumpHillModel", "at", "(II)I"⟩, 21), (⟨"JumpHillModel", "isJumper", "(I)Z"⟩, 21), (⟨"JumpHillModel", "tells", "(IIIIIII)I"⟩, 21)]
theorem lw_r3 : ∀ q ∈ lw_privs_3, lw_okq q := List.forall_mem_cons.mpr ⟨lw_p32, List.forall_mem_cons.mpr ⟨lw_p33, List.forall_mem_cons.mpr ⟨lw_p34, List.forall_mem_cons.mpr ⟨lw_p35, List.forall_mem_cons.mpr ⟨lw_p36, List.forall_mem_cons.mpr ⟨lw_p37, List.forall_mem_cons.mpr ⟨lw_p38, List.forall_mem_cons.mpr ⟨lw_p39, List.forall_mem_cons.mpr ⟨lw_p40, List.forall_mem_cons.mpr ⟨lw_p41, List.forall_mem_cons.mpr ⟨lw_p42, List.forall_mem_cons.mpr ⟨lw_p43, List.forall_mem_cons.mpr ⟨lw_p44, List.forall_mem_cons.mpr ⟨lw_p45, List.forall_mem_cons.mpr ⟨lw_p46, List.forall_mem_cons.mpr ⟨lw_p47, fun _ h => absurd h List.not_mem_nil⟩⟩⟩⟩⟩⟩⟩⟩⟩⟩⟩⟩⟩⟩⟩⟩
theorem lw_p48 : lw_okq (⟨"JumpHillModel", "isJump", "(I)Z"⟩, 21) := ⟨⟨by decide +kernel, by decide +kernel⟩, List.mem_of_getElem? (i := 471) (by decide +kernel), List.mem_of_getElem? (i := 606) (by decide +kernel), List.mem_of_getElem? (i := 607) (by decide +kernel)⟩
theorem lw_p49 : lw_okq (⟨"JumpHillModel", "isStruck", "(II)Z"⟩, 21) := ⟨⟨by decide +kernel, by decide +kernel⟩, List.mem_of_getElem? (i := 471) (by decide +kernel), List.mem_of_getElem? (i := 624) (by decide +kernel), List.mem_of_getElem? (i := 625) (by decide +kernel)⟩
theorem lw_p50 : lw_okq (⟨"JumpHillModel", "lastOf", "(III)I"⟩, 21) := ⟨⟨by decide +kernel, by decide +kernel⟩, List.mem_of_getElem? (i := 471) (by decide +kernel), List.mem_of_getElem? (i := 628) (by decide +kernel), List.mem_of_getElem? (i := 629) (by decide +kernel)⟩
theorem lw_p51 : lw_okq (⟨"JumpHillModel", "isKnowing", "(I)Z"⟩, 21) := ⟨⟨by decide +kernel, by decide +kernel⟩, List.mem_of_getElem? (i := 471) (by decide +kernel), List.mem_of_getElem? (i := 636) (by decide +kernel), List.mem_of_getElem? (i := 637) (by decide +kernel)⟩
theorem lw_p52 : lw_okq (⟨"JumpHillModel", "mean", "(II)I"⟩, 21) := ⟨⟨by decide +kernel, by decide +kernel⟩, List.mem_of_getElem? (i := 471) (by decide +kernel), List.mem_of_getElem? (i := 640) (by decide +kernel), List.mem_of_getElem? (i := 641) (by decide +kernel)⟩
theorem lw_p53 : lw_okq (⟨"JumpHillModel", "has", "(II)Z"⟩, 21) := ⟨⟨by decide +kernel, by decide +kernel⟩, List.mem_of_getElem? (i := 471) (by decide +kernel), List.mem_of_getElem? (i := 647) (by decide +kernel), List.mem_of_getElem? (i := 648) (by decide +kernel)⟩
theorem lw_p54 : lw_okq (⟨"JumpHillModel", "without", "(III)I"⟩, 21) := ⟨⟨by decide +kernel, by decide +kernel⟩, List.mem_of_getElem? (i := 471) (by decide +kernel), List.mem_of_getElem? (i := 651) (by decide +kernel), List.mem_of_getElem? (i := 652) (by decide +kernel)⟩
theorem lw_p55 : lw_okq (⟨"JumpHillModel", "part", "(III)I"⟩, 21) := ⟨⟨by decide +kernel, by decide +kernel⟩, List.mem_of_getElem? (i := 471) (by decide +kernel), List.mem_of_getElem? (i := 655) (by decide +kernel), List.mem_of_getElem? (i := 656) (by decide +kernel)⟩
theorem lw_p56 : lw_okq (⟨"JumpHillModel", "style", "(II)I"⟩, 21) := ⟨⟨by decide +kernel, by decide +kernel⟩, List.mem_of_getElem? (i := 471) (by decide +kernel), List.mem_of_getElem? (i := 659) (by decide +kernel), List.mem_of_getElem? (i := 660) (by decide +kernel)⟩
theorem lw_p57 : lw_okq (⟨"JumpHillModel", "works", "(I)V"⟩, 21) := ⟨⟨by decide +kernel, by decide +kernel⟩, List.mem_of_getElem? (i := 471) (by decide +kernel), List.mem_of_getElem? (i := 667) (by decide +kernel), List.mem_of_getElem? (i := 668) (by decide +kernel)⟩
theorem lw_p58 : lw_okq (⟨"JumpHillModel", "place", "(I)I"⟩, 21) := ⟨⟨by decide +kernel, by decide +kernel⟩, List.mem_of_getElem? (i := 471) (by decide +kernel), List.mem_of_getElem? (i := 671) (by decide +kernel), List.mem_of_getElem? (i := 672) (by decide +kernel)⟩
theorem lw_p59 : lw_okq (⟨"JumpHillModel", "isBefore", "(II)Z"⟩, 21) := ⟨⟨by decide +kernel, by decide +kernel⟩, List.mem_of_getElem? (i := 471) (by decide +kernel), List.mem_of_getElem? (i := 675) (by decide +kernel), List.mem_of_getElem? (i := 676) (by decide +kernel)⟩
theorem lw_p60 : lw_okq (⟨"JumpHillModel", "longest", "()I"⟩, 21) := ⟨⟨by decide +kernel, by decide +kernel⟩, List.mem_of_getElem? (i := 471) (by decide +kernel), List.mem_of_getElem? (i := 695) (by decide +kernel), List.mem_of_getElem? (i := 696) (by decide +kernel)⟩
theorem lw_p61 : lw_okq (⟨"JumpHillModel", "isClean", "(I)Z"⟩, 21) := ⟨⟨by decide +kernel, by decide +kernel⟩, List.mem_of_getElem? (i := 471) (by decide +kernel), List.mem_of_getElem? (i := 699) (by decide +kernel), List.mem_of_getElem? (i := 700) (by decide +kernel)⟩
theorem lw_p62 : lw_okq (⟨"JumpHillModel", "isGreater", "(I)Z"⟩, 21) := ⟨⟨by decide +kernel, by decide +kernel⟩, List.mem_of_getElem? (i := 471) (by decide +kernel), List.mem_of_getElem? (i := 703) (by decide +kernel), List.mem_of_getElem? (i := 704) (by decide +kernel)⟩
def lw_privs_4 : List (MethodName × Nat) := [(⟨"JumpHillModel", "isJump", "(I)Z"⟩, 21), (⟨"JumpHillModel", "isStruck", "(II)Z"⟩, 21), (⟨"JumpHillModel", "lastOf", "(III)I"⟩, 21), (⟨"JumpHillModel", "isKnowing", "(I)Z"⟩, 21), (⟨"JumpHillModel", "mean", "(II)I"⟩, 21), (⟨"JumpHillModel", "has", "(II)Z"⟩, 21), (⟨"JumpHillModel", "without", "(III)I"⟩, 21), (⟨"JumpHillModel", "part", "(III)I"⟩, 21), (⟨"JumpHillModel", "style", "(II)I"⟩, 21), (⟨"JumpHillModel", "works", "(I)V"⟩, 21), (⟨"JumpHillModel", "place", "(I)I"⟩, 21), (⟨"JumpHillModel", "isBefore", "(II)Z"⟩, 21), (⟨"JumpHillModel", "longest", "()I"⟩, 21), (⟨"JumpHillModel", "isClean", "(I)Z"⟩, 21), (⟨"JumpHillModel", "isGreater", "(I)Z"⟩, 21)]
theorem lw_r4 : ∀ q ∈ lw_privs_4, lw_okq q := List.forall_mem_cons.mpr ⟨lw_p48, List.forall_mem_cons.mpr ⟨lw_p49, List.forall_mem_cons.mpr ⟨lw_p50, List.forall_mem_cons.mpr ⟨lw_p51, List.forall_mem_cons.mpr ⟨lw_p52, List.forall_mem_cons.mpr ⟨lw_p53, List.forall_mem_cons.mpr ⟨lw_p54, List.forall_mem_cons.mpr ⟨lw_p55, List.forall_mem_cons.mpr ⟨lw_p56, List.forall_mem_cons.mpr ⟨lw_p57, List.forall_mem_cons.mpr ⟨lw_p58, List.forall_mem_cons.mpr ⟨lw_p59, List.forall_mem_cons.mpr ⟨lw_p60, List.forall_mem_cons.mpr ⟨lw_p61, List.forall_mem_cons.mpr ⟨lw_p62, fun _ h => absurd h List.not_mem_nil⟩⟩⟩⟩⟩⟩⟩⟩⟩⟩⟩⟩⟩⟩⟩
def lw_privs : List (MethodName × Nat) := lw_privs_1 ++ (lw_privs_2 ++ (lw_privs_3 ++ (lw_privs_4)))
def lw_tbl : List Cond := k2_sels lw_privs ++ tables_1
theorem lw_privs_ok : ∀ q ∈ lw_privs, lw_okq q := by
  show ∀ q ∈ lw_privs_1 ++ (lw_privs_2 ++ (lw_privs_3 ++ (lw_privs_4))), lw_okq q
  exact List.forall_mem_append.mpr ⟨lw_r1, List.forall_mem_append.mpr ⟨lw_r2, List.forall_mem_append.mpr ⟨lw_r3, lw_r4⟩⟩⟩
end
section
/-! ===== BEGIN words of one list among another's, by their places ===== -/
theorem goodIn_r {big : List Cond} (ws : List Cond) (ps : List Nat) (hp : ws = ps.filterMap (fun i => big[i]?)) (h : ws.all goodWord = true) : GoodIn big ws := by
  intro w hw
  have h1 := List.all_eq_true.mp h w hw
  rw [hp] at hw
  obtain ⟨i, -, hi⟩ := List.mem_filterMap.mp hw
  have hm : w ∈ big := by first | exact List.mem_of_getElem? hi | exact List.getElem?_mem hi
  exact ⟨hm, good_of_word h1⟩
theorem goodIn_app {big a b : List Cond} (ha : GoodIn big a) (hb : GoodIn big b) : GoodIn big (a ++ b) := fun w h => (List.mem_append.mp h).elim (ha w) (hb w)
theorem goodIn_ca {big a b : List Cond} {c : Cond} (ha : GoodIn big (c :: a)) (hb : GoodIn big b) : GoodIn big (c :: (a ++ b)) := fun w h => (List.mem_cons.mp h).elim (fun e => ha w (List.mem_cons.mpr (Or.inl e))) (fun h => (List.mem_append.mp h).elim (fun h => ha w (List.mem_cons.mpr (Or.inr h))) (hb w))
theorem goodIn_sub {big ws : List Cond} (hm : ∀ w ∈ ws, w ∈ big) (h : ws.all goodWord = true) : GoodIn big ws := fun w hw => ⟨hm w hw, good_of_word (List.all_eq_true.mp h w hw)⟩
/-! ===== END ===== -/
/-! ===== BEGIN printed: names, fields, word lists, decode rows ===== -/
def RX0 : String := "JumpHill$Board"
def TX0 : u_T := fun k => match k with
  | 0 => ("JumpHill$Board", "first", "[I", true)
  | 1 => ("JumpHill$Board", "through", "[Z", true)
  | 2 => ("JumpHill$Board", "totals", "[I", true)
  | 3 => ("JumpHill$Board", "places", "[I", true)
  | 4 => ("JumpHill$Board", "order", "[I", true)
  | 5 => ("JumpHill$Board", "listed", "I", false)
  | _ => ("JumpHill$Board", "passed", "I", false)
def tyX0 : Nat → FieldType := fun k => match k with
  | 0 => .array .int
  | 1 => .array .boolean
  | 2 => .array .int
  | 3 => .array .int
  | 4 => .array .int
  | 5 => .int
  | _ => .int
abbrev wsX00 : List Cond := u_ws RX0 TX0 7
theorem nmX0 : ∀ a, a < 7 → ∀ b, b < 7 → a ≠ b → (TX0 a).2.1 ≠ (TX0 b).2.1 := by decide +kernel
theorem tyX0_ok : ∀ k, k < 7 → parseFieldDescriptor (TX0 k).2.2.1 = some (tyX0 k) := by decide +kernel
abbrev cX0_init : ByteArray := prog_2_method_1_code
def yX0_init : MethodName := ⟨RX0, "<init>", "()V"⟩
abbrev cX0_draw : ByteArray := prog_2_method_2_code
def yX0_draw : MethodName := ⟨RX0, "draw", "(LJumpHill$Scorer;II)V"⟩
abbrev cX0_aheadInRoundZero : ByteArray := prog_2_method_3_code
def yX0_aheadInRoundZero : MethodName := ⟨RX0, "aheadInRoundZero", "(ILJumpHill$Rules;)I"⟩
abbrev cX0_placeOnList : ByteArray := prog_2_method_4_code
def yX0_placeOnList : MethodName := ⟨RX0, "placeOnList", "(I)V"⟩
abbrev cX0_isBetter : ByteArray := prog_2_method_5_code
def yX0_isBetter : MethodName := ⟨RX0, "isBetter", "(II)Z"⟩
abbrev cX0_isListed : ByteArray := prog_2_method_6_code
def yX0_isListed : MethodName := ⟨RX0, "isListed", "(I)Z"⟩
abbrev cX0_isThrough : ByteArray := prog_2_method_7_code
def yX0_isThrough : MethodName := ⟨RX0, "isThrough", "(I)Z"⟩
abbrev cX0_totalOf : ByteArray := prog_2_method_8_code
def yX0_totalOf : MethodName := ⟨RX0, "totalOf", "(I)I"⟩
abbrev cX0_placeOf : ByteArray := prog_2_method_9_code
def yX0_placeOf : MethodName := ⟨RX0, "placeOf", "(I)I"⟩
abbrev cX0_isPosition : ByteArray := prog_2_method_10_code
def yX0_isPosition : MethodName := ⟨RX0, "isPosition", "(I)Z"⟩
abbrev cX0_jumperAt : ByteArray := prog_2_method_11_code
def yX0_jumperAt : MethodName := ⟨RX0, "jumperAt", "(I)I"⟩
abbrev cX0_starterAt : ByteArray := prog_2_method_12_code
def yX0_starterAt : MethodName := ⟨RX0, "starterAt", "(I)I"⟩
abbrev cX0_startersBefore : ByteArray := prog_2_method_13_code
def yX0_startersBefore : MethodName := ⟨RX0, "startersBefore", "(I)I"⟩
def RX1 : String := "JumpHill$Entries"
def TX1 : u_T := fun k => match k with
  | 0 => ("JumpHill$Entries", "sorts", "[I", true)
  | 1 => ("JumpHill$Entries", "jumps", "[I", true)
  | 2 => ("JumpHill$Entries", "values", "[I", true)
  | _ => ("JumpHill$Entries", "told", "I", false)
def tyX1 : Nat → FieldType := fun k => match k with
  | 0 => .array .int
  | 1 => .array .int
  | 2 => .array .int
  | _ => .int
abbrev wsX10 : List Cond := u_ws RX1 TX1 4
theorem nmX1 : ∀ a, a < 4 → ∀ b, b < 4 → a ≠ b → (TX1 a).2.1 ≠ (TX1 b).2.1 := by decide +kernel
theorem tyX1_ok : ∀ k, k < 4 → parseFieldDescriptor (TX1 k).2.2.1 = some (tyX1 k) := by decide +kernel
abbrev cX1_init : ByteArray := prog_3_method_1_code
def yX1_init : MethodName := ⟨RX1, "<init>", "()V"⟩
abbrev cX1_add : ByteArray := prog_3_method_2_code
def yX1_add : MethodName := ⟨RX1, "add", "(IIIIIII)I"⟩
abbrev cX1_value : ByteArray := prog_3_method_3_code
def yX1_value : MethodName := ⟨RX1, "value", "(II)I"⟩
def RX2 : String := "JumpHill$Rules"
def TX2 : u_T := fun k => match k with
  | 0 => ("JumpHill$Rules", "numbers", "[I", true)
  | _ => ("JumpHill$Rules", "draft", "[I", true)
def tyX2 : Nat → FieldType := fun k => match k with
  | 0 => .array .int
  | _ => .array .int
abbrev wsX20 : List Cond := u_ws RX2 TX2 2
theorem nmX2 : ∀ a, a < 2 → ∀ b, b < 2 → a ≠ b → (TX2 a).2.1 ≠ (TX2 b).2.1 := by decide +kernel
theorem tyX2_ok : ∀ k, k < 2 → parseFieldDescriptor (TX2 k).2.2.1 = some (tyX2 k) := by decide +kernel
abbrev cX2_init : ByteArray := prog_4_method_1_code
def yX2_init : MethodName := ⟨RX2, "<init>", "()V"⟩
abbrev cX2_isLetter : ByteArray := prog_4_method_2_code
def yX2_isLetter : MethodName := ⟨RX2, "isLetter", "(I)Z"⟩
abbrev cX2_number : ByteArray := prog_4_method_3_code
def yX2_number : MethodName := ⟨RX2, "number", "(I)I"⟩
abbrev cX2_read : ByteArray := prog_4_method_4_code
def yX2_read : MethodName := ⟨RX2, "read", "([II)I"⟩
abbrev cX2_faultOfClause : ByteArray := prog_4_method_5_code
def yX2_faultOfClause : MethodName := ⟨RX2, "faultOfClause", "(IIIII)I"⟩
abbrev cX2_letterOf : ByteArray := prog_4_method_6_code
def yX2_letterOf : MethodName := ⟨RX2, "letterOf", "(I)I"⟩
def RX3 : String := "JumpHill$Scorer"
def TX3 : u_T := fun k => match k with
  | 0 => ("JumpHill$Scorer", "rules", "LJumpHill$Rules;", true)
  | 1 => ("JumpHill$Scorer", "entries", "LJumpHill$Entries;", true)
  | 2 => ("JumpHill$Scorer", "weights", "[I", true)
  | 3 => ("JumpHill$Scorer", "base", "I", false)
  | 4 => ("JumpHill$Scorer", "counting", "[I", true)
  | 5 => ("JumpHill$Scorer", "length", "I", false)
  | 6 => ("JumpHill$Scorer", "style", "I", false)
  | 7 => ("JumpHill$Scorer", "gate", "I", false)
  | 8 => ("JumpHill$Scorer", "wind", "I", false)
  | _ => ("JumpHill$Scorer", "mean", "I", false)
def tyX3 : Nat → FieldType := fun k => match k with
  | 0 => .object "JumpHill$Rules"
  | 1 => .object "JumpHill$Entries"
  | 2 => .array .int
  | 3 => .int
  | 4 => .array .int
  | 5 => .int
  | 6 => .int
  | 7 => .int
  | 8 => .int
  | _ => .int
abbrev wsX30 : List Cond := u_ws RX3 TX3 10
theorem nmX3 : ∀ a, a < 10 → ∀ b, b < 10 → a ≠ b → (TX3 a).2.1 ≠ (TX3 b).2.1 := by decide +kernel
theorem tyX3_ok : ∀ k, k < 10 → parseFieldDescriptor (TX3 k).2.2.1 = some (tyX3 k) := by decide +kernel
abbrev cX3_init : ByteArray := prog_5_method_1_code
def yX3_init : MethodName := ⟨RX3, "<init>", "()V"⟩
abbrev cX3_know : ByteArray := prog_5_method_2_code
def yX3_know : MethodName := ⟨RX3, "know", "(I)V"⟩
abbrev cX3_countingOf : ByteArray := prog_5_method_3_code
def yX3_countingOf : MethodName := ⟨RX3, "countingOf", "(II)I"⟩
abbrev cX3_isStruck : ByteArray := prog_5_method_4_code
def yX3_isStruck : MethodName := ⟨RX3, "isStruck", "(I)Z"⟩
abbrev cX3_hasPoints : ByteArray := prog_5_method_5_code
def yX3_hasPoints : MethodName := ⟨RX3, "hasPoints", "(I)Z"⟩
abbrev cX3_lengthOf : ByteArray := prog_5_method_6_code
def yX3_lengthOf : MethodName := ⟨RX3, "lengthOf", "(I)I"⟩
abbrev cX3_measure : ByteArray := prog_5_method_7_code
def yX3_measure : MethodName := ⟨RX3, "measure", "(I)Z"⟩
abbrev cX3_sum : ByteArray := prog_5_method_8_code
def yX3_sum : MethodName := ⟨RX3, "sum", "()I"⟩
abbrev cX3_worthOf : ByteArray := prog_5_method_9_code
def yX3_worthOf : MethodName := ⟨RX3, "worthOf", "(I)I"⟩
abbrev cX3_styleOf : ByteArray := prog_5_method_10_code
def yX3_styleOf : MethodName := ⟨RX3, "styleOf", "(I)I"⟩
abbrev cX3_gateOf : ByteArray := prog_5_method_11_code
def yX3_gateOf : MethodName := ⟨RX3, "gateOf", "(I)I"⟩
abbrev cX3_meanOf : ByteArray := prog_5_method_12_code
def yX3_meanOf : MethodName := ⟨RX3, "meanOf", "(I)I"⟩
abbrev cX3_rounded : ByteArray := prog_5_method_13_code
def yX3_rounded : MethodName := ⟨RX3, "rounded", "(II)I"⟩
abbrev cX3_mayBeRecord : ByteArray := prog_5_method_14_code
def yX3_mayBeRecord : MethodName := ⟨RX3, "mayBeRecord", "(I)Z"⟩
abbrev cX3_isLonger : ByteArray := prog_5_method_15_code
def yX3_isLonger : MethodName := ⟨RX3, "isLonger", "(II)Z"⟩
def RX4 : String := "JumpHill"
def TX4 : u_T := fun k => match k with
  | 0 => ("JumpHill", "tape", "[I", true)
  | 1 => ("JumpHill", "taped", "I", false)
  | 2 => ("JumpHill", "scorer", "LJumpHill$Scorer;", true)
  | 3 => ("JumpHill", "board", "LJumpHill$Board;", true)
  | 4 => ("JumpHill", "otherBoard", "LJumpHill$Board;", true)
  | 5 => ("JumpHill", "teams", "[I", true)
  | 6 => ("JumpHill", "season", "[I", true)
  | 7 => ("JumpHill", "jumpers", "I", false)
  | 8 => ("JumpHill", "closed", "I", false)
  | 9 => ("JumpHill", "recordLength", "I", false)
  | _ => ("JumpHill", "recordJumper", "I", false)
def tyX4 : Nat → FieldType := fun k => match k with
  | 0 => .array .int
  | 1 => .int
  | 2 => .object "JumpHill$Scorer"
  | 3 => .object "JumpHill$Board"
  | 4 => .object "JumpHill$Board"
  | 5 => .array .int
  | 6 => .array .int
  | 7 => .int
  | 8 => .int
  | 9 => .int
  | _ => .int
abbrev wsX40 : List Cond := u_ws RX4 TX4 11
theorem nmX4 : ∀ a, a < 11 → ∀ b, b < 11 → a ≠ b → (TX4 a).2.1 ≠ (TX4 b).2.1 := by decide +kernel
theorem tyX4_ok : ∀ k, k < 11 → parseFieldDescriptor (TX4 k).2.2.1 = some (tyX4 k) := by decide +kernel
abbrev cX4_init : ByteArray := prog_1_method_1_code
def yX4_init : MethodName := ⟨RX4, "<init>", "()V"⟩
abbrev cX4_feed : ByteArray := prog_1_method_2_code
def yX4_feed : MethodName := ⟨RX4, "feed", "(IIIII)I"⟩
abbrev cX4_rules : ByteArray := prog_1_method_3_code
def yX4_rules : MethodName := ⟨RX4, "rules", "(I)I"⟩
abbrev cX4_rule : ByteArray := prog_1_method_4_code
def yX4_rule : MethodName := ⟨RX4, "rule", "(I)I"⟩
abbrev cX4_jumper : ByteArray := prog_1_method_5_code
def yX4_jumper : MethodName := ⟨RX4, "jumper", "(I)I"⟩
abbrev cX4_sensor : ByteArray := prog_1_method_6_code
def yX4_sensor : MethodName := ⟨RX4, "sensor", "(II)Z"⟩
abbrev cX4_base : ByteArray := prog_1_method_7_code
def yX4_base : MethodName := ⟨RX4, "base", "(I)Z"⟩
abbrev cX4_reading : ByteArray := prog_1_method_8_code
def yX4_reading : MethodName := ⟨RX4, "reading", "(IIIIZ)I"⟩
abbrev cX4_wind : ByteArray := prog_1_method_9_code
def yX4_wind : MethodName := ⟨RX4, "wind", "(IIIIII)I"⟩
abbrev cX4_style : ByteArray := prog_1_method_10_code
def yX4_style : MethodName := ⟨RX4, "style", "(IIIIII)I"⟩
abbrev cX4_strike : ByteArray := prog_1_method_11_code
def yX4_strike : MethodName := ⟨RX4, "strike", "(IIZ)I"⟩
abbrev cX4_points : ByteArray := prog_1_method_12_code
def yX4_points : MethodName := ⟨RX4, "points", "(IIII)I"⟩
abbrev cX4_told : ByteArray := prog_1_method_13_code
def yX4_told : MethodName := ⟨RX4, "told", "(III)I"⟩
abbrev cX4_list : ByteArray := prog_1_method_14_code
def yX4_list : MethodName := ⟨RX4, "list", "(II)I"⟩
abbrev cX4_start : ByteArray := prog_1_method_15_code
def yX4_start : MethodName := ⟨RX4, "start", "(III)I"⟩
abbrev cX4_team : ByteArray := prog_1_method_16_code
def yX4_team : MethodName := ⟨RX4, "team", "(II)I"⟩
abbrev cX4_record : ByteArray := prog_1_method_17_code
def yX4_record : MethodName := ⟨RX4, "record", "(I)I"⟩
abbrev cX4_differ : ByteArray := prog_1_method_18_code
def yX4_differ : MethodName := ⟨RX4, "differ", "(III)I"⟩
abbrev cX4_close : ByteArray := prog_1_method_19_code
def yX4_close : MethodName := ⟨RX4, "close", "()I"⟩
abbrev cX4_count : ByteArray := prog_1_method_20_code
def yX4_count : MethodName := ⟨RX4, "count", "(I)I"⟩
abbrev cX4_tapeInt : ByteArray := prog_1_method_21_code
def yX4_tapeInt : MethodName := ⟨RX4, "tapeInt", "(I)V"⟩
abbrev cX4_addToJump : ByteArray := prog_1_method_22_code
def yX4_addToJump : MethodName := ⟨RX4, "addToJump", "(IIIIIII)I"⟩
abbrev cX4_isTeam : ByteArray := prog_1_method_23_code
def yX4_isTeam : MethodName := ⟨RX4, "isTeam", "(I)Z"⟩
abbrev cX4_isSensor : ByteArray := prog_1_method_24_code
def yX4_isSensor : MethodName := ⟨RX4, "isSensor", "(I)Z"⟩
abbrev cX4_isGate : ByteArray := prog_1_method_25_code
def yX4_isGate : MethodName := ⟨RX4, "isGate", "(I)Z"⟩
abbrev cX4_isRound : ByteArray := prog_1_method_26_code
def yX4_isRound : MethodName := ⟨RX4, "isRound", "(I)Z"⟩
abbrev cX4_isWind : ByteArray := prog_1_method_27_code
def yX4_isWind : MethodName := ⟨RX4, "isWind", "(I)Z"⟩
abbrev cX4_isMark : ByteArray := prog_1_method_28_code
def yX4_isMark : MethodName := ⟨RX4, "isMark", "(I)Z"⟩
abbrev cX4_isJumper : ByteArray := prog_1_method_29_code
def yX4_isJumper : MethodName := ⟨RX4, "isJumper", "(I)Z"⟩
abbrev cX4_isKnowing : ByteArray := prog_1_method_30_code
def yX4_isKnowing : MethodName := ⟨RX4, "isKnowing", "(I)Z"⟩
abbrev cX4_jumpOf : ByteArray := prog_1_method_31_code
def yX4_jumpOf : MethodName := ⟨RX4, "jumpOf", "(II)I"⟩
abbrev cX4_jumperOf : ByteArray := prog_1_method_32_code
def yX4_jumperOf : MethodName := ⟨RX4, "jumperOf", "(I)I"⟩
abbrev cX4_partOfPoints : ByteArray := prog_1_method_33_code
def yX4_partOfPoints : MethodName := ⟨RX4, "partOfPoints", "(I)I"⟩
abbrev cX4_teamTotal : ByteArray := prog_1_method_34_code
def yX4_teamTotal : MethodName := ⟨RX4, "teamTotal", "(I)I"⟩
abbrev cX4_seasonPoints : ByteArray := prog_1_method_35_code
def yX4_seasonPoints : MethodName := ⟨RX4, "seasonPoints", "(I)I"⟩
abbrev cX4_recordJump : ByteArray := prog_1_method_36_code
def yX4_recordJump : MethodName := ⟨RX4, "recordJump", "()I"⟩
abbrev cX4_keepRecord : ByteArray := prog_1_method_37_code
def yX4_keepRecord : MethodName := ⟨RX4, "keepRecord", "()V"⟩
def RX5 : String := "JumpHillModel"
def TX5 : u_T := fun k => match k with
  | 0 => ("JumpHillModel", "tape", "[B", true)
  | 1 => ("JumpHillModel", "taped", "I", false)
  | 2 => ("JumpHillModel", "rule", "[I", true)
  | 3 => ("JumpHillModel", "read", "[I", true)
  | 4 => ("JumpHillModel", "jumpers", "I", false)
  | 5 => ("JumpHillModel", "entries", "I", false)
  | 6 => ("JumpHillModel", "closed", "I", false)
  | 7 => ("JumpHillModel", "base", "I", false)
  | 8 => ("JumpHillModel", "team", "[I", true)
  | 9 => ("JumpHillModel", "season", "[I", true)
  | 10 => ("JumpHillModel", "weight", "[I", true)
  | 11 => ("JumpHillModel", "sort", "[I", true)
  | 12 => ("JumpHillModel", "jump", "[I", true)
  | 13 => ("JumpHillModel", "value", "[I", true)
  | 14 => ("JumpHillModel", "bestLength", "I", false)
  | 15 => ("JumpHillModel", "bestJumper", "I", false)
  | 16 => ("JumpHillModel", "isOn", "[Z", true)
  | 17 => ("JumpHillModel", "isThrough", "[Z", true)
  | 18 => ("JumpHillModel", "one", "[I", true)
  | 19 => ("JumpHillModel", "total", "[I", true)
  | _ => ("JumpHillModel", "was", "[I", true)
def tyX5 : Nat → FieldType := fun k => match k with
  | 0 => .array .byte
  | 1 => .int
  | 2 => .array .int
  | 3 => .array .int
  | 4 => .int
  | 5 => .int
  | 6 => .int
  | 7 => .int
  | 8 => .array .int
  | 9 => .array .int
  | 10 => .array .int
  | 11 => .array .int
  | 12 => .array .int
  | 13 => .array .int
  | 14 => .int
  | 15 => .int
  | 16 => .array .boolean
  | 17 => .array .boolean
  | 18 => .array .int
  | 19 => .array .int
  | _ => .array .int
abbrev wsX50 : List Cond := u_ws RX5 TX5 21
theorem nmX5 : ∀ a, a < 21 → ∀ b, b < 21 → a ≠ b → (TX5 a).2.1 ≠ (TX5 b).2.1 := by decide +kernel
theorem tyX5_ok : ∀ k, k < 21 → parseFieldDescriptor (TX5 k).2.2.1 = some (tyX5 k) := by decide +kernel
abbrev cX5_init : ByteArray := prog_7_method_1_code
def yX5_init : MethodName := ⟨RX5, "<init>", "()V"⟩
abbrev cX5_lies : ByteArray := prog_7_method_2_code
def yX5_lies : MethodName := ⟨RX5, "lies", "(III)Z"⟩
abbrev cX5_push : ByteArray := prog_7_method_3_code
def yX5_push : MethodName := ⟨RX5, "push", "(I)V"⟩
abbrev cX5_feed : ByteArray := prog_7_method_4_code
def yX5_feed : MethodName := ⟨RX5, "feed", "(IIIII)I"⟩
abbrev cX5_asAtFirst : ByteArray := prog_7_method_5_code
def yX5_asAtFirst : MethodName := ⟨RX5, "asAtFirst", "([I)V"⟩
abbrev cX5_letter : ByteArray := prog_7_method_6_code
def yX5_letter : MethodName := ⟨RX5, "letter", "(I)I"⟩
abbrev cX5_canBe : ByteArray := prog_7_method_7_code
def yX5_canBe : MethodName := ⟨RX5, "canBe", "(II)Z"⟩
abbrev cX5_at : ByteArray := prog_7_method_8_code
def yX5_at : MethodName := ⟨RX5, "at", "(II)I"⟩
abbrev cX5_reads : ByteArray := prog_7_method_9_code
def yX5_reads : MethodName := ⟨RX5, "reads", "(I)I"⟩
abbrev cX5_rules : ByteArray := prog_7_method_10_code
def yX5_rules : MethodName := ⟨RX5, "rules", "(I)I"⟩
abbrev cX5_rule : ByteArray := prog_7_method_11_code
def yX5_rule : MethodName := ⟨RX5, "rule", "(I)I"⟩
abbrev cX5_jumper : ByteArray := prog_7_method_12_code
def yX5_jumper : MethodName := ⟨RX5, "jumper", "(I)I"⟩
abbrev cX5_isJumper : ByteArray := prog_7_method_13_code
def yX5_isJumper : MethodName := ⟨RX5, "isJumper", "(I)Z"⟩
abbrev cX5_sensor : ByteArray := prog_7_method_14_code
def yX5_sensor : MethodName := ⟨RX5, "sensor", "(II)Z"⟩
abbrev cX5_base : ByteArray := prog_7_method_15_code
def yX5_base : MethodName := ⟨RX5, "base", "(I)Z"⟩
abbrev cX5_isJump : ByteArray := prog_7_method_16_code
def yX5_isJump : MethodName := ⟨RX5, "isJump", "(I)Z"⟩
abbrev cX5_tells : ByteArray := prog_7_method_17_code
def yX5_tells : MethodName := ⟨RX5, "tells", "(IIIIIII)I"⟩
abbrev cX5_reading : ByteArray := prog_7_method_18_code
def yX5_reading : MethodName := ⟨RX5, "reading", "(IIIIZ)I"⟩
abbrev cX5_isWind : ByteArray := prog_7_method_19_code
def yX5_isWind : MethodName := ⟨RX5, "isWind", "(I)Z"⟩
abbrev cX5_wind : ByteArray := prog_7_method_20_code
def yX5_wind : MethodName := ⟨RX5, "wind", "(IIIIII)I"⟩
abbrev cX5_isMark : ByteArray := prog_7_method_21_code
def yX5_isMark : MethodName := ⟨RX5, "isMark", "(I)Z"⟩
abbrev cX5_style : ByteArray := prog_7_method_22_code
def yX5_style : MethodName := ⟨RX5, "style", "(IIIIII)I"⟩
abbrev cX5_strike : ByteArray := prog_7_method_23_code
def yX5_strike : MethodName := ⟨RX5, "strike", "(IIZ)I"⟩
abbrev cX5_lastOf : ByteArray := prog_7_method_24_code
def yX5_lastOf : MethodName := ⟨RX5, "lastOf", "(III)I"⟩
abbrev cX5_isStruck : ByteArray := prog_7_method_25_code
def yX5_isStruck : MethodName := ⟨RX5, "isStruck", "(II)Z"⟩
abbrev cX5_has : ByteArray := prog_7_method_26_code
def yX5_has : MethodName := ⟨RX5, "has", "(II)Z"⟩
abbrev cX5_nearest : ByteArray := prog_7_method_27_code
def yX5_nearest : MethodName := ⟨RX5, "nearest", "(II)I"⟩
abbrev cX5_mean : ByteArray := prog_7_method_28_code
def yX5_mean : MethodName := ⟨RX5, "mean", "(II)I"⟩
abbrev cX5_part : ByteArray := prog_7_method_29_code
def yX5_part : MethodName := ⟨RX5, "part", "(III)I"⟩
abbrev cX5_style_ : ByteArray := prog_7_method_30_code
def yX5_style_ : MethodName := ⟨RX5, "style", "(II)I"⟩
abbrev cX5_without : ByteArray := prog_7_method_31_code
def yX5_without : MethodName := ⟨RX5, "without", "(III)I"⟩
abbrev cX5_isKnowing : ByteArray := prog_7_method_32_code
def yX5_isKnowing : MethodName := ⟨RX5, "isKnowing", "(I)Z"⟩
abbrev cX5_points : ByteArray := prog_7_method_33_code
def yX5_points : MethodName := ⟨RX5, "points", "(IIII)I"⟩
abbrev cX5_works : ByteArray := prog_7_method_34_code
def yX5_works : MethodName := ⟨RX5, "works", "(I)V"⟩
abbrev cX5_isBefore : ByteArray := prog_7_method_35_code
def yX5_isBefore : MethodName := ⟨RX5, "isBefore", "(II)Z"⟩
abbrev cX5_place : ByteArray := prog_7_method_36_code
def yX5_place : MethodName := ⟨RX5, "place", "(I)I"⟩
abbrev cX5_told : ByteArray := prog_7_method_37_code
def yX5_told : MethodName := ⟨RX5, "told", "(III)I"⟩
abbrev cX5_list : ByteArray := prog_7_method_38_code
def yX5_list : MethodName := ⟨RX5, "list", "(II)I"⟩
abbrev cX5_start : ByteArray := prog_7_method_39_code
def yX5_start : MethodName := ⟨RX5, "start", "(III)I"⟩
abbrev cX5_team : ByteArray := prog_7_method_40_code
def yX5_team : MethodName := ⟨RX5, "team", "(II)I"⟩
abbrev cX5_isClean : ByteArray := prog_7_method_41_code
def yX5_isClean : MethodName := ⟨RX5, "isClean", "(I)Z"⟩
abbrev cX5_longest : ByteArray := prog_7_method_42_code
def yX5_longest : MethodName := ⟨RX5, "longest", "()I"⟩
abbrev cX5_isGreater : ByteArray := prog_7_method_43_code
def yX5_isGreater : MethodName := ⟨RX5, "isGreater", "(I)Z"⟩
abbrev cX5_record : ByteArray := prog_7_method_44_code
def yX5_record : MethodName := ⟨RX5, "record", "(I)I"⟩
abbrev cX5_differ : ByteArray := prog_7_method_45_code
def yX5_differ : MethodName := ⟨RX5, "differ", "(III)I"⟩
abbrev cX5_close : ByteArray := prog_7_method_46_code
def yX5_close : MethodName := ⟨RX5, "close", "()I"⟩
abbrev cX5_count : ByteArray := prog_7_method_47_code
def yX5_count : MethodName := ⟨RX5, "count", "(I)I"⟩
def RJ9 : String := "java/lang/Math"
def TJ9 : u_T := fun k => match k with
  | _ => ("", "", "", false)
def tyJ9 : Nat → FieldType := fun k => match k with
  | _ => .int
abbrev wsJ90 : List Cond := u_ws RJ9 TJ9 0
theorem nmJ9 : ∀ a, a < 0 → ∀ b, b < 0 → a ≠ b → (TJ9 a).2.1 ≠ (TJ9 b).2.1 := by decide +kernel
theorem tyJ9_ok : ∀ k, k < 0 → parseFieldDescriptor (TJ9 k).2.2.1 = some (tyJ9 k) := by decide +kernel
abbrev cJ9_abs_0f7a4 : ByteArray := prog_8_method_59_code
def yJ9_abs_0f7a4 : MethodName := ⟨RJ9, "abs", "(I)I"⟩
abbrev cJ9_max_7cf53 : ByteArray := prog_8_method_65_code
def yJ9_max_7cf53 : MethodName := ⟨RJ9, "max", "(II)I"⟩
abbrev cJ9_min_7cf53 : ByteArray := prog_8_method_69_code
def yJ9_min_7cf53 : MethodName := ⟨RJ9, "min", "(II)I"⟩
def RJ10 : String := "java/lang/System"
def TJ10 : u_T := fun k => match k with
  | _ => ("", "", "", false)
def tyJ10 : Nat → FieldType := fun k => match k with
  | _ => .int
abbrev wsJ100 : List Cond := u_ws RJ10 TJ10 0
theorem nmJ10 : ∀ a, a < 0 → ∀ b, b < 0 → a ≠ b → (TJ10 a).2.1 ≠ (TJ10 b).2.1 := by decide +kernel
theorem tyJ10_ok : ∀ k, k < 0 → parseFieldDescriptor (TJ10 k).2.2.1 = some (tyJ10 k) := by decide +kernel
def RJ7 : String := "java/util/Arrays"
def TJ7 : u_T := fun k => match k with
  | _ => ("", "", "", false)
def tyJ7 : Nat → FieldType := fun k => match k with
  | _ => .int
abbrev wsJ70 : List Cond := u_ws RJ7 TJ7 0
theorem nmJ7 : ∀ a, a < 0 → ∀ b, b < 0 → a ≠ b → (TJ7 a).2.1 ≠ (TJ7 b).2.1 := by decide +kernel
theorem tyJ7_ok : ∀ k, k < 0 → parseFieldDescriptor (TJ7 k).2.2.1 = some (tyJ7 k) := by decide +kernel
abbrev cJ7_fill_53178 : ByteArray := prog_10_method_103_code
def yJ7_fill_53178 : MethodName := ⟨RJ7, "fill", "([II)V"⟩
def RL : String := "JumpHillLaw"
abbrev cL_law : ByteArray := code
def yL_law : MethodName := ⟨RL, "law", "([I)Z"⟩
def wsX0_init : List Cond := .code yX0_init cX0_init 1 none :: ([.methodLink RX0 3 objectInit, .instanceMethod objectInit, .code objectInit ⟨#[0xb1]⟩ 1 none, .arrayClass .int, .fieldLink RX0 9 "JumpHill$Board" "first" "[I", .arrayClass .boolean, .fieldLink RX0 15 "JumpHill$Board" "through" "[Z", .fieldLink RX0 19 "JumpHill$Board" "totals" "[I", .fieldLink RX0 22 "JumpHill$Board" "places" "[I", .fieldLink RX0 25 "JumpHill$Board" "order" "[I"] ++ wsX00)
def wsJ7_fill_53178 : List Cond := .code yJ7_fill_53178 cJ7_fill_53178 4 none :: ([])
def wsX3_know : List Cond := .code yX3_know cX3_know 4 none :: ([.fieldLink RX3 33 "JumpHill$Scorer" "counting" "[I", .fieldLink RX3 21 "JumpHill$Scorer" "entries" "LJumpHill$Entries;", .methodLink RX3 36 yJ7_fill_53178, .static yJ7_fill_53178, .initialized RJ7, .code yJ7_fill_53178 cJ7_fill_53178 4 none] ++ wsX30 ++ wsX10)
def wsX3_countingOf : List Cond := .code yX3_countingOf cX3_countingOf 4 (some .int) :: ([.fieldLink RX3 33 "JumpHill$Scorer" "counting" "[I"] ++ wsX30)
def wsX1_value : List Cond := .code yX1_value cX1_value 4 (some .int) :: ([.fieldLink RX1 18 "JumpHill$Entries" "values" "[I"] ++ wsX10)
def wsX3_rounded : List Cond := .code yX3_rounded cX3_rounded 3 (some .int) :: ([.methodLink RX3 105 Lib.Math.abs.name, .static Lib.Math.abs.name, .initialized "java/lang/Math", .code Lib.Math.abs.name Lib.Math.abs.code 1 (some .int)])
def wsX3_meanOf : List Cond := .code yX3_meanOf cX3_meanOf 6 (some .int) :: ([.fieldLink RX3 25 "JumpHill$Scorer" "weights" "[I", .fieldLink RX3 21 "JumpHill$Scorer" "entries" "LJumpHill$Entries;", .instanceMethod yX1_value, .initialized RX1, .selects RX1 yX1_value yX1_value, .code yX1_value cX1_value 4 (some .int), .fieldLink RX1 18 "JumpHill$Entries" "values" "[I", .methodLink RX3 87 yX3_rounded, .static yX3_rounded, .initialized RX3, .code yX3_rounded cX3_rounded 3 (some .int), .methodLink RX3 105 Lib.Math.abs.name, .static Lib.Math.abs.name, .initialized "java/lang/Math", .code Lib.Math.abs.name Lib.Math.abs.code 1 (some .int)] ++ wsX30 ++ wsX10)
def wsX3_isStruck : List Cond := .code yX3_isStruck cX3_isStruck 3 (some .boolean) :: ([.fieldLink RX3 21 "JumpHill$Scorer" "entries" "LJumpHill$Entries;", .methodLink RX3 48 yX3_countingOf, .instanceMethod yX3_countingOf, .selects RX3 yX3_countingOf yX3_countingOf, .initialized RX3, .code yX3_countingOf cX3_countingOf 4 (some .int), .fieldLink RX3 33 "JumpHill$Scorer" "counting" "[I", .instanceMethod yX1_value, .initialized RX1, .selects RX1 yX1_value yX1_value, .code yX1_value cX1_value 4 (some .int), .fieldLink RX1 18 "JumpHill$Entries" "values" "[I"] ++ wsX30 ++ wsX10)
def wsX3_hasPoints : List Cond := .code yX3_hasPoints cX3_hasPoints 2 (some .boolean) :: ([.methodLink RX3 48 yX3_countingOf, .instanceMethod yX3_countingOf, .selects RX3 yX3_countingOf yX3_countingOf, .initialized RX3, .code yX3_countingOf cX3_countingOf 4 (some .int), .fieldLink RX3 33 "JumpHill$Scorer" "counting" "[I", .methodLink RX3 55 yX3_isStruck, .instanceMethod yX3_isStruck, .selects RX3 yX3_isStruck yX3_isStruck, .code yX3_isStruck cX3_isStruck 3 (some .boolean), .fieldLink RX3 21 "JumpHill$Scorer" "entries" "LJumpHill$Entries;", .instanceMethod yX1_value, .initialized RX1, .selects RX1 yX1_value yX1_value, .code yX1_value cX1_value 4 (some .int), .fieldLink RX1 18 "JumpHill$Entries" "values" "[I"] ++ wsX30 ++ wsX10)
def wsX2_isLetter : List Cond := .code yX2_isLetter cX2_isLetter 1 (some .boolean) :: ([])
def wsX2_number : List Cond := .code yX2_number cX2_number 2 (some .int) :: ([.fieldLink RX2 11 "JumpHill$Rules" "numbers" "[I", .methodLink RX2 27 yX2_isLetter, .static yX2_isLetter, .initialized RX2, .code yX2_isLetter cX2_isLetter 1 (some .boolean)] ++ wsX20)
def wsX3_styleOf : List Cond := .code yX3_styleOf cX3_styleOf 7 (some .int) :: ([.fieldLink RX3 21 "JumpHill$Scorer" "entries" "LJumpHill$Entries;", .methodLink RX3 102 Lib.Math.min.name, .static Lib.Math.min.name, .initialized "java/lang/Math", .code Lib.Math.min.name Lib.Math.min.code 2 (some .int), .methodLink RX3 93 Lib.Math.max.name, .static Lib.Math.max.name, .code Lib.Math.max.name Lib.Math.max.code 2 (some .int), .instanceMethod yX1_value, .initialized RX1, .selects RX1 yX1_value yX1_value, .code yX1_value cX1_value 4 (some .int), .fieldLink RX1 18 "JumpHill$Entries" "values" "[I"] ++ wsX30 ++ wsX10)
def wsX3_gateOf : List Cond := .code yX3_gateOf cX3_gateOf 3 (some .int) :: ([.fieldLink RX3 21 "JumpHill$Scorer" "entries" "LJumpHill$Entries;", .fieldLink RX3 12 "JumpHill$Scorer" "rules" "LJumpHill$Rules;", .fieldLink RX3 29 "JumpHill$Scorer" "base" "I", .instanceMethod yX1_value, .initialized RX1, .selects RX1 yX1_value yX1_value, .code yX1_value cX1_value 4 (some .int), .fieldLink RX1 18 "JumpHill$Entries" "values" "[I", .instanceMethod yX2_number, .initialized RX2, .selects RX2 yX2_number yX2_number, .code yX2_number cX2_number 2 (some .int), .fieldLink RX2 11 "JumpHill$Rules" "numbers" "[I", .methodLink RX2 27 yX2_isLetter, .static yX2_isLetter, .code yX2_isLetter cX2_isLetter 1 (some .boolean)] ++ wsX30 ++ wsX10 ++ wsX20)
def wsX3_measure_r1 : List Cond := [Cond.fieldLink RX3 63 "JumpHill$Scorer" "mean" "I", Cond.fieldLink RX3 12 "JumpHill$Scorer" "rules" "LJumpHill$Rules;", Cond.fieldLink RX3 21 "JumpHill$Scorer" "entries" "LJumpHill$Entries;", Cond.fieldLink RX3 72 "JumpHill$Scorer" "length" "I", Cond.fieldLink RX3 78 "JumpHill$Scorer" "style" "I", Cond.fieldLink RX3 84 "JumpHill$Scorer" "gate" "I", Cond.fieldLink RX3 90 "JumpHill$Scorer" "wind" "I", Cond.methodLink RX3 48 yX3_countingOf, Cond.instanceMethod yX3_countingOf, Cond.selects RX3 yX3_countingOf yX3_countingOf, Cond.initialized RX3, Cond.code yX3_countingOf cX3_countingOf 4 (some .int), Cond.fieldLink RX3 33 "JumpHill$Scorer" "counting" "[I", Cond.methodLink RX3 59 yX3_meanOf, Cond.instanceMethod yX3_meanOf, Cond.selects RX3 yX3_meanOf yX3_meanOf, Cond.code yX3_meanOf cX3_meanOf 6 (some .int), Cond.fieldLink RX3 25 "JumpHill$Scorer" "weights" "[I", Cond.instanceMethod yX1_value, Cond.initialized RX1, Cond.selects RX1 yX1_value yX1_value, Cond.code yX1_value cX1_value 4 (some .int), Cond.fieldLink RX1 18 "JumpHill$Entries" "values" "[I", Cond.methodLink RX3 87 yX3_rounded]
def wsX3_measure_r2 : List Cond := [Cond.static yX3_rounded, Cond.code yX3_rounded cX3_rounded 3 (some .int), Cond.methodLink RX3 105 Lib.Math.abs.name, Cond.static Lib.Math.abs.name, Cond.initialized "java/lang/Math", Cond.code Lib.Math.abs.name Lib.Math.abs.code 1 (some .int), Cond.methodLink RX3 66 yX3_hasPoints, Cond.instanceMethod yX3_hasPoints, Cond.selects RX3 yX3_hasPoints yX3_hasPoints, Cond.code yX3_hasPoints cX3_hasPoints 2 (some .boolean), Cond.methodLink RX3 55 yX3_isStruck, Cond.instanceMethod yX3_isStruck, Cond.selects RX3 yX3_isStruck yX3_isStruck, Cond.code yX3_isStruck cX3_isStruck 3 (some .boolean), Cond.instanceMethod yX2_number, Cond.initialized RX2, Cond.selects RX2 yX2_number yX2_number, Cond.code yX2_number cX2_number 2 (some .int), Cond.fieldLink RX2 11 "JumpHill$Rules" "numbers" "[I", Cond.methodLink RX2 27 yX2_isLetter, Cond.static yX2_isLetter, Cond.code yX2_isLetter cX2_isLetter 1 (some .boolean), Cond.methodLink RX3 75 yX3_styleOf, Cond.instanceMethod yX3_styleOf]
def wsX3_measure_r3 : List Cond := [Cond.selects RX3 yX3_styleOf yX3_styleOf, Cond.code yX3_styleOf cX3_styleOf 7 (some .int), Cond.methodLink RX3 102 Lib.Math.min.name, Cond.static Lib.Math.min.name, Cond.code Lib.Math.min.name Lib.Math.min.code 2 (some .int), Cond.methodLink RX3 93 Lib.Math.max.name, Cond.static Lib.Math.max.name, Cond.code Lib.Math.max.name Lib.Math.max.code 2 (some .int), Cond.methodLink RX3 81 yX3_gateOf, Cond.instanceMethod yX3_gateOf, Cond.selects RX3 yX3_gateOf yX3_gateOf, Cond.code yX3_gateOf cX3_gateOf 3 (some .int), Cond.fieldLink RX3 29 "JumpHill$Scorer" "base" "I"]
def wsX3_measure : List Cond := .code yX3_measure cX3_measure 3 (some .boolean) :: ((wsX3_measure_r1 ++ (wsX3_measure_r2 ++ wsX3_measure_r3)) ++ wsX30 ++ wsX10 ++ wsX20)
def wsX3_sum : List Cond := .code yX3_sum cX3_sum 1 (some .int) :: ([.fieldLink RX3 72 "JumpHill$Scorer" "length" "I", .fieldLink RX3 78 "JumpHill$Scorer" "style" "I", .fieldLink RX3 84 "JumpHill$Scorer" "gate" "I", .fieldLink RX3 90 "JumpHill$Scorer" "wind" "I", .methodLink RX3 93 Lib.Math.max.name, .static Lib.Math.max.name, .initialized "java/lang/Math", .code Lib.Math.max.name Lib.Math.max.code 2 (some .int)] ++ wsX30)
def wsX0_aheadInRoundZero : List Cond := .code yX0_aheadInRoundZero cX0_aheadInRoundZero 7 (some .int) :: ([.fieldLink RX0 9 "JumpHill$Board" "first" "[I", .instanceMethod yX2_number, .initialized RX2, .selects RX2 yX2_number yX2_number, .code yX2_number cX2_number 2 (some .int), .fieldLink RX2 11 "JumpHill$Rules" "numbers" "[I", .methodLink RX2 27 yX2_isLetter, .static yX2_isLetter, .code yX2_isLetter cX2_isLetter 1 (some .boolean)] ++ wsX00 ++ wsX20)
def wsX0_isBetter : List Cond := .code yX0_isBetter cX0_isBetter 3 (some .boolean) :: ([.fieldLink RX0 15 "JumpHill$Board" "through" "[Z", .fieldLink RX0 19 "JumpHill$Board" "totals" "[I"] ++ wsX00)
def wsX0_placeOnList : List Cond := .code yX0_placeOnList cX0_placeOnList 5 none :: ([.fieldLink RX0 22 "JumpHill$Board" "places" "[I", .fieldLink RX0 9 "JumpHill$Board" "first" "[I", .fieldLink RX0 15 "JumpHill$Board" "through" "[Z", .fieldLink RX0 19 "JumpHill$Board" "totals" "[I", .fieldLink RX0 25 "JumpHill$Board" "order" "[I", .methodLink RX0 66 yX0_isBetter, .instanceMethod yX0_isBetter, .selects RX0 yX0_isBetter yX0_isBetter, .initialized RX0, .code yX0_isBetter cX0_isBetter 3 (some .boolean)] ++ wsX00)
def wsX0_draw_r1 : List Cond := [Cond.fieldLink RX0 34 "JumpHill$Board" "listed" "I", Cond.fieldLink RX0 38 "JumpHill$Board" "passed" "I", Cond.fieldLink RX0 9 "JumpHill$Board" "first" "[I", Cond.fieldLink RX0 15 "JumpHill$Board" "through" "[Z", Cond.fieldLink RX0 19 "JumpHill$Board" "totals" "[I", Cond.instanceMethod yX3_know, Cond.initialized RX3, Cond.selects RX3 yX3_know yX3_know, Cond.code yX3_know cX3_know 4 none, Cond.fieldLink RX3 33 "JumpHill$Scorer" "counting" "[I", Cond.fieldLink RX3 21 "JumpHill$Scorer" "entries" "LJumpHill$Entries;", Cond.methodLink RX3 36 yJ7_fill_53178, Cond.static yJ7_fill_53178, Cond.initialized RJ7, Cond.code yJ7_fill_53178 cJ7_fill_53178 4 none, Cond.instanceMethod yX3_measure, Cond.selects RX3 yX3_measure yX3_measure, Cond.code yX3_measure cX3_measure 3 (some .boolean), Cond.fieldLink RX3 63 "JumpHill$Scorer" "mean" "I", Cond.fieldLink RX3 12 "JumpHill$Scorer" "rules" "LJumpHill$Rules;", Cond.fieldLink RX3 72 "JumpHill$Scorer" "length" "I", Cond.fieldLink RX3 78 "JumpHill$Scorer" "style" "I", Cond.fieldLink RX3 84 "JumpHill$Scorer" "gate" "I", Cond.fieldLink RX3 90 "JumpHill$Scorer" "wind" "I"]
def wsX0_draw_r2 : List Cond := [Cond.methodLink RX3 48 yX3_countingOf, Cond.instanceMethod yX3_countingOf, Cond.selects RX3 yX3_countingOf yX3_countingOf, Cond.code yX3_countingOf cX3_countingOf 4 (some .int), Cond.methodLink RX3 59 yX3_meanOf, Cond.instanceMethod yX3_meanOf, Cond.selects RX3 yX3_meanOf yX3_meanOf, Cond.code yX3_meanOf cX3_meanOf 6 (some .int), Cond.fieldLink RX3 25 "JumpHill$Scorer" "weights" "[I", Cond.instanceMethod yX1_value, Cond.initialized RX1, Cond.selects RX1 yX1_value yX1_value, Cond.code yX1_value cX1_value 4 (some .int), Cond.fieldLink RX1 18 "JumpHill$Entries" "values" "[I", Cond.methodLink RX3 87 yX3_rounded, Cond.static yX3_rounded, Cond.code yX3_rounded cX3_rounded 3 (some .int), Cond.methodLink RX3 105 Lib.Math.abs.name, Cond.static Lib.Math.abs.name, Cond.initialized "java/lang/Math", Cond.code Lib.Math.abs.name Lib.Math.abs.code 1 (some .int), Cond.methodLink RX3 66 yX3_hasPoints, Cond.instanceMethod yX3_hasPoints, Cond.selects RX3 yX3_hasPoints yX3_hasPoints]
def wsX0_draw_r3 : List Cond := [Cond.code yX3_hasPoints cX3_hasPoints 2 (some .boolean), Cond.methodLink RX3 55 yX3_isStruck, Cond.instanceMethod yX3_isStruck, Cond.selects RX3 yX3_isStruck yX3_isStruck, Cond.code yX3_isStruck cX3_isStruck 3 (some .boolean), Cond.instanceMethod yX2_number, Cond.initialized RX2, Cond.selects RX2 yX2_number yX2_number, Cond.code yX2_number cX2_number 2 (some .int), Cond.fieldLink RX2 11 "JumpHill$Rules" "numbers" "[I", Cond.methodLink RX2 27 yX2_isLetter, Cond.static yX2_isLetter, Cond.code yX2_isLetter cX2_isLetter 1 (some .boolean), Cond.methodLink RX3 75 yX3_styleOf, Cond.instanceMethod yX3_styleOf, Cond.selects RX3 yX3_styleOf yX3_styleOf, Cond.code yX3_styleOf cX3_styleOf 7 (some .int), Cond.methodLink RX3 102 Lib.Math.min.name, Cond.static Lib.Math.min.name, Cond.code Lib.Math.min.name Lib.Math.min.code 2 (some .int), Cond.methodLink RX3 93 Lib.Math.max.name, Cond.static Lib.Math.max.name, Cond.code Lib.Math.max.name Lib.Math.max.code 2 (some .int), Cond.methodLink RX3 81 yX3_gateOf]
def wsX0_draw_r4 : List Cond := [Cond.instanceMethod yX3_gateOf, Cond.selects RX3 yX3_gateOf yX3_gateOf, Cond.code yX3_gateOf cX3_gateOf 3 (some .int), Cond.fieldLink RX3 29 "JumpHill$Scorer" "base" "I", Cond.instanceMethod yX3_sum, Cond.selects RX3 yX3_sum yX3_sum, Cond.code yX3_sum cX3_sum 1 (some .int), Cond.methodLink RX0 53 yX0_aheadInRoundZero, Cond.instanceMethod yX0_aheadInRoundZero, Cond.selects RX0 yX0_aheadInRoundZero yX0_aheadInRoundZero, Cond.initialized RX0, Cond.code yX0_aheadInRoundZero cX0_aheadInRoundZero 7 (some .int), Cond.methodLink RX0 63 yX0_placeOnList, Cond.instanceMethod yX0_placeOnList, Cond.selects RX0 yX0_placeOnList yX0_placeOnList, Cond.code yX0_placeOnList cX0_placeOnList 5 none, Cond.fieldLink RX0 22 "JumpHill$Board" "places" "[I", Cond.fieldLink RX0 25 "JumpHill$Board" "order" "[I", Cond.methodLink RX0 66 yX0_isBetter, Cond.instanceMethod yX0_isBetter, Cond.selects RX0 yX0_isBetter yX0_isBetter, Cond.code yX0_isBetter cX0_isBetter 3 (some .boolean)]
def wsX0_draw : List Cond := .code yX0_draw cX0_draw 6 none :: ((wsX0_draw_r1 ++ (wsX0_draw_r2 ++ (wsX0_draw_r3 ++ wsX0_draw_r4))) ++ wsX00 ++ wsX30 ++ wsX10 ++ wsX20)
def wsX0_placeOf : List Cond := .code yX0_placeOf cX0_placeOf 2 (some .int) :: ([.fieldLink RX0 22 "JumpHill$Board" "places" "[I"] ++ wsX00)
def wsX0_isListed : List Cond := .code yX0_isListed cX0_isListed 2 (some .boolean) :: ([.methodLink RX0 70 yX0_placeOf, .instanceMethod yX0_placeOf, .selects RX0 yX0_placeOf yX0_placeOf, .initialized RX0, .code yX0_placeOf cX0_placeOf 2 (some .int), .fieldLink RX0 22 "JumpHill$Board" "places" "[I"] ++ wsX00)
def wsX0_isThrough : List Cond := .code yX0_isThrough cX0_isThrough 2 (some .boolean) :: ([.fieldLink RX0 15 "JumpHill$Board" "through" "[Z"] ++ wsX00)
def wsX0_totalOf : List Cond := .code yX0_totalOf cX0_totalOf 2 (some .int) :: ([.fieldLink RX0 19 "JumpHill$Board" "totals" "[I"] ++ wsX00)
def wsX0_isPosition : List Cond := .code yX0_isPosition cX0_isPosition 2 (some .boolean) :: ([.fieldLink RX0 34 "JumpHill$Board" "listed" "I"] ++ wsX00)
def wsX0_jumperAt : List Cond := .code yX0_jumperAt cX0_jumperAt 2 (some .int) :: ([.fieldLink RX0 25 "JumpHill$Board" "order" "[I"] ++ wsX00)
def wsX0_startersBefore : List Cond := .code yX0_startersBefore cX0_startersBefore 5 (some .int) :: ([.fieldLink RX0 15 "JumpHill$Board" "through" "[Z", .fieldLink RX0 9 "JumpHill$Board" "first" "[I"] ++ wsX00)
def wsX0_starterAt : List Cond := .code yX0_starterAt cX0_starterAt 3 (some .int) :: ([.fieldLink RX0 15 "JumpHill$Board" "through" "[Z", .methodLink RX0 73 yX0_startersBefore, .instanceMethod yX0_startersBefore, .selects RX0 yX0_startersBefore yX0_startersBefore, .initialized RX0, .code yX0_startersBefore cX0_startersBefore 5 (some .int), .fieldLink RX0 9 "JumpHill$Board" "first" "[I"] ++ wsX00)
def wsX1_init : List Cond := .code yX1_init cX1_init 1 none :: ([.methodLink RX1 3 objectInit, .instanceMethod objectInit, .code objectInit ⟨#[0xb1]⟩ 1 none, .arrayClass .int, .fieldLink RX1 9 "JumpHill$Entries" "sorts" "[I", .fieldLink RX1 15 "JumpHill$Entries" "jumps" "[I", .fieldLink RX1 18 "JumpHill$Entries" "values" "[I"] ++ wsX10)
def wsX1_add : List Cond := .code yX1_add cX1_add 10 (some .int) :: ([.fieldLink RX1 21 "JumpHill$Entries" "told" "I", .fieldLink RX1 9 "JumpHill$Entries" "sorts" "[I", .fieldLink RX1 15 "JumpHill$Entries" "jumps" "[I", .fieldLink RX1 18 "JumpHill$Entries" "values" "[I"] ++ wsX10)
def wsX2_init : List Cond := .code yX2_init cX2_init 1 none :: ([.methodLink RX2 3 objectInit, .instanceMethod objectInit, .code objectInit ⟨#[0xb1]⟩ 1 none, .arrayClass .int, .fieldLink RX2 11 "JumpHill$Rules" "numbers" "[I", .fieldLink RX2 15 "JumpHill$Rules" "draft" "[I", .fieldLink RX2 18 "JumpHill$Rules" "FIRST" "[I", .methodLink RX2 21 arraycopyName, .native arraycopyName, .static arraycopyName, .initialized "java/lang/System"] ++ wsX20)
def wsX2_letterOf : List Cond := .code yX2_letterOf cX2_letterOf 2 (some .int) :: ([.fieldLink RX2 45 "JumpHill$Rules" "LETTER" "[C"])
def wsX2_faultOfClause : List Cond := .code yX2_faultOfClause cX2_faultOfClause 5 (some .int) :: ([.fieldLink RX2 39 "JumpHill$Rules" "LEAST" "[I", .fieldLink RX2 42 "JumpHill$Rules" "GREATEST" "[I"])
def wsX2_read : List Cond := .code yX2_read cX2_read 9 (some .int) :: ([.fieldLink RX2 18 "JumpHill$Rules" "FIRST" "[I", .fieldLink RX2 15 "JumpHill$Rules" "draft" "[I", .methodLink RX2 21 arraycopyName, .native arraycopyName, .static arraycopyName, .initialized "java/lang/System", .fieldLink RX2 11 "JumpHill$Rules" "numbers" "[I", .methodLink RX2 27 yX2_isLetter, .static yX2_isLetter, .initialized RX2, .code yX2_isLetter cX2_isLetter 1 (some .boolean), .methodLink RX2 31 yX2_letterOf, .static yX2_letterOf, .code yX2_letterOf cX2_letterOf 2 (some .int), .fieldLink RX2 45 "JumpHill$Rules" "LETTER" "[C", .methodLink RX2 35 yX2_faultOfClause, .static yX2_faultOfClause, .code yX2_faultOfClause cX2_faultOfClause 5 (some .int), .fieldLink RX2 39 "JumpHill$Rules" "LEAST" "[I", .fieldLink RX2 42 "JumpHill$Rules" "GREATEST" "[I"] ++ wsX20)
def wsX3_init_r1 : List Cond := [Cond.methodLink RX3 3 objectInit, Cond.instanceMethod objectInit, Cond.code objectInit ⟨#[0xb1]⟩ 1 none, Cond.classLink RX3 9 RX2, Cond.instantiable RX2 2, Cond.initialized RX2, Cond.fieldLink RX3 12 "JumpHill$Scorer" "rules" "LJumpHill$Rules;", Cond.classLink RX3 18 RX1, Cond.instantiable RX1 4, Cond.initialized RX1, Cond.fieldLink RX3 21 "JumpHill$Scorer" "entries" "LJumpHill$Entries;", Cond.arrayClass .int, Cond.fieldLink RX3 25 "JumpHill$Scorer" "weights" "[I", Cond.fieldLink RX3 29 "JumpHill$Scorer" "base" "I", Cond.fieldLink RX3 33 "JumpHill$Scorer" "counting" "[I", Cond.instanceMethod yX2_init, Cond.code yX2_init cX2_init 1 none, Cond.methodLink RX2 3 objectInit, Cond.fieldLink RX2 11 "JumpHill$Rules" "numbers" "[I", Cond.fieldLink RX2 15 "JumpHill$Rules" "draft" "[I", Cond.fieldLink RX2 18 "JumpHill$Rules" "FIRST" "[I", Cond.methodLink RX2 21 arraycopyName, Cond.native arraycopyName, Cond.static arraycopyName]
def wsX3_init_r2 : List Cond := [Cond.initialized "java/lang/System", Cond.instanceMethod yX1_init, Cond.code yX1_init cX1_init 1 none, Cond.methodLink RX1 3 objectInit, Cond.fieldLink RX1 9 "JumpHill$Entries" "sorts" "[I", Cond.fieldLink RX1 15 "JumpHill$Entries" "jumps" "[I", Cond.fieldLink RX1 18 "JumpHill$Entries" "values" "[I"]
def wsX3_init : List Cond := .code yX3_init cX3_init 1 none :: ((wsX3_init_r1 ++ wsX3_init_r2) ++ wsX20 ++ wsX30 ++ wsX10)
def wsX3_lengthOf : List Cond := .code yX3_lengthOf cX3_lengthOf 2 (some .int) :: ([.fieldLink RX3 21 "JumpHill$Scorer" "entries" "LJumpHill$Entries;", .methodLink RX3 48 yX3_countingOf, .instanceMethod yX3_countingOf, .selects RX3 yX3_countingOf yX3_countingOf, .initialized RX3, .code yX3_countingOf cX3_countingOf 4 (some .int), .fieldLink RX3 33 "JumpHill$Scorer" "counting" "[I", .instanceMethod yX1_value, .initialized RX1, .selects RX1 yX1_value yX1_value, .code yX1_value cX1_value 4 (some .int), .fieldLink RX1 18 "JumpHill$Entries" "values" "[I"] ++ wsX30 ++ wsX10)
def wsX3_worthOf : List Cond := .code yX3_worthOf cX3_worthOf 2 (some .int) :: ([.fieldLink RX3 72 "JumpHill$Scorer" "length" "I", .fieldLink RX3 78 "JumpHill$Scorer" "style" "I", .fieldLink RX3 84 "JumpHill$Scorer" "gate" "I", .fieldLink RX3 90 "JumpHill$Scorer" "wind" "I", .methodLink RX3 93 Lib.Math.max.name, .static Lib.Math.max.name, .initialized "java/lang/Math", .code Lib.Math.max.name Lib.Math.max.code 2 (some .int), .methodLink RX3 98 yX3_sum, .instanceMethod yX3_sum, .selects RX3 yX3_sum yX3_sum, .initialized RX3, .code yX3_sum cX3_sum 1 (some .int)] ++ wsX30)
def wsX3_mayBeRecord : List Cond := .code yX3_mayBeRecord cX3_mayBeRecord 4 (some .boolean) :: ([.fieldLink RX3 21 "JumpHill$Scorer" "entries" "LJumpHill$Entries;", .methodLink RX3 48 yX3_countingOf, .instanceMethod yX3_countingOf, .selects RX3 yX3_countingOf yX3_countingOf, .initialized RX3, .code yX3_countingOf cX3_countingOf 4 (some .int), .fieldLink RX3 33 "JumpHill$Scorer" "counting" "[I", .methodLink RX3 66 yX3_hasPoints, .instanceMethod yX3_hasPoints, .selects RX3 yX3_hasPoints yX3_hasPoints, .code yX3_hasPoints cX3_hasPoints 2 (some .boolean), .methodLink RX3 55 yX3_isStruck, .instanceMethod yX3_isStruck, .selects RX3 yX3_isStruck yX3_isStruck, .code yX3_isStruck cX3_isStruck 3 (some .boolean), .instanceMethod yX1_value, .initialized RX1, .selects RX1 yX1_value yX1_value, .code yX1_value cX1_value 4 (some .int), .fieldLink RX1 18 "JumpHill$Entries" "values" "[I"] ++ wsX30 ++ wsX10)
def wsX3_isLonger : List Cond := .code yX3_isLonger cX3_isLonger 4 (some .boolean) :: ([.methodLink RX3 108 yX3_lengthOf, .instanceMethod yX3_lengthOf, .selects RX3 yX3_lengthOf yX3_lengthOf, .initialized RX3, .code yX3_lengthOf cX3_lengthOf 2 (some .int), .fieldLink RX3 21 "JumpHill$Scorer" "entries" "LJumpHill$Entries;", .methodLink RX3 48 yX3_countingOf, .instanceMethod yX3_countingOf, .selects RX3 yX3_countingOf yX3_countingOf, .code yX3_countingOf cX3_countingOf 4 (some .int), .fieldLink RX3 33 "JumpHill$Scorer" "counting" "[I", .instanceMethod yX1_value, .initialized RX1, .selects RX1 yX1_value yX1_value, .code yX1_value cX1_value 4 (some .int), .fieldLink RX1 18 "JumpHill$Entries" "values" "[I"] ++ wsX30 ++ wsX10)
def wsX4_init_r1 : List Cond := [Cond.methodLink RX4 1 objectInit, Cond.instanceMethod objectInit, Cond.code objectInit ⟨#[0xb1]⟩ 1 none, Cond.arrayClass .int, Cond.fieldLink RX4 9 "JumpHill" "tape" "[I", Cond.classLink RX4 13 RX3, Cond.instantiable RX3 10, Cond.initialized RX3, Cond.fieldLink RX4 16 "JumpHill" "scorer" "LJumpHill$Scorer;", Cond.classLink RX4 20 RX0, Cond.instantiable RX0 7, Cond.initialized RX0, Cond.fieldLink RX4 23 "JumpHill" "board" "LJumpHill$Board;", Cond.fieldLink RX4 27 "JumpHill" "otherBoard" "LJumpHill$Board;", Cond.fieldLink RX4 30 "JumpHill" "teams" "[I", Cond.fieldLink RX4 33 "JumpHill" "season" "[I", Cond.fieldLink RX4 36 "JumpHill" "recordLength" "I", Cond.fieldLink RX4 40 "JumpHill" "recordJumper" "I", Cond.instanceMethod yX3_init, Cond.code yX3_init cX3_init 1 none, Cond.methodLink RX3 3 objectInit, Cond.classLink RX3 9 RX2, Cond.instantiable RX2 2, Cond.initialized RX2]
def wsX4_init_r2 : List Cond := [Cond.fieldLink RX3 12 "JumpHill$Scorer" "rules" "LJumpHill$Rules;", Cond.classLink RX3 18 RX1, Cond.instantiable RX1 4, Cond.initialized RX1, Cond.fieldLink RX3 21 "JumpHill$Scorer" "entries" "LJumpHill$Entries;", Cond.fieldLink RX3 25 "JumpHill$Scorer" "weights" "[I", Cond.fieldLink RX3 29 "JumpHill$Scorer" "base" "I", Cond.fieldLink RX3 33 "JumpHill$Scorer" "counting" "[I", Cond.instanceMethod yX2_init, Cond.code yX2_init cX2_init 1 none, Cond.methodLink RX2 3 objectInit, Cond.fieldLink RX2 11 "JumpHill$Rules" "numbers" "[I", Cond.fieldLink RX2 15 "JumpHill$Rules" "draft" "[I", Cond.fieldLink RX2 18 "JumpHill$Rules" "FIRST" "[I", Cond.methodLink RX2 21 arraycopyName, Cond.native arraycopyName, Cond.static arraycopyName, Cond.initialized "java/lang/System", Cond.instanceMethod yX1_init, Cond.code yX1_init cX1_init 1 none, Cond.methodLink RX1 3 objectInit, Cond.fieldLink RX1 9 "JumpHill$Entries" "sorts" "[I", Cond.fieldLink RX1 15 "JumpHill$Entries" "jumps" "[I", Cond.fieldLink RX1 18 "JumpHill$Entries" "values" "[I"]
def wsX4_init_r3 : List Cond := [Cond.instanceMethod yX0_init, Cond.code yX0_init cX0_init 1 none, Cond.methodLink RX0 3 objectInit, Cond.fieldLink RX0 9 "JumpHill$Board" "first" "[I", Cond.arrayClass .boolean, Cond.fieldLink RX0 15 "JumpHill$Board" "through" "[Z", Cond.fieldLink RX0 19 "JumpHill$Board" "totals" "[I", Cond.fieldLink RX0 22 "JumpHill$Board" "places" "[I", Cond.fieldLink RX0 25 "JumpHill$Board" "order" "[I"]
def wsX4_init : List Cond := .code yX4_init cX4_init 1 none :: ((wsX4_init_r1 ++ (wsX4_init_r2 ++ wsX4_init_r3)) ++ wsX40 ++ wsX30 ++ wsX00 ++ wsX20 ++ wsX10)
def wsX4_tapeInt : List Cond := .code yX4_tapeInt cX4_tapeInt 3 none :: ([.fieldLink RX4 43 "JumpHill" "taped" "I", .fieldLink RX4 9 "JumpHill" "tape" "[I"] ++ wsX40)
def wsX4_feed : List Cond := .code yX4_feed cX4_feed 6 (some .int) :: ([.fieldLink RX4 43 "JumpHill" "taped" "I", .methodLink RX4 46 yX4_tapeInt, .instanceMethod yX4_tapeInt, .selects RX4 yX4_tapeInt yX4_tapeInt, .initialized RX4, .code yX4_tapeInt cX4_tapeInt 3 none, .fieldLink RX4 9 "JumpHill" "tape" "[I"] ++ wsX40)
def wsX4_rules_r1 : List Cond := [Cond.fieldLink RX4 43 "JumpHill" "taped" "I", Cond.fieldLink RX4 16 "JumpHill" "scorer" "LJumpHill$Scorer;", Cond.fieldLink RX4 9 "JumpHill" "tape" "[I", Cond.instanceMethod yX2_read, Cond.initialized RX2, Cond.selects RX2 yX2_read yX2_read, Cond.code yX2_read cX2_read 9 (some .int), Cond.fieldLink RX2 18 "JumpHill$Rules" "FIRST" "[I", Cond.fieldLink RX2 15 "JumpHill$Rules" "draft" "[I", Cond.methodLink RX2 21 arraycopyName, Cond.native arraycopyName, Cond.static arraycopyName, Cond.initialized "java/lang/System", Cond.fieldLink RX2 11 "JumpHill$Rules" "numbers" "[I", Cond.methodLink RX2 27 yX2_isLetter, Cond.static yX2_isLetter, Cond.code yX2_isLetter cX2_isLetter 1 (some .boolean), Cond.methodLink RX2 31 yX2_letterOf, Cond.static yX2_letterOf, Cond.code yX2_letterOf cX2_letterOf 2 (some .int), Cond.fieldLink RX2 45 "JumpHill$Rules" "LETTER" "[C", Cond.methodLink RX2 35 yX2_faultOfClause, Cond.static yX2_faultOfClause, Cond.code yX2_faultOfClause cX2_faultOfClause 5 (some .int)]
def wsX4_rules_r2 : List Cond := [Cond.fieldLink RX2 39 "JumpHill$Rules" "LEAST" "[I", Cond.fieldLink RX2 42 "JumpHill$Rules" "GREATEST" "[I"]
def wsX4_rules : List Cond := .code yX4_rules cX4_rules 2 (some .int) :: ((wsX4_rules_r1 ++ wsX4_rules_r2) ++ wsX40 ++ wsX30 ++ wsX20)
def wsX4_rule : List Cond := .code yX4_rule cX4_rule 2 (some .int) :: ([.fieldLink RX4 16 "JumpHill" "scorer" "LJumpHill$Scorer;", .static yX2_isLetter, .initialized RX2, .code yX2_isLetter cX2_isLetter 1 (some .boolean), .instanceMethod yX2_number, .selects RX2 yX2_number yX2_number, .code yX2_number cX2_number 2 (some .int), .fieldLink RX2 11 "JumpHill$Rules" "numbers" "[I", .methodLink RX2 27 yX2_isLetter] ++ wsX40 ++ wsX30 ++ wsX20)
def wsX4_isTeam : List Cond := .code yX4_isTeam cX4_isTeam 2 (some .boolean) :: ([])
def wsX4_jumper : List Cond := .code yX4_jumper cX4_jumper 3 (some .int) :: ([.fieldLink RX4 71 "JumpHill" "jumpers" "I", .fieldLink RX4 30 "JumpHill" "teams" "[I", .methodLink RX4 68 yX4_isTeam, .instanceMethod yX4_isTeam, .selects RX4 yX4_isTeam yX4_isTeam, .initialized RX4, .code yX4_isTeam cX4_isTeam 2 (some .boolean)] ++ wsX40)
def wsX4_isSensor : List Cond := .code yX4_isSensor cX4_isSensor 2 (some .boolean) :: ([])
def wsX4_sensor : List Cond := .code yX4_sensor cX4_sensor 3 (some .boolean) :: ([.fieldLink RX4 16 "JumpHill" "scorer" "LJumpHill$Scorer;", .methodLink RX4 74 yX4_isSensor, .instanceMethod yX4_isSensor, .selects RX4 yX4_isSensor yX4_isSensor, .initialized RX4, .code yX4_isSensor cX4_isSensor 2 (some .boolean)] ++ wsX40 ++ wsX30)
def wsX4_isGate : List Cond := .code yX4_isGate cX4_isGate 2 (some .boolean) :: ([])
def wsX4_base : List Cond := .code yX4_base cX4_base 2 (some .boolean) :: ([.fieldLink RX4 16 "JumpHill" "scorer" "LJumpHill$Scorer;", .methodLink RX4 80 yX4_isGate, .instanceMethod yX4_isGate, .selects RX4 yX4_isGate yX4_isGate, .initialized RX4, .code yX4_isGate cX4_isGate 2 (some .boolean)] ++ wsX40 ++ wsX30)
def wsX4_isJumper : List Cond := .code yX4_isJumper cX4_isJumper 2 (some .boolean) :: ([.fieldLink RX4 71 "JumpHill" "jumpers" "I"] ++ wsX40)
def wsX4_isRound : List Cond := .code yX4_isRound cX4_isRound 2 (some .boolean) :: ([])
def wsX4_jumpOf : List Cond := .code yX4_jumpOf cX4_jumpOf 2 (some .int) :: ([])
def wsX4_reading_r1 : List Cond := [Cond.fieldLink RX4 16 "JumpHill" "scorer" "LJumpHill$Scorer;", Cond.methodLink RX4 86 yX4_isJumper, Cond.instanceMethod yX4_isJumper, Cond.selects RX4 yX4_isJumper yX4_isJumper, Cond.initialized RX4, Cond.code yX4_isJumper cX4_isJumper 2 (some .boolean), Cond.fieldLink RX4 71 "JumpHill" "jumpers" "I", Cond.methodLink RX4 89 yX4_isRound, Cond.instanceMethod yX4_isRound, Cond.selects RX4 yX4_isRound yX4_isRound, Cond.code yX4_isRound cX4_isRound 2 (some .boolean), Cond.methodLink RX4 80 yX4_isGate, Cond.instanceMethod yX4_isGate, Cond.selects RX4 yX4_isGate yX4_isGate, Cond.code yX4_isGate cX4_isGate 2 (some .boolean), Cond.methodLink RX4 98 yX4_jumpOf, Cond.static yX4_jumpOf, Cond.code yX4_jumpOf cX4_jumpOf 2 (some .int), Cond.instanceMethod yX1_add, Cond.initialized RX1, Cond.selects RX1 yX1_add yX1_add, Cond.code yX1_add cX1_add 10 (some .int), Cond.fieldLink RX1 21 "JumpHill$Entries" "told" "I", Cond.fieldLink RX1 9 "JumpHill$Entries" "sorts" "[I"]
def wsX4_reading_r2 : List Cond := [Cond.fieldLink RX1 15 "JumpHill$Entries" "jumps" "[I", Cond.fieldLink RX1 18 "JumpHill$Entries" "values" "[I"]
def wsX4_reading : List Cond := .code yX4_reading cX4_reading 6 (some .int) :: ((wsX4_reading_r1 ++ wsX4_reading_r2) ++ wsX40 ++ wsX30 ++ wsX10)
def wsX4_isWind : List Cond := .code yX4_isWind cX4_isWind 2 (some .boolean) :: ([])
def wsX4_addToJump : List Cond := .code yX4_addToJump cX4_addToJump 10 (some .int) :: ([.fieldLink RX4 16 "JumpHill" "scorer" "LJumpHill$Scorer;", .methodLink RX4 86 yX4_isJumper, .instanceMethod yX4_isJumper, .selects RX4 yX4_isJumper yX4_isJumper, .initialized RX4, .code yX4_isJumper cX4_isJumper 2 (some .boolean), .fieldLink RX4 71 "JumpHill" "jumpers" "I", .methodLink RX4 98 yX4_jumpOf, .static yX4_jumpOf, .code yX4_jumpOf cX4_jumpOf 2 (some .int), .instanceMethod yX1_add, .initialized RX1, .selects RX1 yX1_add yX1_add, .code yX1_add cX1_add 10 (some .int), .fieldLink RX1 21 "JumpHill$Entries" "told" "I", .fieldLink RX1 9 "JumpHill$Entries" "sorts" "[I", .fieldLink RX1 15 "JumpHill$Entries" "jumps" "[I", .fieldLink RX1 18 "JumpHill$Entries" "values" "[I"] ++ wsX40 ++ wsX30 ++ wsX10)
def wsX4_wind_r1 : List Cond := [Cond.methodLink RX4 106 yX4_isWind, Cond.instanceMethod yX4_isWind, Cond.selects RX4 yX4_isWind yX4_isWind, Cond.initialized RX4, Cond.code yX4_isWind cX4_isWind 2 (some .boolean), Cond.methodLink RX4 109 yX4_addToJump, Cond.instanceMethod yX4_addToJump, Cond.selects RX4 yX4_addToJump yX4_addToJump, Cond.code yX4_addToJump cX4_addToJump 10 (some .int), Cond.fieldLink RX4 16 "JumpHill" "scorer" "LJumpHill$Scorer;", Cond.methodLink RX4 86 yX4_isJumper, Cond.instanceMethod yX4_isJumper, Cond.selects RX4 yX4_isJumper yX4_isJumper, Cond.code yX4_isJumper cX4_isJumper 2 (some .boolean), Cond.fieldLink RX4 71 "JumpHill" "jumpers" "I", Cond.methodLink RX4 98 yX4_jumpOf, Cond.static yX4_jumpOf, Cond.code yX4_jumpOf cX4_jumpOf 2 (some .int), Cond.instanceMethod yX1_add, Cond.initialized RX1, Cond.selects RX1 yX1_add yX1_add, Cond.code yX1_add cX1_add 10 (some .int), Cond.fieldLink RX1 21 "JumpHill$Entries" "told" "I", Cond.fieldLink RX1 9 "JumpHill$Entries" "sorts" "[I"]
def wsX4_wind_r2 : List Cond := [Cond.fieldLink RX1 15 "JumpHill$Entries" "jumps" "[I", Cond.fieldLink RX1 18 "JumpHill$Entries" "values" "[I"]
def wsX4_wind : List Cond := .code yX4_wind cX4_wind 7 (some .int) :: ((wsX4_wind_r1 ++ wsX4_wind_r2) ++ wsX40 ++ wsX30 ++ wsX10)
def wsX4_isMark : List Cond := .code yX4_isMark cX4_isMark 2 (some .boolean) :: ([])
def wsX4_style_r1 : List Cond := [Cond.methodLink RX4 112 yX4_isMark, Cond.instanceMethod yX4_isMark, Cond.selects RX4 yX4_isMark yX4_isMark, Cond.initialized RX4, Cond.code yX4_isMark cX4_isMark 2 (some .boolean), Cond.methodLink RX4 109 yX4_addToJump, Cond.instanceMethod yX4_addToJump, Cond.selects RX4 yX4_addToJump yX4_addToJump, Cond.code yX4_addToJump cX4_addToJump 10 (some .int), Cond.fieldLink RX4 16 "JumpHill" "scorer" "LJumpHill$Scorer;", Cond.methodLink RX4 86 yX4_isJumper, Cond.instanceMethod yX4_isJumper, Cond.selects RX4 yX4_isJumper yX4_isJumper, Cond.code yX4_isJumper cX4_isJumper 2 (some .boolean), Cond.fieldLink RX4 71 "JumpHill" "jumpers" "I", Cond.methodLink RX4 98 yX4_jumpOf, Cond.static yX4_jumpOf, Cond.code yX4_jumpOf cX4_jumpOf 2 (some .int), Cond.instanceMethod yX1_add, Cond.initialized RX1, Cond.selects RX1 yX1_add yX1_add, Cond.code yX1_add cX1_add 10 (some .int), Cond.fieldLink RX1 21 "JumpHill$Entries" "told" "I", Cond.fieldLink RX1 9 "JumpHill$Entries" "sorts" "[I"]
def wsX4_style_r2 : List Cond := [Cond.fieldLink RX1 15 "JumpHill$Entries" "jumps" "[I", Cond.fieldLink RX1 18 "JumpHill$Entries" "values" "[I"]
def wsX4_style : List Cond := .code yX4_style cX4_style 7 (some .int) :: ((wsX4_style_r1 ++ wsX4_style_r2) ++ wsX40 ++ wsX30 ++ wsX10)
def wsX4_strike_r1 : List Cond := [Cond.fieldLink RX4 16 "JumpHill" "scorer" "LJumpHill$Scorer;", Cond.methodLink RX4 86 yX4_isJumper, Cond.instanceMethod yX4_isJumper, Cond.selects RX4 yX4_isJumper yX4_isJumper, Cond.initialized RX4, Cond.code yX4_isJumper cX4_isJumper 2 (some .boolean), Cond.fieldLink RX4 71 "JumpHill" "jumpers" "I", Cond.methodLink RX4 89 yX4_isRound, Cond.instanceMethod yX4_isRound, Cond.selects RX4 yX4_isRound yX4_isRound, Cond.code yX4_isRound cX4_isRound 2 (some .boolean), Cond.methodLink RX4 98 yX4_jumpOf, Cond.static yX4_jumpOf, Cond.code yX4_jumpOf cX4_jumpOf 2 (some .int), Cond.instanceMethod yX3_know, Cond.initialized RX3, Cond.selects RX3 yX3_know yX3_know, Cond.code yX3_know cX3_know 4 none, Cond.fieldLink RX3 33 "JumpHill$Scorer" "counting" "[I", Cond.fieldLink RX3 21 "JumpHill$Scorer" "entries" "LJumpHill$Entries;", Cond.methodLink RX3 36 yJ7_fill_53178, Cond.static yJ7_fill_53178, Cond.initialized RJ7, Cond.code yJ7_fill_53178 cJ7_fill_53178 4 none]
def wsX4_strike_r2 : List Cond := [Cond.instanceMethod yX3_isStruck, Cond.selects RX3 yX3_isStruck yX3_isStruck, Cond.code yX3_isStruck cX3_isStruck 3 (some .boolean), Cond.methodLink RX3 48 yX3_countingOf, Cond.instanceMethod yX3_countingOf, Cond.selects RX3 yX3_countingOf yX3_countingOf, Cond.code yX3_countingOf cX3_countingOf 4 (some .int), Cond.instanceMethod yX1_value, Cond.initialized RX1, Cond.selects RX1 yX1_value yX1_value, Cond.code yX1_value cX1_value 4 (some .int), Cond.fieldLink RX1 18 "JumpHill$Entries" "values" "[I", Cond.instanceMethod yX1_add, Cond.selects RX1 yX1_add yX1_add, Cond.code yX1_add cX1_add 10 (some .int), Cond.fieldLink RX1 21 "JumpHill$Entries" "told" "I", Cond.fieldLink RX1 9 "JumpHill$Entries" "sorts" "[I", Cond.fieldLink RX1 15 "JumpHill$Entries" "jumps" "[I"]
def wsX4_strike : List Cond := .code yX4_strike cX4_strike 5 (some .int) :: ((wsX4_strike_r1 ++ wsX4_strike_r2) ++ wsX40 ++ wsX30 ++ wsX10)
def wsX4_isKnowing : List Cond := .code yX4_isKnowing cX4_isKnowing 2 (some .boolean) :: ([.fieldLink RX4 16 "JumpHill" "scorer" "LJumpHill$Scorer;"] ++ wsX40 ++ wsX30 ++ wsX10)
def wsX4_partOfPoints : List Cond := .code yX4_partOfPoints cX4_partOfPoints 2 (some .int) :: ([.fieldLink RX4 16 "JumpHill" "scorer" "LJumpHill$Scorer;", .instanceMethod yX3_sum, .initialized RX3, .selects RX3 yX3_sum yX3_sum, .code yX3_sum cX3_sum 1 (some .int), .fieldLink RX3 72 "JumpHill$Scorer" "length" "I", .fieldLink RX3 78 "JumpHill$Scorer" "style" "I", .fieldLink RX3 84 "JumpHill$Scorer" "gate" "I", .fieldLink RX3 90 "JumpHill$Scorer" "wind" "I", .methodLink RX3 93 Lib.Math.max.name, .static Lib.Math.max.name, .initialized "java/lang/Math", .code Lib.Math.max.name Lib.Math.max.code 2 (some .int), .instanceMethod yX3_worthOf, .selects RX3 yX3_worthOf yX3_worthOf, .code yX3_worthOf cX3_worthOf 2 (some .int), .methodLink RX3 98 yX3_sum] ++ wsX40 ++ wsX30)
def wsX4_points_r1 : List Cond := [Cond.fieldLink RX4 16 "JumpHill" "scorer" "LJumpHill$Scorer;", Cond.methodLink RX4 124 yX4_isKnowing, Cond.instanceMethod yX4_isKnowing, Cond.selects RX4 yX4_isKnowing yX4_isKnowing, Cond.initialized RX4, Cond.code yX4_isKnowing cX4_isKnowing 2 (some .boolean), Cond.methodLink RX4 86 yX4_isJumper, Cond.instanceMethod yX4_isJumper, Cond.selects RX4 yX4_isJumper yX4_isJumper, Cond.code yX4_isJumper cX4_isJumper 2 (some .boolean), Cond.fieldLink RX4 71 "JumpHill" "jumpers" "I", Cond.methodLink RX4 89 yX4_isRound, Cond.instanceMethod yX4_isRound, Cond.selects RX4 yX4_isRound yX4_isRound, Cond.code yX4_isRound cX4_isRound 2 (some .boolean), Cond.instanceMethod yX3_know, Cond.initialized RX3, Cond.selects RX3 yX3_know yX3_know, Cond.code yX3_know cX3_know 4 none, Cond.fieldLink RX3 33 "JumpHill$Scorer" "counting" "[I", Cond.fieldLink RX3 21 "JumpHill$Scorer" "entries" "LJumpHill$Entries;", Cond.methodLink RX3 36 yJ7_fill_53178, Cond.static yJ7_fill_53178, Cond.initialized RJ7]
def wsX4_points_r2 : List Cond := [Cond.code yJ7_fill_53178 cJ7_fill_53178 4 none, Cond.methodLink RX4 98 yX4_jumpOf, Cond.static yX4_jumpOf, Cond.code yX4_jumpOf cX4_jumpOf 2 (some .int), Cond.instanceMethod yX3_measure, Cond.selects RX3 yX3_measure yX3_measure, Cond.code yX3_measure cX3_measure 3 (some .boolean), Cond.fieldLink RX3 63 "JumpHill$Scorer" "mean" "I", Cond.fieldLink RX3 12 "JumpHill$Scorer" "rules" "LJumpHill$Rules;", Cond.fieldLink RX3 72 "JumpHill$Scorer" "length" "I", Cond.fieldLink RX3 78 "JumpHill$Scorer" "style" "I", Cond.fieldLink RX3 84 "JumpHill$Scorer" "gate" "I", Cond.fieldLink RX3 90 "JumpHill$Scorer" "wind" "I", Cond.methodLink RX3 48 yX3_countingOf, Cond.instanceMethod yX3_countingOf, Cond.selects RX3 yX3_countingOf yX3_countingOf, Cond.code yX3_countingOf cX3_countingOf 4 (some .int), Cond.methodLink RX3 59 yX3_meanOf, Cond.instanceMethod yX3_meanOf, Cond.selects RX3 yX3_meanOf yX3_meanOf, Cond.code yX3_meanOf cX3_meanOf 6 (some .int), Cond.fieldLink RX3 25 "JumpHill$Scorer" "weights" "[I", Cond.instanceMethod yX1_value, Cond.initialized RX1]
def wsX4_points_r3 : List Cond := [Cond.selects RX1 yX1_value yX1_value, Cond.code yX1_value cX1_value 4 (some .int), Cond.fieldLink RX1 18 "JumpHill$Entries" "values" "[I", Cond.methodLink RX3 87 yX3_rounded, Cond.static yX3_rounded, Cond.code yX3_rounded cX3_rounded 3 (some .int), Cond.methodLink RX3 105 Lib.Math.abs.name, Cond.static Lib.Math.abs.name, Cond.initialized "java/lang/Math", Cond.code Lib.Math.abs.name Lib.Math.abs.code 1 (some .int), Cond.methodLink RX3 66 yX3_hasPoints, Cond.instanceMethod yX3_hasPoints, Cond.selects RX3 yX3_hasPoints yX3_hasPoints, Cond.code yX3_hasPoints cX3_hasPoints 2 (some .boolean), Cond.methodLink RX3 55 yX3_isStruck, Cond.instanceMethod yX3_isStruck, Cond.selects RX3 yX3_isStruck yX3_isStruck, Cond.code yX3_isStruck cX3_isStruck 3 (some .boolean), Cond.instanceMethod yX2_number, Cond.initialized RX2, Cond.selects RX2 yX2_number yX2_number, Cond.code yX2_number cX2_number 2 (some .int), Cond.fieldLink RX2 11 "JumpHill$Rules" "numbers" "[I", Cond.methodLink RX2 27 yX2_isLetter]
def wsX4_points_r4 : List Cond := [Cond.static yX2_isLetter, Cond.code yX2_isLetter cX2_isLetter 1 (some .boolean), Cond.methodLink RX3 75 yX3_styleOf, Cond.instanceMethod yX3_styleOf, Cond.selects RX3 yX3_styleOf yX3_styleOf, Cond.code yX3_styleOf cX3_styleOf 7 (some .int), Cond.methodLink RX3 102 Lib.Math.min.name, Cond.static Lib.Math.min.name, Cond.code Lib.Math.min.name Lib.Math.min.code 2 (some .int), Cond.methodLink RX3 93 Lib.Math.max.name, Cond.static Lib.Math.max.name, Cond.code Lib.Math.max.name Lib.Math.max.code 2 (some .int), Cond.methodLink RX3 81 yX3_gateOf, Cond.instanceMethod yX3_gateOf, Cond.selects RX3 yX3_gateOf yX3_gateOf, Cond.code yX3_gateOf cX3_gateOf 3 (some .int), Cond.fieldLink RX3 29 "JumpHill$Scorer" "base" "I", Cond.methodLink RX4 133 yX4_partOfPoints, Cond.instanceMethod yX4_partOfPoints, Cond.selects RX4 yX4_partOfPoints yX4_partOfPoints, Cond.code yX4_partOfPoints cX4_partOfPoints 2 (some .int), Cond.instanceMethod yX3_sum, Cond.selects RX3 yX3_sum yX3_sum, Cond.code yX3_sum cX3_sum 1 (some .int)]
def wsX4_points_r5 : List Cond := [Cond.instanceMethod yX3_worthOf, Cond.selects RX3 yX3_worthOf yX3_worthOf, Cond.code yX3_worthOf cX3_worthOf 2 (some .int), Cond.methodLink RX3 98 yX3_sum]
def wsX4_points : List Cond := .code yX4_points cX4_points 6 (some .int) :: ((wsX4_points_r1 ++ (wsX4_points_r2 ++ (wsX4_points_r3 ++ (wsX4_points_r4 ++ wsX4_points_r5)))) ++ wsX40 ++ wsX30 ++ wsX10 ++ wsX20)
def wsX4_told_r1 : List Cond := [Cond.fieldLink RX4 30 "JumpHill" "teams" "[I", Cond.fieldLink RX4 33 "JumpHill" "season" "[I", Cond.fieldLink RX4 23 "JumpHill" "board" "LJumpHill$Board;", Cond.fieldLink RX4 16 "JumpHill" "scorer" "LJumpHill$Scorer;", Cond.fieldLink RX4 71 "JumpHill" "jumpers" "I", Cond.methodLink RX4 86 yX4_isJumper, Cond.instanceMethod yX4_isJumper, Cond.selects RX4 yX4_isJumper yX4_isJumper, Cond.initialized RX4, Cond.code yX4_isJumper cX4_isJumper 2 (some .boolean), Cond.methodLink RX4 124 yX4_isKnowing, Cond.instanceMethod yX4_isKnowing, Cond.selects RX4 yX4_isKnowing yX4_isKnowing, Cond.code yX4_isKnowing cX4_isKnowing 2 (some .boolean), Cond.instanceMethod yX0_draw, Cond.initialized RX0, Cond.selects RX0 yX0_draw yX0_draw, Cond.code yX0_draw cX0_draw 6 none, Cond.fieldLink RX0 34 "JumpHill$Board" "listed" "I", Cond.fieldLink RX0 38 "JumpHill$Board" "passed" "I", Cond.fieldLink RX0 9 "JumpHill$Board" "first" "[I", Cond.fieldLink RX0 15 "JumpHill$Board" "through" "[Z", Cond.fieldLink RX0 19 "JumpHill$Board" "totals" "[I", Cond.instanceMethod yX3_know]
def wsX4_told_r2 : List Cond := [Cond.initialized RX3, Cond.selects RX3 yX3_know yX3_know, Cond.code yX3_know cX3_know 4 none, Cond.fieldLink RX3 33 "JumpHill$Scorer" "counting" "[I", Cond.fieldLink RX3 21 "JumpHill$Scorer" "entries" "LJumpHill$Entries;", Cond.methodLink RX3 36 yJ7_fill_53178, Cond.static yJ7_fill_53178, Cond.initialized RJ7, Cond.code yJ7_fill_53178 cJ7_fill_53178 4 none, Cond.instanceMethod yX3_measure, Cond.selects RX3 yX3_measure yX3_measure, Cond.code yX3_measure cX3_measure 3 (some .boolean), Cond.fieldLink RX3 63 "JumpHill$Scorer" "mean" "I", Cond.fieldLink RX3 12 "JumpHill$Scorer" "rules" "LJumpHill$Rules;", Cond.fieldLink RX3 72 "JumpHill$Scorer" "length" "I", Cond.fieldLink RX3 78 "JumpHill$Scorer" "style" "I", Cond.fieldLink RX3 84 "JumpHill$Scorer" "gate" "I", Cond.fieldLink RX3 90 "JumpHill$Scorer" "wind" "I", Cond.methodLink RX3 48 yX3_countingOf, Cond.instanceMethod yX3_countingOf, Cond.selects RX3 yX3_countingOf yX3_countingOf, Cond.code yX3_countingOf cX3_countingOf 4 (some .int), Cond.methodLink RX3 59 yX3_meanOf, Cond.instanceMethod yX3_meanOf]
def wsX4_told_r3 : List Cond := [Cond.selects RX3 yX3_meanOf yX3_meanOf, Cond.code yX3_meanOf cX3_meanOf 6 (some .int), Cond.fieldLink RX3 25 "JumpHill$Scorer" "weights" "[I", Cond.instanceMethod yX1_value, Cond.initialized RX1, Cond.selects RX1 yX1_value yX1_value, Cond.code yX1_value cX1_value 4 (some .int), Cond.fieldLink RX1 18 "JumpHill$Entries" "values" "[I", Cond.methodLink RX3 87 yX3_rounded, Cond.static yX3_rounded, Cond.code yX3_rounded cX3_rounded 3 (some .int), Cond.methodLink RX3 105 Lib.Math.abs.name, Cond.static Lib.Math.abs.name, Cond.initialized "java/lang/Math", Cond.code Lib.Math.abs.name Lib.Math.abs.code 1 (some .int), Cond.methodLink RX3 66 yX3_hasPoints, Cond.instanceMethod yX3_hasPoints, Cond.selects RX3 yX3_hasPoints yX3_hasPoints, Cond.code yX3_hasPoints cX3_hasPoints 2 (some .boolean), Cond.methodLink RX3 55 yX3_isStruck, Cond.instanceMethod yX3_isStruck, Cond.selects RX3 yX3_isStruck yX3_isStruck, Cond.code yX3_isStruck cX3_isStruck 3 (some .boolean), Cond.instanceMethod yX2_number]
def wsX4_told_r4 : List Cond := [Cond.initialized RX2, Cond.selects RX2 yX2_number yX2_number, Cond.code yX2_number cX2_number 2 (some .int), Cond.fieldLink RX2 11 "JumpHill$Rules" "numbers" "[I", Cond.methodLink RX2 27 yX2_isLetter, Cond.static yX2_isLetter, Cond.code yX2_isLetter cX2_isLetter 1 (some .boolean), Cond.methodLink RX3 75 yX3_styleOf, Cond.instanceMethod yX3_styleOf, Cond.selects RX3 yX3_styleOf yX3_styleOf, Cond.code yX3_styleOf cX3_styleOf 7 (some .int), Cond.methodLink RX3 102 Lib.Math.min.name, Cond.static Lib.Math.min.name, Cond.code Lib.Math.min.name Lib.Math.min.code 2 (some .int), Cond.methodLink RX3 93 Lib.Math.max.name, Cond.static Lib.Math.max.name, Cond.code Lib.Math.max.name Lib.Math.max.code 2 (some .int), Cond.methodLink RX3 81 yX3_gateOf, Cond.instanceMethod yX3_gateOf, Cond.selects RX3 yX3_gateOf yX3_gateOf, Cond.code yX3_gateOf cX3_gateOf 3 (some .int), Cond.fieldLink RX3 29 "JumpHill$Scorer" "base" "I", Cond.instanceMethod yX3_sum, Cond.selects RX3 yX3_sum yX3_sum]
def wsX4_told_r5 : List Cond := [Cond.code yX3_sum cX3_sum 1 (some .int), Cond.methodLink RX0 53 yX0_aheadInRoundZero, Cond.instanceMethod yX0_aheadInRoundZero, Cond.selects RX0 yX0_aheadInRoundZero yX0_aheadInRoundZero, Cond.code yX0_aheadInRoundZero cX0_aheadInRoundZero 7 (some .int), Cond.methodLink RX0 63 yX0_placeOnList, Cond.instanceMethod yX0_placeOnList, Cond.selects RX0 yX0_placeOnList yX0_placeOnList, Cond.code yX0_placeOnList cX0_placeOnList 5 none, Cond.fieldLink RX0 22 "JumpHill$Board" "places" "[I", Cond.fieldLink RX0 25 "JumpHill$Board" "order" "[I", Cond.methodLink RX0 66 yX0_isBetter, Cond.instanceMethod yX0_isBetter, Cond.selects RX0 yX0_isBetter yX0_isBetter, Cond.code yX0_isBetter cX0_isBetter 3 (some .boolean), Cond.instanceMethod yX0_isThrough, Cond.selects RX0 yX0_isThrough yX0_isThrough, Cond.code yX0_isThrough cX0_isThrough 2 (some .boolean), Cond.instanceMethod yX0_isListed, Cond.selects RX0 yX0_isListed yX0_isListed, Cond.code yX0_isListed cX0_isListed 2 (some .boolean), Cond.methodLink RX0 70 yX0_placeOf, Cond.instanceMethod yX0_placeOf, Cond.selects RX0 yX0_placeOf yX0_placeOf]
def wsX4_told_r6 : List Cond := [Cond.code yX0_placeOf cX0_placeOf 2 (some .int), Cond.instanceMethod yX0_totalOf, Cond.selects RX0 yX0_totalOf yX0_totalOf, Cond.code yX0_totalOf cX0_totalOf 2 (some .int)]
def wsX4_told : List Cond := .code yX4_told cX4_told 4 (some .int) :: ((wsX4_told_r1 ++ (wsX4_told_r2 ++ (wsX4_told_r3 ++ (wsX4_told_r4 ++ (wsX4_told_r5 ++ wsX4_told_r6))))) ++ wsX40 ++ wsX30 ++ wsX10 ++ wsX00 ++ wsX20)
def wsX4_list_r1 : List Cond := [Cond.fieldLink RX4 23 "JumpHill" "board" "LJumpHill$Board;", Cond.fieldLink RX4 16 "JumpHill" "scorer" "LJumpHill$Scorer;", Cond.fieldLink RX4 71 "JumpHill" "jumpers" "I", Cond.methodLink RX4 124 yX4_isKnowing, Cond.instanceMethod yX4_isKnowing, Cond.selects RX4 yX4_isKnowing yX4_isKnowing, Cond.initialized RX4, Cond.code yX4_isKnowing cX4_isKnowing 2 (some .boolean), Cond.instanceMethod yX0_draw, Cond.initialized RX0, Cond.selects RX0 yX0_draw yX0_draw, Cond.code yX0_draw cX0_draw 6 none, Cond.fieldLink RX0 34 "JumpHill$Board" "listed" "I", Cond.fieldLink RX0 38 "JumpHill$Board" "passed" "I", Cond.fieldLink RX0 9 "JumpHill$Board" "first" "[I", Cond.fieldLink RX0 15 "JumpHill$Board" "through" "[Z", Cond.fieldLink RX0 19 "JumpHill$Board" "totals" "[I", Cond.instanceMethod yX3_know, Cond.initialized RX3, Cond.selects RX3 yX3_know yX3_know, Cond.code yX3_know cX3_know 4 none, Cond.fieldLink RX3 33 "JumpHill$Scorer" "counting" "[I", Cond.fieldLink RX3 21 "JumpHill$Scorer" "entries" "LJumpHill$Entries;", Cond.methodLink RX3 36 yJ7_fill_53178]
def wsX4_list_r2 : List Cond := [Cond.static yJ7_fill_53178, Cond.initialized RJ7, Cond.code yJ7_fill_53178 cJ7_fill_53178 4 none, Cond.instanceMethod yX3_measure, Cond.selects RX3 yX3_measure yX3_measure, Cond.code yX3_measure cX3_measure 3 (some .boolean), Cond.fieldLink RX3 63 "JumpHill$Scorer" "mean" "I", Cond.fieldLink RX3 12 "JumpHill$Scorer" "rules" "LJumpHill$Rules;", Cond.fieldLink RX3 72 "JumpHill$Scorer" "length" "I", Cond.fieldLink RX3 78 "JumpHill$Scorer" "style" "I", Cond.fieldLink RX3 84 "JumpHill$Scorer" "gate" "I", Cond.fieldLink RX3 90 "JumpHill$Scorer" "wind" "I", Cond.methodLink RX3 48 yX3_countingOf, Cond.instanceMethod yX3_countingOf, Cond.selects RX3 yX3_countingOf yX3_countingOf, Cond.code yX3_countingOf cX3_countingOf 4 (some .int), Cond.methodLink RX3 59 yX3_meanOf, Cond.instanceMethod yX3_meanOf, Cond.selects RX3 yX3_meanOf yX3_meanOf, Cond.code yX3_meanOf cX3_meanOf 6 (some .int), Cond.fieldLink RX3 25 "JumpHill$Scorer" "weights" "[I", Cond.instanceMethod yX1_value, Cond.initialized RX1, Cond.selects RX1 yX1_value yX1_value]
def wsX4_list_r3 : List Cond := [Cond.code yX1_value cX1_value 4 (some .int), Cond.fieldLink RX1 18 "JumpHill$Entries" "values" "[I", Cond.methodLink RX3 87 yX3_rounded, Cond.static yX3_rounded, Cond.code yX3_rounded cX3_rounded 3 (some .int), Cond.methodLink RX3 105 Lib.Math.abs.name, Cond.static Lib.Math.abs.name, Cond.initialized "java/lang/Math", Cond.code Lib.Math.abs.name Lib.Math.abs.code 1 (some .int), Cond.methodLink RX3 66 yX3_hasPoints, Cond.instanceMethod yX3_hasPoints, Cond.selects RX3 yX3_hasPoints yX3_hasPoints, Cond.code yX3_hasPoints cX3_hasPoints 2 (some .boolean), Cond.methodLink RX3 55 yX3_isStruck, Cond.instanceMethod yX3_isStruck, Cond.selects RX3 yX3_isStruck yX3_isStruck, Cond.code yX3_isStruck cX3_isStruck 3 (some .boolean), Cond.instanceMethod yX2_number, Cond.initialized RX2, Cond.selects RX2 yX2_number yX2_number, Cond.code yX2_number cX2_number 2 (some .int), Cond.fieldLink RX2 11 "JumpHill$Rules" "numbers" "[I", Cond.methodLink RX2 27 yX2_isLetter, Cond.static yX2_isLetter]
def wsX4_list_r4 : List Cond := [Cond.code yX2_isLetter cX2_isLetter 1 (some .boolean), Cond.methodLink RX3 75 yX3_styleOf, Cond.instanceMethod yX3_styleOf, Cond.selects RX3 yX3_styleOf yX3_styleOf, Cond.code yX3_styleOf cX3_styleOf 7 (some .int), Cond.methodLink RX3 102 Lib.Math.min.name, Cond.static Lib.Math.min.name, Cond.code Lib.Math.min.name Lib.Math.min.code 2 (some .int), Cond.methodLink RX3 93 Lib.Math.max.name, Cond.static Lib.Math.max.name, Cond.code Lib.Math.max.name Lib.Math.max.code 2 (some .int), Cond.methodLink RX3 81 yX3_gateOf, Cond.instanceMethod yX3_gateOf, Cond.selects RX3 yX3_gateOf yX3_gateOf, Cond.code yX3_gateOf cX3_gateOf 3 (some .int), Cond.fieldLink RX3 29 "JumpHill$Scorer" "base" "I", Cond.instanceMethod yX3_sum, Cond.selects RX3 yX3_sum yX3_sum, Cond.code yX3_sum cX3_sum 1 (some .int), Cond.methodLink RX0 53 yX0_aheadInRoundZero, Cond.instanceMethod yX0_aheadInRoundZero, Cond.selects RX0 yX0_aheadInRoundZero yX0_aheadInRoundZero, Cond.code yX0_aheadInRoundZero cX0_aheadInRoundZero 7 (some .int), Cond.methodLink RX0 63 yX0_placeOnList]
def wsX4_list_r5 : List Cond := [Cond.instanceMethod yX0_placeOnList, Cond.selects RX0 yX0_placeOnList yX0_placeOnList, Cond.code yX0_placeOnList cX0_placeOnList 5 none, Cond.fieldLink RX0 22 "JumpHill$Board" "places" "[I", Cond.fieldLink RX0 25 "JumpHill$Board" "order" "[I", Cond.methodLink RX0 66 yX0_isBetter, Cond.instanceMethod yX0_isBetter, Cond.selects RX0 yX0_isBetter yX0_isBetter, Cond.code yX0_isBetter cX0_isBetter 3 (some .boolean), Cond.instanceMethod yX0_isPosition, Cond.selects RX0 yX0_isPosition yX0_isPosition, Cond.code yX0_isPosition cX0_isPosition 2 (some .boolean), Cond.instanceMethod yX0_jumperAt, Cond.selects RX0 yX0_jumperAt yX0_jumperAt, Cond.code yX0_jumperAt cX0_jumperAt 2 (some .int)]
def wsX4_list : List Cond := .code yX4_list cX4_list 3 (some .int) :: ((wsX4_list_r1 ++ (wsX4_list_r2 ++ (wsX4_list_r3 ++ (wsX4_list_r4 ++ wsX4_list_r5)))) ++ wsX40 ++ wsX30 ++ wsX10 ++ wsX00 ++ wsX20)
def wsX4_start_r1 : List Cond := [Cond.fieldLink RX4 23 "JumpHill" "board" "LJumpHill$Board;", Cond.fieldLink RX4 16 "JumpHill" "scorer" "LJumpHill$Scorer;", Cond.fieldLink RX4 71 "JumpHill" "jumpers" "I", Cond.methodLink RX4 124 yX4_isKnowing, Cond.instanceMethod yX4_isKnowing, Cond.selects RX4 yX4_isKnowing yX4_isKnowing, Cond.initialized RX4, Cond.code yX4_isKnowing cX4_isKnowing 2 (some .boolean), Cond.methodLink RX4 89 yX4_isRound, Cond.instanceMethod yX4_isRound, Cond.selects RX4 yX4_isRound yX4_isRound, Cond.code yX4_isRound cX4_isRound 2 (some .boolean), Cond.methodLink RX4 86 yX4_isJumper, Cond.instanceMethod yX4_isJumper, Cond.selects RX4 yX4_isJumper yX4_isJumper, Cond.code yX4_isJumper cX4_isJumper 2 (some .boolean), Cond.instanceMethod yX0_draw, Cond.initialized RX0, Cond.selects RX0 yX0_draw yX0_draw, Cond.code yX0_draw cX0_draw 6 none, Cond.fieldLink RX0 34 "JumpHill$Board" "listed" "I", Cond.fieldLink RX0 38 "JumpHill$Board" "passed" "I", Cond.fieldLink RX0 9 "JumpHill$Board" "first" "[I", Cond.fieldLink RX0 15 "JumpHill$Board" "through" "[Z"]
def wsX4_start_r2 : List Cond := [Cond.fieldLink RX0 19 "JumpHill$Board" "totals" "[I", Cond.instanceMethod yX3_know, Cond.initialized RX3, Cond.selects RX3 yX3_know yX3_know, Cond.code yX3_know cX3_know 4 none, Cond.fieldLink RX3 33 "JumpHill$Scorer" "counting" "[I", Cond.fieldLink RX3 21 "JumpHill$Scorer" "entries" "LJumpHill$Entries;", Cond.methodLink RX3 36 yJ7_fill_53178, Cond.static yJ7_fill_53178, Cond.initialized RJ7, Cond.code yJ7_fill_53178 cJ7_fill_53178 4 none, Cond.instanceMethod yX3_measure, Cond.selects RX3 yX3_measure yX3_measure, Cond.code yX3_measure cX3_measure 3 (some .boolean), Cond.fieldLink RX3 63 "JumpHill$Scorer" "mean" "I", Cond.fieldLink RX3 12 "JumpHill$Scorer" "rules" "LJumpHill$Rules;", Cond.fieldLink RX3 72 "JumpHill$Scorer" "length" "I", Cond.fieldLink RX3 78 "JumpHill$Scorer" "style" "I", Cond.fieldLink RX3 84 "JumpHill$Scorer" "gate" "I", Cond.fieldLink RX3 90 "JumpHill$Scorer" "wind" "I", Cond.methodLink RX3 48 yX3_countingOf, Cond.instanceMethod yX3_countingOf, Cond.selects RX3 yX3_countingOf yX3_countingOf, Cond.code yX3_countingOf cX3_countingOf 4 (some .int)]
def wsX4_start_r3 : List Cond := [Cond.methodLink RX3 59 yX3_meanOf, Cond.instanceMethod yX3_meanOf, Cond.selects RX3 yX3_meanOf yX3_meanOf, Cond.code yX3_meanOf cX3_meanOf 6 (some .int), Cond.fieldLink RX3 25 "JumpHill$Scorer" "weights" "[I", Cond.instanceMethod yX1_value, Cond.initialized RX1, Cond.selects RX1 yX1_value yX1_value, Cond.code yX1_value cX1_value 4 (some .int), Cond.fieldLink RX1 18 "JumpHill$Entries" "values" "[I", Cond.methodLink RX3 87 yX3_rounded, Cond.static yX3_rounded, Cond.code yX3_rounded cX3_rounded 3 (some .int), Cond.methodLink RX3 105 Lib.Math.abs.name, Cond.static Lib.Math.abs.name, Cond.initialized "java/lang/Math", Cond.code Lib.Math.abs.name Lib.Math.abs.code 1 (some .int), Cond.methodLink RX3 66 yX3_hasPoints, Cond.instanceMethod yX3_hasPoints, Cond.selects RX3 yX3_hasPoints yX3_hasPoints, Cond.code yX3_hasPoints cX3_hasPoints 2 (some .boolean), Cond.methodLink RX3 55 yX3_isStruck, Cond.instanceMethod yX3_isStruck, Cond.selects RX3 yX3_isStruck yX3_isStruck]
def wsX4_start_r4 : List Cond := [Cond.code yX3_isStruck cX3_isStruck 3 (some .boolean), Cond.instanceMethod yX2_number, Cond.initialized RX2, Cond.selects RX2 yX2_number yX2_number, Cond.code yX2_number cX2_number 2 (some .int), Cond.fieldLink RX2 11 "JumpHill$Rules" "numbers" "[I", Cond.methodLink RX2 27 yX2_isLetter, Cond.static yX2_isLetter, Cond.code yX2_isLetter cX2_isLetter 1 (some .boolean), Cond.methodLink RX3 75 yX3_styleOf, Cond.instanceMethod yX3_styleOf, Cond.selects RX3 yX3_styleOf yX3_styleOf, Cond.code yX3_styleOf cX3_styleOf 7 (some .int), Cond.methodLink RX3 102 Lib.Math.min.name, Cond.static Lib.Math.min.name, Cond.code Lib.Math.min.name Lib.Math.min.code 2 (some .int), Cond.methodLink RX3 93 Lib.Math.max.name, Cond.static Lib.Math.max.name, Cond.code Lib.Math.max.name Lib.Math.max.code 2 (some .int), Cond.methodLink RX3 81 yX3_gateOf, Cond.instanceMethod yX3_gateOf, Cond.selects RX3 yX3_gateOf yX3_gateOf, Cond.code yX3_gateOf cX3_gateOf 3 (some .int), Cond.fieldLink RX3 29 "JumpHill$Scorer" "base" "I"]
def wsX4_start_r5 : List Cond := [Cond.instanceMethod yX3_sum, Cond.selects RX3 yX3_sum yX3_sum, Cond.code yX3_sum cX3_sum 1 (some .int), Cond.methodLink RX0 53 yX0_aheadInRoundZero, Cond.instanceMethod yX0_aheadInRoundZero, Cond.selects RX0 yX0_aheadInRoundZero yX0_aheadInRoundZero, Cond.code yX0_aheadInRoundZero cX0_aheadInRoundZero 7 (some .int), Cond.methodLink RX0 63 yX0_placeOnList, Cond.instanceMethod yX0_placeOnList, Cond.selects RX0 yX0_placeOnList yX0_placeOnList, Cond.code yX0_placeOnList cX0_placeOnList 5 none, Cond.fieldLink RX0 22 "JumpHill$Board" "places" "[I", Cond.fieldLink RX0 25 "JumpHill$Board" "order" "[I", Cond.methodLink RX0 66 yX0_isBetter, Cond.instanceMethod yX0_isBetter, Cond.selects RX0 yX0_isBetter yX0_isBetter, Cond.code yX0_isBetter cX0_isBetter 3 (some .boolean), Cond.instanceMethod yX0_starterAt, Cond.selects RX0 yX0_starterAt yX0_starterAt, Cond.code yX0_starterAt cX0_starterAt 3 (some .int), Cond.methodLink RX0 73 yX0_startersBefore, Cond.instanceMethod yX0_startersBefore, Cond.selects RX0 yX0_startersBefore yX0_startersBefore, Cond.code yX0_startersBefore cX0_startersBefore 5 (some .int)]
def wsX4_start : List Cond := .code yX4_start cX4_start 4 (some .int) :: ((wsX4_start_r1 ++ (wsX4_start_r2 ++ (wsX4_start_r3 ++ (wsX4_start_r4 ++ wsX4_start_r5)))) ++ wsX40 ++ wsX30 ++ wsX10 ++ wsX00 ++ wsX20)
def wsX4_teamTotal : List Cond := .code yX4_teamTotal cX4_teamTotal 6 (some .int) :: ([.fieldLink RX4 23 "JumpHill" "board" "LJumpHill$Board;", .fieldLink RX4 30 "JumpHill" "teams" "[I", .instanceMethod yX0_jumperAt, .initialized RX0, .selects RX0 yX0_jumperAt yX0_jumperAt, .code yX0_jumperAt cX0_jumperAt 2 (some .int), .fieldLink RX0 25 "JumpHill$Board" "order" "[I", .methodLink RX4 86 yX4_isJumper, .instanceMethod yX4_isJumper, .selects RX4 yX4_isJumper yX4_isJumper, .initialized RX4, .code yX4_isJumper cX4_isJumper 2 (some .boolean), .fieldLink RX4 71 "JumpHill" "jumpers" "I", .instanceMethod yX0_totalOf, .selects RX0 yX0_totalOf yX0_totalOf, .code yX0_totalOf cX0_totalOf 2 (some .int), .fieldLink RX0 19 "JumpHill$Board" "totals" "[I"] ++ wsX40 ++ wsX00)
def wsX4_team_r1 : List Cond := [Cond.fieldLink RX4 23 "JumpHill" "board" "LJumpHill$Board;", Cond.fieldLink RX4 16 "JumpHill" "scorer" "LJumpHill$Scorer;", Cond.fieldLink RX4 71 "JumpHill" "jumpers" "I", Cond.methodLink RX4 124 yX4_isKnowing, Cond.instanceMethod yX4_isKnowing, Cond.selects RX4 yX4_isKnowing yX4_isKnowing, Cond.initialized RX4, Cond.code yX4_isKnowing cX4_isKnowing 2 (some .boolean), Cond.methodLink RX4 68 yX4_isTeam, Cond.instanceMethod yX4_isTeam, Cond.selects RX4 yX4_isTeam yX4_isTeam, Cond.code yX4_isTeam cX4_isTeam 2 (some .boolean), Cond.instanceMethod yX0_draw, Cond.initialized RX0, Cond.selects RX0 yX0_draw yX0_draw, Cond.code yX0_draw cX0_draw 6 none, Cond.fieldLink RX0 34 "JumpHill$Board" "listed" "I", Cond.fieldLink RX0 38 "JumpHill$Board" "passed" "I", Cond.fieldLink RX0 9 "JumpHill$Board" "first" "[I", Cond.fieldLink RX0 15 "JumpHill$Board" "through" "[Z", Cond.fieldLink RX0 19 "JumpHill$Board" "totals" "[I", Cond.instanceMethod yX3_know, Cond.initialized RX3, Cond.selects RX3 yX3_know yX3_know]
def wsX4_team_r2 : List Cond := [Cond.code yX3_know cX3_know 4 none, Cond.fieldLink RX3 33 "JumpHill$Scorer" "counting" "[I", Cond.fieldLink RX3 21 "JumpHill$Scorer" "entries" "LJumpHill$Entries;", Cond.methodLink RX3 36 yJ7_fill_53178, Cond.static yJ7_fill_53178, Cond.initialized RJ7, Cond.code yJ7_fill_53178 cJ7_fill_53178 4 none, Cond.instanceMethod yX3_measure, Cond.selects RX3 yX3_measure yX3_measure, Cond.code yX3_measure cX3_measure 3 (some .boolean), Cond.fieldLink RX3 63 "JumpHill$Scorer" "mean" "I", Cond.fieldLink RX3 12 "JumpHill$Scorer" "rules" "LJumpHill$Rules;", Cond.fieldLink RX3 72 "JumpHill$Scorer" "length" "I", Cond.fieldLink RX3 78 "JumpHill$Scorer" "style" "I", Cond.fieldLink RX3 84 "JumpHill$Scorer" "gate" "I", Cond.fieldLink RX3 90 "JumpHill$Scorer" "wind" "I", Cond.methodLink RX3 48 yX3_countingOf, Cond.instanceMethod yX3_countingOf, Cond.selects RX3 yX3_countingOf yX3_countingOf, Cond.code yX3_countingOf cX3_countingOf 4 (some .int), Cond.methodLink RX3 59 yX3_meanOf, Cond.instanceMethod yX3_meanOf, Cond.selects RX3 yX3_meanOf yX3_meanOf, Cond.code yX3_meanOf cX3_meanOf 6 (some .int)]
def wsX4_team_r3 : List Cond := [Cond.fieldLink RX3 25 "JumpHill$Scorer" "weights" "[I", Cond.instanceMethod yX1_value, Cond.initialized RX1, Cond.selects RX1 yX1_value yX1_value, Cond.code yX1_value cX1_value 4 (some .int), Cond.fieldLink RX1 18 "JumpHill$Entries" "values" "[I", Cond.methodLink RX3 87 yX3_rounded, Cond.static yX3_rounded, Cond.code yX3_rounded cX3_rounded 3 (some .int), Cond.methodLink RX3 105 Lib.Math.abs.name, Cond.static Lib.Math.abs.name, Cond.initialized "java/lang/Math", Cond.code Lib.Math.abs.name Lib.Math.abs.code 1 (some .int), Cond.methodLink RX3 66 yX3_hasPoints, Cond.instanceMethod yX3_hasPoints, Cond.selects RX3 yX3_hasPoints yX3_hasPoints, Cond.code yX3_hasPoints cX3_hasPoints 2 (some .boolean), Cond.methodLink RX3 55 yX3_isStruck, Cond.instanceMethod yX3_isStruck, Cond.selects RX3 yX3_isStruck yX3_isStruck, Cond.code yX3_isStruck cX3_isStruck 3 (some .boolean), Cond.instanceMethod yX2_number, Cond.initialized RX2, Cond.selects RX2 yX2_number yX2_number]
def wsX4_team_r4 : List Cond := [Cond.code yX2_number cX2_number 2 (some .int), Cond.fieldLink RX2 11 "JumpHill$Rules" "numbers" "[I", Cond.methodLink RX2 27 yX2_isLetter, Cond.static yX2_isLetter, Cond.code yX2_isLetter cX2_isLetter 1 (some .boolean), Cond.methodLink RX3 75 yX3_styleOf, Cond.instanceMethod yX3_styleOf, Cond.selects RX3 yX3_styleOf yX3_styleOf, Cond.code yX3_styleOf cX3_styleOf 7 (some .int), Cond.methodLink RX3 102 Lib.Math.min.name, Cond.static Lib.Math.min.name, Cond.code Lib.Math.min.name Lib.Math.min.code 2 (some .int), Cond.methodLink RX3 93 Lib.Math.max.name, Cond.static Lib.Math.max.name, Cond.code Lib.Math.max.name Lib.Math.max.code 2 (some .int), Cond.methodLink RX3 81 yX3_gateOf, Cond.instanceMethod yX3_gateOf, Cond.selects RX3 yX3_gateOf yX3_gateOf, Cond.code yX3_gateOf cX3_gateOf 3 (some .int), Cond.fieldLink RX3 29 "JumpHill$Scorer" "base" "I", Cond.instanceMethod yX3_sum, Cond.selects RX3 yX3_sum yX3_sum, Cond.code yX3_sum cX3_sum 1 (some .int), Cond.methodLink RX0 53 yX0_aheadInRoundZero]
def wsX4_team_r5 : List Cond := [Cond.instanceMethod yX0_aheadInRoundZero, Cond.selects RX0 yX0_aheadInRoundZero yX0_aheadInRoundZero, Cond.code yX0_aheadInRoundZero cX0_aheadInRoundZero 7 (some .int), Cond.methodLink RX0 63 yX0_placeOnList, Cond.instanceMethod yX0_placeOnList, Cond.selects RX0 yX0_placeOnList yX0_placeOnList, Cond.code yX0_placeOnList cX0_placeOnList 5 none, Cond.fieldLink RX0 22 "JumpHill$Board" "places" "[I", Cond.fieldLink RX0 25 "JumpHill$Board" "order" "[I", Cond.methodLink RX0 66 yX0_isBetter, Cond.instanceMethod yX0_isBetter, Cond.selects RX0 yX0_isBetter yX0_isBetter, Cond.code yX0_isBetter cX0_isBetter 3 (some .boolean), Cond.methodLink RX4 161 yX4_teamTotal, Cond.instanceMethod yX4_teamTotal, Cond.selects RX4 yX4_teamTotal yX4_teamTotal, Cond.code yX4_teamTotal cX4_teamTotal 6 (some .int), Cond.fieldLink RX4 30 "JumpHill" "teams" "[I", Cond.instanceMethod yX0_jumperAt, Cond.selects RX0 yX0_jumperAt yX0_jumperAt, Cond.code yX0_jumperAt cX0_jumperAt 2 (some .int), Cond.methodLink RX4 86 yX4_isJumper, Cond.instanceMethod yX4_isJumper, Cond.selects RX4 yX4_isJumper yX4_isJumper]
def wsX4_team_r6 : List Cond := [Cond.code yX4_isJumper cX4_isJumper 2 (some .boolean), Cond.instanceMethod yX0_totalOf, Cond.selects RX0 yX0_totalOf yX0_totalOf, Cond.code yX0_totalOf cX0_totalOf 2 (some .int)]
def wsX4_team : List Cond := .code yX4_team cX4_team 3 (some .int) :: ((wsX4_team_r1 ++ (wsX4_team_r2 ++ (wsX4_team_r3 ++ (wsX4_team_r4 ++ (wsX4_team_r5 ++ wsX4_team_r6))))) ++ wsX40 ++ wsX30 ++ wsX10 ++ wsX00 ++ wsX20)
def wsX4_recordJump_r1 : List Cond := [Cond.fieldLink RX4 16 "JumpHill" "scorer" "LJumpHill$Scorer;", Cond.fieldLink RX4 36 "JumpHill" "recordLength" "I", Cond.instanceMethod yX3_know, Cond.initialized RX3, Cond.selects RX3 yX3_know yX3_know, Cond.code yX3_know cX3_know 4 none, Cond.fieldLink RX3 33 "JumpHill$Scorer" "counting" "[I", Cond.fieldLink RX3 21 "JumpHill$Scorer" "entries" "LJumpHill$Entries;", Cond.methodLink RX3 36 yJ7_fill_53178, Cond.static yJ7_fill_53178, Cond.initialized RJ7, Cond.code yJ7_fill_53178 cJ7_fill_53178 4 none, Cond.instanceMethod yX3_mayBeRecord, Cond.selects RX3 yX3_mayBeRecord yX3_mayBeRecord, Cond.code yX3_mayBeRecord cX3_mayBeRecord 4 (some .boolean), Cond.methodLink RX3 48 yX3_countingOf, Cond.instanceMethod yX3_countingOf, Cond.selects RX3 yX3_countingOf yX3_countingOf, Cond.code yX3_countingOf cX3_countingOf 4 (some .int), Cond.methodLink RX3 66 yX3_hasPoints, Cond.instanceMethod yX3_hasPoints, Cond.selects RX3 yX3_hasPoints yX3_hasPoints, Cond.code yX3_hasPoints cX3_hasPoints 2 (some .boolean), Cond.methodLink RX3 55 yX3_isStruck]
def wsX4_recordJump_r2 : List Cond := [Cond.instanceMethod yX3_isStruck, Cond.selects RX3 yX3_isStruck yX3_isStruck, Cond.code yX3_isStruck cX3_isStruck 3 (some .boolean), Cond.instanceMethod yX1_value, Cond.initialized RX1, Cond.selects RX1 yX1_value yX1_value, Cond.code yX1_value cX1_value 4 (some .int), Cond.fieldLink RX1 18 "JumpHill$Entries" "values" "[I", Cond.instanceMethod yX3_lengthOf, Cond.selects RX3 yX3_lengthOf yX3_lengthOf, Cond.code yX3_lengthOf cX3_lengthOf 2 (some .int), Cond.instanceMethod yX3_isLonger, Cond.selects RX3 yX3_isLonger yX3_isLonger, Cond.code yX3_isLonger cX3_isLonger 4 (some .boolean), Cond.methodLink RX3 108 yX3_lengthOf]
def wsX4_recordJump : List Cond := .code yX4_recordJump cX4_recordJump 3 (some .int) :: ((wsX4_recordJump_r1 ++ wsX4_recordJump_r2) ++ wsX40 ++ wsX30 ++ wsX10)
def wsX4_jumperOf : List Cond := .code yX4_jumperOf cX4_jumperOf 1 (some .int) :: ([])
def wsX4_record_r1 : List Cond := [Cond.fieldLink RX4 16 "JumpHill" "scorer" "LJumpHill$Scorer;", Cond.fieldLink RX4 36 "JumpHill" "recordLength" "I", Cond.fieldLink RX4 40 "JumpHill" "recordJumper" "I", Cond.methodLink RX4 164 yX4_recordJump, Cond.instanceMethod yX4_recordJump, Cond.selects RX4 yX4_recordJump yX4_recordJump, Cond.initialized RX4, Cond.code yX4_recordJump cX4_recordJump 3 (some .int), Cond.instanceMethod yX3_know, Cond.initialized RX3, Cond.selects RX3 yX3_know yX3_know, Cond.code yX3_know cX3_know 4 none, Cond.fieldLink RX3 33 "JumpHill$Scorer" "counting" "[I", Cond.fieldLink RX3 21 "JumpHill$Scorer" "entries" "LJumpHill$Entries;", Cond.methodLink RX3 36 yJ7_fill_53178, Cond.static yJ7_fill_53178, Cond.initialized RJ7, Cond.code yJ7_fill_53178 cJ7_fill_53178 4 none, Cond.instanceMethod yX3_mayBeRecord, Cond.selects RX3 yX3_mayBeRecord yX3_mayBeRecord, Cond.code yX3_mayBeRecord cX3_mayBeRecord 4 (some .boolean), Cond.methodLink RX3 48 yX3_countingOf, Cond.instanceMethod yX3_countingOf, Cond.selects RX3 yX3_countingOf yX3_countingOf]
def wsX4_record_r2 : List Cond := [Cond.code yX3_countingOf cX3_countingOf 4 (some .int), Cond.methodLink RX3 66 yX3_hasPoints, Cond.instanceMethod yX3_hasPoints, Cond.selects RX3 yX3_hasPoints yX3_hasPoints, Cond.code yX3_hasPoints cX3_hasPoints 2 (some .boolean), Cond.methodLink RX3 55 yX3_isStruck, Cond.instanceMethod yX3_isStruck, Cond.selects RX3 yX3_isStruck yX3_isStruck, Cond.code yX3_isStruck cX3_isStruck 3 (some .boolean), Cond.instanceMethod yX1_value, Cond.initialized RX1, Cond.selects RX1 yX1_value yX1_value, Cond.code yX1_value cX1_value 4 (some .int), Cond.fieldLink RX1 18 "JumpHill$Entries" "values" "[I", Cond.instanceMethod yX3_lengthOf, Cond.selects RX3 yX3_lengthOf yX3_lengthOf, Cond.code yX3_lengthOf cX3_lengthOf 2 (some .int), Cond.instanceMethod yX3_isLonger, Cond.selects RX3 yX3_isLonger yX3_isLonger, Cond.code yX3_isLonger cX3_isLonger 4 (some .boolean), Cond.methodLink RX3 108 yX3_lengthOf, Cond.methodLink RX4 171 yX4_jumperOf, Cond.static yX4_jumperOf, Cond.code yX4_jumperOf cX4_jumperOf 1 (some .int)]
def wsX4_record : List Cond := .code yX4_record cX4_record 3 (some .int) :: ((wsX4_record_r1 ++ wsX4_record_r2) ++ wsX40 ++ wsX30 ++ wsX10)
def wsX4_differ_r1 : List Cond := [Cond.fieldLink RX4 23 "JumpHill" "board" "LJumpHill$Board;", Cond.fieldLink RX4 16 "JumpHill" "scorer" "LJumpHill$Scorer;", Cond.fieldLink RX4 71 "JumpHill" "jumpers" "I", Cond.fieldLink RX4 27 "JumpHill" "otherBoard" "LJumpHill$Board;", Cond.methodLink RX4 124 yX4_isKnowing, Cond.instanceMethod yX4_isKnowing, Cond.selects RX4 yX4_isKnowing yX4_isKnowing, Cond.initialized RX4, Cond.code yX4_isKnowing cX4_isKnowing 2 (some .boolean), Cond.instanceMethod yX0_draw, Cond.initialized RX0, Cond.selects RX0 yX0_draw yX0_draw, Cond.code yX0_draw cX0_draw 6 none, Cond.fieldLink RX0 34 "JumpHill$Board" "listed" "I", Cond.fieldLink RX0 38 "JumpHill$Board" "passed" "I", Cond.fieldLink RX0 9 "JumpHill$Board" "first" "[I", Cond.fieldLink RX0 15 "JumpHill$Board" "through" "[Z", Cond.fieldLink RX0 19 "JumpHill$Board" "totals" "[I", Cond.instanceMethod yX3_know, Cond.initialized RX3, Cond.selects RX3 yX3_know yX3_know, Cond.code yX3_know cX3_know 4 none, Cond.fieldLink RX3 33 "JumpHill$Scorer" "counting" "[I", Cond.fieldLink RX3 21 "JumpHill$Scorer" "entries" "LJumpHill$Entries;"]
def wsX4_differ_r2 : List Cond := [Cond.methodLink RX3 36 yJ7_fill_53178, Cond.static yJ7_fill_53178, Cond.initialized RJ7, Cond.code yJ7_fill_53178 cJ7_fill_53178 4 none, Cond.instanceMethod yX3_measure, Cond.selects RX3 yX3_measure yX3_measure, Cond.code yX3_measure cX3_measure 3 (some .boolean), Cond.fieldLink RX3 63 "JumpHill$Scorer" "mean" "I", Cond.fieldLink RX3 12 "JumpHill$Scorer" "rules" "LJumpHill$Rules;", Cond.fieldLink RX3 72 "JumpHill$Scorer" "length" "I", Cond.fieldLink RX3 78 "JumpHill$Scorer" "style" "I", Cond.fieldLink RX3 84 "JumpHill$Scorer" "gate" "I", Cond.fieldLink RX3 90 "JumpHill$Scorer" "wind" "I", Cond.methodLink RX3 48 yX3_countingOf, Cond.instanceMethod yX3_countingOf, Cond.selects RX3 yX3_countingOf yX3_countingOf, Cond.code yX3_countingOf cX3_countingOf 4 (some .int), Cond.methodLink RX3 59 yX3_meanOf, Cond.instanceMethod yX3_meanOf, Cond.selects RX3 yX3_meanOf yX3_meanOf, Cond.code yX3_meanOf cX3_meanOf 6 (some .int), Cond.fieldLink RX3 25 "JumpHill$Scorer" "weights" "[I", Cond.instanceMethod yX1_value, Cond.initialized RX1]
def wsX4_differ_r3 : List Cond := [Cond.selects RX1 yX1_value yX1_value, Cond.code yX1_value cX1_value 4 (some .int), Cond.fieldLink RX1 18 "JumpHill$Entries" "values" "[I", Cond.methodLink RX3 87 yX3_rounded, Cond.static yX3_rounded, Cond.code yX3_rounded cX3_rounded 3 (some .int), Cond.methodLink RX3 105 Lib.Math.abs.name, Cond.static Lib.Math.abs.name, Cond.initialized "java/lang/Math", Cond.code Lib.Math.abs.name Lib.Math.abs.code 1 (some .int), Cond.methodLink RX3 66 yX3_hasPoints, Cond.instanceMethod yX3_hasPoints, Cond.selects RX3 yX3_hasPoints yX3_hasPoints, Cond.code yX3_hasPoints cX3_hasPoints 2 (some .boolean), Cond.methodLink RX3 55 yX3_isStruck, Cond.instanceMethod yX3_isStruck, Cond.selects RX3 yX3_isStruck yX3_isStruck, Cond.code yX3_isStruck cX3_isStruck 3 (some .boolean), Cond.instanceMethod yX2_number, Cond.initialized RX2, Cond.selects RX2 yX2_number yX2_number, Cond.code yX2_number cX2_number 2 (some .int), Cond.fieldLink RX2 11 "JumpHill$Rules" "numbers" "[I", Cond.methodLink RX2 27 yX2_isLetter]
def wsX4_differ_r4 : List Cond := [Cond.static yX2_isLetter, Cond.code yX2_isLetter cX2_isLetter 1 (some .boolean), Cond.methodLink RX3 75 yX3_styleOf, Cond.instanceMethod yX3_styleOf, Cond.selects RX3 yX3_styleOf yX3_styleOf, Cond.code yX3_styleOf cX3_styleOf 7 (some .int), Cond.methodLink RX3 102 Lib.Math.min.name, Cond.static Lib.Math.min.name, Cond.code Lib.Math.min.name Lib.Math.min.code 2 (some .int), Cond.methodLink RX3 93 Lib.Math.max.name, Cond.static Lib.Math.max.name, Cond.code Lib.Math.max.name Lib.Math.max.code 2 (some .int), Cond.methodLink RX3 81 yX3_gateOf, Cond.instanceMethod yX3_gateOf, Cond.selects RX3 yX3_gateOf yX3_gateOf, Cond.code yX3_gateOf cX3_gateOf 3 (some .int), Cond.fieldLink RX3 29 "JumpHill$Scorer" "base" "I", Cond.instanceMethod yX3_sum, Cond.selects RX3 yX3_sum yX3_sum, Cond.code yX3_sum cX3_sum 1 (some .int), Cond.methodLink RX0 53 yX0_aheadInRoundZero, Cond.instanceMethod yX0_aheadInRoundZero, Cond.selects RX0 yX0_aheadInRoundZero yX0_aheadInRoundZero, Cond.code yX0_aheadInRoundZero cX0_aheadInRoundZero 7 (some .int)]
def wsX4_differ_r5 : List Cond := [Cond.methodLink RX0 63 yX0_placeOnList, Cond.instanceMethod yX0_placeOnList, Cond.selects RX0 yX0_placeOnList yX0_placeOnList, Cond.code yX0_placeOnList cX0_placeOnList 5 none, Cond.fieldLink RX0 22 "JumpHill$Board" "places" "[I", Cond.fieldLink RX0 25 "JumpHill$Board" "order" "[I", Cond.methodLink RX0 66 yX0_isBetter, Cond.instanceMethod yX0_isBetter, Cond.selects RX0 yX0_isBetter yX0_isBetter, Cond.code yX0_isBetter cX0_isBetter 3 (some .boolean), Cond.instanceMethod yX0_placeOf, Cond.selects RX0 yX0_placeOf yX0_placeOf, Cond.code yX0_placeOf cX0_placeOf 2 (some .int)]
def wsX4_differ : List Cond := .code yX4_differ cX4_differ 6 (some .int) :: ((wsX4_differ_r1 ++ (wsX4_differ_r2 ++ (wsX4_differ_r3 ++ (wsX4_differ_r4 ++ wsX4_differ_r5)))) ++ wsX40 ++ wsX30 ++ wsX10 ++ wsX00 ++ wsX20)
def wsX4_seasonPoints : List Cond := .code yX4_seasonPoints cX4_seasonPoints 1 (some .int) :: ([.fieldLink RX4 207 "JumpHill" "SEASON_ROW" "[I"])
def wsX4_keepRecord_r1 : List Cond := [Cond.fieldLink RX4 16 "JumpHill" "scorer" "LJumpHill$Scorer;", Cond.fieldLink RX4 36 "JumpHill" "recordLength" "I", Cond.fieldLink RX4 40 "JumpHill" "recordJumper" "I", Cond.methodLink RX4 164 yX4_recordJump, Cond.instanceMethod yX4_recordJump, Cond.selects RX4 yX4_recordJump yX4_recordJump, Cond.initialized RX4, Cond.code yX4_recordJump cX4_recordJump 3 (some .int), Cond.instanceMethod yX3_know, Cond.initialized RX3, Cond.selects RX3 yX3_know yX3_know, Cond.code yX3_know cX3_know 4 none, Cond.fieldLink RX3 33 "JumpHill$Scorer" "counting" "[I", Cond.fieldLink RX3 21 "JumpHill$Scorer" "entries" "LJumpHill$Entries;", Cond.methodLink RX3 36 yJ7_fill_53178, Cond.static yJ7_fill_53178, Cond.initialized RJ7, Cond.code yJ7_fill_53178 cJ7_fill_53178 4 none, Cond.instanceMethod yX3_mayBeRecord, Cond.selects RX3 yX3_mayBeRecord yX3_mayBeRecord, Cond.code yX3_mayBeRecord cX3_mayBeRecord 4 (some .boolean), Cond.methodLink RX3 48 yX3_countingOf, Cond.instanceMethod yX3_countingOf, Cond.selects RX3 yX3_countingOf yX3_countingOf]
def wsX4_keepRecord_r2 : List Cond := [Cond.code yX3_countingOf cX3_countingOf 4 (some .int), Cond.methodLink RX3 66 yX3_hasPoints, Cond.instanceMethod yX3_hasPoints, Cond.selects RX3 yX3_hasPoints yX3_hasPoints, Cond.code yX3_hasPoints cX3_hasPoints 2 (some .boolean), Cond.methodLink RX3 55 yX3_isStruck, Cond.instanceMethod yX3_isStruck, Cond.selects RX3 yX3_isStruck yX3_isStruck, Cond.code yX3_isStruck cX3_isStruck 3 (some .boolean), Cond.instanceMethod yX1_value, Cond.initialized RX1, Cond.selects RX1 yX1_value yX1_value, Cond.code yX1_value cX1_value 4 (some .int), Cond.fieldLink RX1 18 "JumpHill$Entries" "values" "[I", Cond.instanceMethod yX3_lengthOf, Cond.selects RX3 yX3_lengthOf yX3_lengthOf, Cond.code yX3_lengthOf cX3_lengthOf 2 (some .int), Cond.instanceMethod yX3_isLonger, Cond.selects RX3 yX3_isLonger yX3_isLonger, Cond.code yX3_isLonger cX3_isLonger 4 (some .boolean), Cond.methodLink RX3 108 yX3_lengthOf, Cond.methodLink RX4 171 yX4_jumperOf, Cond.static yX4_jumperOf, Cond.code yX4_jumperOf cX4_jumperOf 1 (some .int)]
def wsX4_keepRecord : List Cond := .code yX4_keepRecord cX4_keepRecord 2 none :: ((wsX4_keepRecord_r1 ++ wsX4_keepRecord_r2) ++ wsX40 ++ wsX30 ++ wsX10)
def wsX4_close_r1 : List Cond := [Cond.fieldLink RX4 23 "JumpHill" "board" "LJumpHill$Board;", Cond.fieldLink RX4 16 "JumpHill" "scorer" "LJumpHill$Scorer;", Cond.fieldLink RX4 71 "JumpHill" "jumpers" "I", Cond.fieldLink RX4 33 "JumpHill" "season" "[I", Cond.fieldLink RX4 183 "JumpHill" "closed" "I", Cond.instanceMethod yX0_draw, Cond.initialized RX0, Cond.selects RX0 yX0_draw yX0_draw, Cond.code yX0_draw cX0_draw 6 none, Cond.fieldLink RX0 34 "JumpHill$Board" "listed" "I", Cond.fieldLink RX0 38 "JumpHill$Board" "passed" "I", Cond.fieldLink RX0 9 "JumpHill$Board" "first" "[I", Cond.fieldLink RX0 15 "JumpHill$Board" "through" "[Z", Cond.fieldLink RX0 19 "JumpHill$Board" "totals" "[I", Cond.instanceMethod yX3_know, Cond.initialized RX3, Cond.selects RX3 yX3_know yX3_know, Cond.code yX3_know cX3_know 4 none, Cond.fieldLink RX3 33 "JumpHill$Scorer" "counting" "[I", Cond.fieldLink RX3 21 "JumpHill$Scorer" "entries" "LJumpHill$Entries;", Cond.methodLink RX3 36 yJ7_fill_53178, Cond.static yJ7_fill_53178, Cond.initialized RJ7, Cond.code yJ7_fill_53178 cJ7_fill_53178 4 none]
def wsX4_close_r2 : List Cond := [Cond.instanceMethod yX3_measure, Cond.selects RX3 yX3_measure yX3_measure, Cond.code yX3_measure cX3_measure 3 (some .boolean), Cond.fieldLink RX3 63 "JumpHill$Scorer" "mean" "I", Cond.fieldLink RX3 12 "JumpHill$Scorer" "rules" "LJumpHill$Rules;", Cond.fieldLink RX3 72 "JumpHill$Scorer" "length" "I", Cond.fieldLink RX3 78 "JumpHill$Scorer" "style" "I", Cond.fieldLink RX3 84 "JumpHill$Scorer" "gate" "I", Cond.fieldLink RX3 90 "JumpHill$Scorer" "wind" "I", Cond.methodLink RX3 48 yX3_countingOf, Cond.instanceMethod yX3_countingOf, Cond.selects RX3 yX3_countingOf yX3_countingOf, Cond.code yX3_countingOf cX3_countingOf 4 (some .int), Cond.methodLink RX3 59 yX3_meanOf, Cond.instanceMethod yX3_meanOf, Cond.selects RX3 yX3_meanOf yX3_meanOf, Cond.code yX3_meanOf cX3_meanOf 6 (some .int), Cond.fieldLink RX3 25 "JumpHill$Scorer" "weights" "[I", Cond.instanceMethod yX1_value, Cond.initialized RX1, Cond.selects RX1 yX1_value yX1_value, Cond.code yX1_value cX1_value 4 (some .int), Cond.fieldLink RX1 18 "JumpHill$Entries" "values" "[I", Cond.methodLink RX3 87 yX3_rounded]
def wsX4_close_r3 : List Cond := [Cond.static yX3_rounded, Cond.code yX3_rounded cX3_rounded 3 (some .int), Cond.methodLink RX3 105 Lib.Math.abs.name, Cond.static Lib.Math.abs.name, Cond.initialized "java/lang/Math", Cond.code Lib.Math.abs.name Lib.Math.abs.code 1 (some .int), Cond.methodLink RX3 66 yX3_hasPoints, Cond.instanceMethod yX3_hasPoints, Cond.selects RX3 yX3_hasPoints yX3_hasPoints, Cond.code yX3_hasPoints cX3_hasPoints 2 (some .boolean), Cond.methodLink RX3 55 yX3_isStruck, Cond.instanceMethod yX3_isStruck, Cond.selects RX3 yX3_isStruck yX3_isStruck, Cond.code yX3_isStruck cX3_isStruck 3 (some .boolean), Cond.instanceMethod yX2_number, Cond.initialized RX2, Cond.selects RX2 yX2_number yX2_number, Cond.code yX2_number cX2_number 2 (some .int), Cond.fieldLink RX2 11 "JumpHill$Rules" "numbers" "[I", Cond.methodLink RX2 27 yX2_isLetter, Cond.static yX2_isLetter, Cond.code yX2_isLetter cX2_isLetter 1 (some .boolean), Cond.methodLink RX3 75 yX3_styleOf, Cond.instanceMethod yX3_styleOf]
def wsX4_close_r4 : List Cond := [Cond.selects RX3 yX3_styleOf yX3_styleOf, Cond.code yX3_styleOf cX3_styleOf 7 (some .int), Cond.methodLink RX3 102 Lib.Math.min.name, Cond.static Lib.Math.min.name, Cond.code Lib.Math.min.name Lib.Math.min.code 2 (some .int), Cond.methodLink RX3 93 Lib.Math.max.name, Cond.static Lib.Math.max.name, Cond.code Lib.Math.max.name Lib.Math.max.code 2 (some .int), Cond.methodLink RX3 81 yX3_gateOf, Cond.instanceMethod yX3_gateOf, Cond.selects RX3 yX3_gateOf yX3_gateOf, Cond.code yX3_gateOf cX3_gateOf 3 (some .int), Cond.fieldLink RX3 29 "JumpHill$Scorer" "base" "I", Cond.instanceMethod yX3_sum, Cond.selects RX3 yX3_sum yX3_sum, Cond.code yX3_sum cX3_sum 1 (some .int), Cond.methodLink RX0 53 yX0_aheadInRoundZero, Cond.instanceMethod yX0_aheadInRoundZero, Cond.selects RX0 yX0_aheadInRoundZero yX0_aheadInRoundZero, Cond.code yX0_aheadInRoundZero cX0_aheadInRoundZero 7 (some .int), Cond.methodLink RX0 63 yX0_placeOnList, Cond.instanceMethod yX0_placeOnList, Cond.selects RX0 yX0_placeOnList yX0_placeOnList, Cond.code yX0_placeOnList cX0_placeOnList 5 none]
def wsX4_close_r5 : List Cond := [Cond.fieldLink RX0 22 "JumpHill$Board" "places" "[I", Cond.fieldLink RX0 25 "JumpHill$Board" "order" "[I", Cond.methodLink RX0 66 yX0_isBetter, Cond.instanceMethod yX0_isBetter, Cond.selects RX0 yX0_isBetter yX0_isBetter, Cond.code yX0_isBetter cX0_isBetter 3 (some .boolean), Cond.instanceMethod yX0_placeOf, Cond.selects RX0 yX0_placeOf yX0_placeOf, Cond.code yX0_placeOf cX0_placeOf 2 (some .int), Cond.methodLink RX4 177 yX4_seasonPoints, Cond.static yX4_seasonPoints, Cond.initialized RX4, Cond.code yX4_seasonPoints cX4_seasonPoints 1 (some .int), Cond.fieldLink RX4 207 "JumpHill" "SEASON_ROW" "[I", Cond.methodLink RX4 180 yX4_keepRecord, Cond.instanceMethod yX4_keepRecord, Cond.selects RX4 yX4_keepRecord yX4_keepRecord, Cond.code yX4_keepRecord cX4_keepRecord 2 none, Cond.fieldLink RX4 36 "JumpHill" "recordLength" "I", Cond.fieldLink RX4 40 "JumpHill" "recordJumper" "I", Cond.methodLink RX4 164 yX4_recordJump, Cond.instanceMethod yX4_recordJump, Cond.selects RX4 yX4_recordJump yX4_recordJump, Cond.code yX4_recordJump cX4_recordJump 3 (some .int)]
def wsX4_close_r6 : List Cond := [Cond.instanceMethod yX3_mayBeRecord, Cond.selects RX3 yX3_mayBeRecord yX3_mayBeRecord, Cond.code yX3_mayBeRecord cX3_mayBeRecord 4 (some .boolean), Cond.instanceMethod yX3_lengthOf, Cond.selects RX3 yX3_lengthOf yX3_lengthOf, Cond.code yX3_lengthOf cX3_lengthOf 2 (some .int), Cond.instanceMethod yX3_isLonger, Cond.selects RX3 yX3_isLonger yX3_isLonger, Cond.code yX3_isLonger cX3_isLonger 4 (some .boolean), Cond.methodLink RX3 108 yX3_lengthOf, Cond.methodLink RX4 171 yX4_jumperOf, Cond.static yX4_jumperOf, Cond.code yX4_jumperOf cX4_jumperOf 1 (some .int)]
def wsX4_close : List Cond := .code yX4_close cX4_close 2 (some .int) :: ((wsX4_close_r1 ++ (wsX4_close_r2 ++ (wsX4_close_r3 ++ (wsX4_close_r4 ++ (wsX4_close_r5 ++ wsX4_close_r6))))) ++ wsX40 ++ wsX30 ++ wsX10 ++ wsX00 ++ wsX20)
def wsX4_count_r1 : List Cond := [Cond.fieldLink RX4 71 "JumpHill" "jumpers" "I", Cond.fieldLink RX4 16 "JumpHill" "scorer" "LJumpHill$Scorer;", Cond.fieldLink RX4 183 "JumpHill" "closed" "I", Cond.fieldLink RX4 23 "JumpHill" "board" "LJumpHill$Board;", Cond.fieldLink RX4 43 "JumpHill" "taped" "I", Cond.instanceMethod yX0_draw, Cond.initialized RX0, Cond.selects RX0 yX0_draw yX0_draw, Cond.code yX0_draw cX0_draw 6 none, Cond.fieldLink RX0 34 "JumpHill$Board" "listed" "I", Cond.fieldLink RX0 38 "JumpHill$Board" "passed" "I", Cond.fieldLink RX0 9 "JumpHill$Board" "first" "[I", Cond.fieldLink RX0 15 "JumpHill$Board" "through" "[Z", Cond.fieldLink RX0 19 "JumpHill$Board" "totals" "[I", Cond.instanceMethod yX3_know, Cond.initialized RX3, Cond.selects RX3 yX3_know yX3_know, Cond.code yX3_know cX3_know 4 none, Cond.fieldLink RX3 33 "JumpHill$Scorer" "counting" "[I", Cond.fieldLink RX3 21 "JumpHill$Scorer" "entries" "LJumpHill$Entries;", Cond.methodLink RX3 36 yJ7_fill_53178, Cond.static yJ7_fill_53178, Cond.initialized RJ7, Cond.code yJ7_fill_53178 cJ7_fill_53178 4 none]
def wsX4_count_r2 : List Cond := [Cond.instanceMethod yX3_measure, Cond.selects RX3 yX3_measure yX3_measure, Cond.code yX3_measure cX3_measure 3 (some .boolean), Cond.fieldLink RX3 63 "JumpHill$Scorer" "mean" "I", Cond.fieldLink RX3 12 "JumpHill$Scorer" "rules" "LJumpHill$Rules;", Cond.fieldLink RX3 72 "JumpHill$Scorer" "length" "I", Cond.fieldLink RX3 78 "JumpHill$Scorer" "style" "I", Cond.fieldLink RX3 84 "JumpHill$Scorer" "gate" "I", Cond.fieldLink RX3 90 "JumpHill$Scorer" "wind" "I", Cond.methodLink RX3 48 yX3_countingOf, Cond.instanceMethod yX3_countingOf, Cond.selects RX3 yX3_countingOf yX3_countingOf, Cond.code yX3_countingOf cX3_countingOf 4 (some .int), Cond.methodLink RX3 59 yX3_meanOf, Cond.instanceMethod yX3_meanOf, Cond.selects RX3 yX3_meanOf yX3_meanOf, Cond.code yX3_meanOf cX3_meanOf 6 (some .int), Cond.fieldLink RX3 25 "JumpHill$Scorer" "weights" "[I", Cond.instanceMethod yX1_value, Cond.initialized RX1, Cond.selects RX1 yX1_value yX1_value, Cond.code yX1_value cX1_value 4 (some .int), Cond.fieldLink RX1 18 "JumpHill$Entries" "values" "[I", Cond.methodLink RX3 87 yX3_rounded]
def wsX4_count_r3 : List Cond := [Cond.static yX3_rounded, Cond.code yX3_rounded cX3_rounded 3 (some .int), Cond.methodLink RX3 105 Lib.Math.abs.name, Cond.static Lib.Math.abs.name, Cond.initialized "java/lang/Math", Cond.code Lib.Math.abs.name Lib.Math.abs.code 1 (some .int), Cond.methodLink RX3 66 yX3_hasPoints, Cond.instanceMethod yX3_hasPoints, Cond.selects RX3 yX3_hasPoints yX3_hasPoints, Cond.code yX3_hasPoints cX3_hasPoints 2 (some .boolean), Cond.methodLink RX3 55 yX3_isStruck, Cond.instanceMethod yX3_isStruck, Cond.selects RX3 yX3_isStruck yX3_isStruck, Cond.code yX3_isStruck cX3_isStruck 3 (some .boolean), Cond.instanceMethod yX2_number, Cond.initialized RX2, Cond.selects RX2 yX2_number yX2_number, Cond.code yX2_number cX2_number 2 (some .int), Cond.fieldLink RX2 11 "JumpHill$Rules" "numbers" "[I", Cond.methodLink RX2 27 yX2_isLetter, Cond.static yX2_isLetter, Cond.code yX2_isLetter cX2_isLetter 1 (some .boolean), Cond.methodLink RX3 75 yX3_styleOf, Cond.instanceMethod yX3_styleOf]
def wsX4_count_r4 : List Cond := [Cond.selects RX3 yX3_styleOf yX3_styleOf, Cond.code yX3_styleOf cX3_styleOf 7 (some .int), Cond.methodLink RX3 102 Lib.Math.min.name, Cond.static Lib.Math.min.name, Cond.code Lib.Math.min.name Lib.Math.min.code 2 (some .int), Cond.methodLink RX3 93 Lib.Math.max.name, Cond.static Lib.Math.max.name, Cond.code Lib.Math.max.name Lib.Math.max.code 2 (some .int), Cond.methodLink RX3 81 yX3_gateOf, Cond.instanceMethod yX3_gateOf, Cond.selects RX3 yX3_gateOf yX3_gateOf, Cond.code yX3_gateOf cX3_gateOf 3 (some .int), Cond.fieldLink RX3 29 "JumpHill$Scorer" "base" "I", Cond.instanceMethod yX3_sum, Cond.selects RX3 yX3_sum yX3_sum, Cond.code yX3_sum cX3_sum 1 (some .int), Cond.methodLink RX0 53 yX0_aheadInRoundZero, Cond.instanceMethod yX0_aheadInRoundZero, Cond.selects RX0 yX0_aheadInRoundZero yX0_aheadInRoundZero, Cond.code yX0_aheadInRoundZero cX0_aheadInRoundZero 7 (some .int), Cond.methodLink RX0 63 yX0_placeOnList, Cond.instanceMethod yX0_placeOnList, Cond.selects RX0 yX0_placeOnList yX0_placeOnList, Cond.code yX0_placeOnList cX0_placeOnList 5 none]
def wsX4_count_r5 : List Cond := [Cond.fieldLink RX0 22 "JumpHill$Board" "places" "[I", Cond.fieldLink RX0 25 "JumpHill$Board" "order" "[I", Cond.methodLink RX0 66 yX0_isBetter, Cond.instanceMethod yX0_isBetter, Cond.selects RX0 yX0_isBetter yX0_isBetter, Cond.code yX0_isBetter cX0_isBetter 3 (some .boolean), Cond.methodLink RX4 74 yX4_isSensor, Cond.instanceMethod yX4_isSensor, Cond.selects RX4 yX4_isSensor yX4_isSensor, Cond.initialized RX4, Cond.code yX4_isSensor cX4_isSensor 2 (some .boolean)]
def wsX4_count : List Cond := .code yX4_count cX4_count 2 (some .int) :: ((wsX4_count_r1 ++ (wsX4_count_r2 ++ (wsX4_count_r3 ++ (wsX4_count_r4 ++ wsX4_count_r5)))) ++ wsX40 ++ wsX30 ++ wsX10 ++ wsX00 ++ wsX20)
def wsX5_asAtFirst : List Cond := .code yX5_asAtFirst cX5_asAtFirst 1 none :: ([])
def wsX5_init_r1 : List Cond := [Cond.methodLink RX5 1 objectInit, Cond.instanceMethod objectInit, Cond.code objectInit ⟨#[0xb1]⟩ 1 none, Cond.arrayClass .byte, Cond.fieldLink RX5 7 "JumpHillModel" "tape" "[B", Cond.arrayClass .int, Cond.fieldLink RX5 13 "JumpHillModel" "rule" "[I", Cond.fieldLink RX5 17 "JumpHillModel" "read" "[I", Cond.fieldLink RX5 20 "JumpHillModel" "base" "I", Cond.fieldLink RX5 24 "JumpHillModel" "team" "[I", Cond.fieldLink RX5 27 "JumpHillModel" "season" "[I", Cond.fieldLink RX5 30 "JumpHillModel" "weight" "[I", Cond.fieldLink RX5 33 "JumpHillModel" "sort" "[I", Cond.fieldLink RX5 36 "JumpHillModel" "jump" "[I", Cond.fieldLink RX5 39 "JumpHillModel" "value" "[I", Cond.fieldLink RX5 42 "JumpHillModel" "bestLength" "I", Cond.fieldLink RX5 45 "JumpHillModel" "bestJumper" "I", Cond.arrayClass .boolean, Cond.fieldLink RX5 48 "JumpHillModel" "isOn" "[Z", Cond.fieldLink RX5 52 "JumpHillModel" "isThrough" "[Z", Cond.fieldLink RX5 55 "JumpHillModel" "one" "[I", Cond.fieldLink RX5 58 "JumpHillModel" "total" "[I", Cond.fieldLink RX5 61 "JumpHillModel" "was" "[I", Cond.methodLink RX5 64 yX5_asAtFirst]
def wsX5_init_r2 : List Cond := [Cond.static yX5_asAtFirst, Cond.initialized RX5, Cond.code yX5_asAtFirst cX5_asAtFirst 1 none]
def wsX5_init : List Cond := .code yX5_init cX5_init 2 none :: ((wsX5_init_r1 ++ wsX5_init_r2) ++ wsX50)
def wsX5_lies : List Cond := .code yX5_lies cX5_lies 3 (some .boolean) :: ([])
def wsX5_push : List Cond := .code yX5_push cX5_push 3 none :: ([.fieldLink RX5 7 "JumpHillModel" "tape" "[B", .fieldLink RX5 68 "JumpHillModel" "taped" "I"] ++ wsX50)
def wsX5_feed : List Cond := .code yX5_feed cX5_feed 6 (some .int) :: ([.fieldLink RX5 68 "JumpHillModel" "taped" "I", .methodLink RX5 71 yX5_push, .instanceMethod yX5_push, .selects RX5 yX5_push yX5_push, .initialized RX5, .code yX5_push cX5_push 3 none, .fieldLink RX5 7 "JumpHillModel" "tape" "[B"] ++ wsX50)
def wsX5_letter : List Cond := .code yX5_letter cX5_letter 1 (some .int) :: ([])
def wsX5_canBe : List Cond := .code yX5_canBe cX5_canBe 2 (some .boolean) :: ([.methodLink RX5 75 yX5_lies, .static yX5_lies, .initialized RX5, .code yX5_lies cX5_lies 3 (some .boolean)])
def wsX5_at : List Cond := .code yX5_at cX5_at 3 (some .int) :: ([.fieldLink RX5 7 "JumpHillModel" "tape" "[B"] ++ wsX50)
def wsX5_reads : List Cond := .code yX5_reads cX5_reads 7 (some .int) :: ([.fieldLink RX5 17 "JumpHillModel" "read" "[I", .methodLink RX5 64 yX5_asAtFirst, .static yX5_asAtFirst, .initialized RX5, .code yX5_asAtFirst cX5_asAtFirst 1 none, .methodLink RX5 79 yX5_at, .instanceMethod yX5_at, .selects RX5 yX5_at yX5_at, .code yX5_at cX5_at 3 (some .int), .fieldLink RX5 7 "JumpHillModel" "tape" "[B", .methodLink RX5 83 yX5_letter, .static yX5_letter, .code yX5_letter cX5_letter 1 (some .int), .methodLink RX5 75 yX5_lies, .static yX5_lies, .code yX5_lies cX5_lies 3 (some .boolean), .methodLink RX5 87 yX5_canBe, .static yX5_canBe, .code yX5_canBe cX5_canBe 2 (some .boolean)] ++ wsX50)
def wsX5_rules_r1 : List Cond := [Cond.fieldLink RX5 68 "JumpHillModel" "taped" "I", Cond.fieldLink RX5 13 "JumpHillModel" "rule" "[I", Cond.fieldLink RX5 17 "JumpHillModel" "read" "[I", Cond.methodLink RX5 91 yX5_reads, Cond.instanceMethod yX5_reads, Cond.selects RX5 yX5_reads yX5_reads, Cond.initialized RX5, Cond.code yX5_reads cX5_reads 7 (some .int), Cond.methodLink RX5 64 yX5_asAtFirst, Cond.static yX5_asAtFirst, Cond.code yX5_asAtFirst cX5_asAtFirst 1 none, Cond.methodLink RX5 79 yX5_at, Cond.instanceMethod yX5_at, Cond.selects RX5 yX5_at yX5_at, Cond.code yX5_at cX5_at 3 (some .int), Cond.fieldLink RX5 7 "JumpHillModel" "tape" "[B", Cond.methodLink RX5 83 yX5_letter, Cond.static yX5_letter, Cond.code yX5_letter cX5_letter 1 (some .int), Cond.methodLink RX5 75 yX5_lies, Cond.static yX5_lies, Cond.code yX5_lies cX5_lies 3 (some .boolean), Cond.methodLink RX5 87 yX5_canBe, Cond.static yX5_canBe]
def wsX5_rules_r2 : List Cond := [Cond.code yX5_canBe cX5_canBe 2 (some .boolean)]
def wsX5_rules : List Cond := .code yX5_rules cX5_rules 4 (some .int) :: ((wsX5_rules_r1 ++ wsX5_rules_r2) ++ wsX50)
def wsX5_rule : List Cond := .code yX5_rule cX5_rule 2 (some .int) :: ([.fieldLink RX5 13 "JumpHillModel" "rule" "[I", .methodLink RX5 75 yX5_lies, .static yX5_lies, .initialized RX5, .code yX5_lies cX5_lies 3 (some .boolean)] ++ wsX50)
def wsX5_jumper : List Cond := .code yX5_jumper cX5_jumper 2 (some .int) :: ([.fieldLink RX5 94 "JumpHillModel" "jumpers" "I", .fieldLink RX5 24 "JumpHillModel" "team" "[I", .methodLink RX5 75 yX5_lies, .static yX5_lies, .initialized RX5, .code yX5_lies cX5_lies 3 (some .boolean)] ++ wsX50)
def wsX5_isJumper : List Cond := .code yX5_isJumper cX5_isJumper 2 (some .boolean) :: ([.fieldLink RX5 94 "JumpHillModel" "jumpers" "I", .methodLink RX5 75 yX5_lies, .static yX5_lies, .initialized RX5, .code yX5_lies cX5_lies 3 (some .boolean)] ++ wsX50)
def wsX5_sensor : List Cond := .code yX5_sensor cX5_sensor 3 (some .boolean) :: ([.fieldLink RX5 30 "JumpHillModel" "weight" "[I", .methodLink RX5 75 yX5_lies, .static yX5_lies, .initialized RX5, .code yX5_lies cX5_lies 3 (some .boolean)] ++ wsX50)
def wsX5_base : List Cond := .code yX5_base cX5_base 2 (some .boolean) :: ([.fieldLink RX5 20 "JumpHillModel" "base" "I", .methodLink RX5 75 yX5_lies, .static yX5_lies, .initialized RX5, .code yX5_lies cX5_lies 3 (some .boolean)] ++ wsX50)
def wsX5_isJump : List Cond := .code yX5_isJump cX5_isJump 2 (some .boolean) :: ([.methodLink RX5 97 yX5_isJumper, .instanceMethod yX5_isJumper, .selects RX5 yX5_isJumper yX5_isJumper, .initialized RX5, .code yX5_isJumper cX5_isJumper 2 (some .boolean), .fieldLink RX5 94 "JumpHillModel" "jumpers" "I", .methodLink RX5 75 yX5_lies, .static yX5_lies, .code yX5_lies cX5_lies 3 (some .boolean)] ++ wsX50)
def wsX5_tells : List Cond := .code yX5_tells cX5_tells 8 (some .int) :: ([.fieldLink RX5 33 "JumpHillModel" "sort" "[I", .fieldLink RX5 101 "JumpHillModel" "entries" "I", .fieldLink RX5 36 "JumpHillModel" "jump" "[I", .fieldLink RX5 39 "JumpHillModel" "value" "[I"] ++ wsX50)
def wsX5_reading : List Cond := .code yX5_reading cX5_reading 6 (some .int) :: ([.fieldLink RX5 101 "JumpHillModel" "entries" "I", .methodLink RX5 97 yX5_isJumper, .instanceMethod yX5_isJumper, .selects RX5 yX5_isJumper yX5_isJumper, .initialized RX5, .code yX5_isJumper cX5_isJumper 2 (some .boolean), .fieldLink RX5 94 "JumpHillModel" "jumpers" "I", .methodLink RX5 75 yX5_lies, .static yX5_lies, .code yX5_lies cX5_lies 3 (some .boolean), .methodLink RX5 104 yX5_tells, .instanceMethod yX5_tells, .selects RX5 yX5_tells yX5_tells, .code yX5_tells cX5_tells 8 (some .int), .fieldLink RX5 33 "JumpHillModel" "sort" "[I", .fieldLink RX5 36 "JumpHillModel" "jump" "[I", .fieldLink RX5 39 "JumpHillModel" "value" "[I"] ++ wsX50)
def wsX5_isWind : List Cond := .code yX5_isWind cX5_isWind 1 (some .boolean) :: ([.methodLink RX5 75 yX5_lies, .static yX5_lies, .initialized RX5, .code yX5_lies cX5_lies 3 (some .boolean)])
def wsX5_wind : List Cond := .code yX5_wind cX5_wind 7 (some .int) :: ([.fieldLink RX5 101 "JumpHillModel" "entries" "I", .methodLink RX5 108 yX5_isJump, .instanceMethod yX5_isJump, .selects RX5 yX5_isJump yX5_isJump, .initialized RX5, .code yX5_isJump cX5_isJump 2 (some .boolean), .methodLink RX5 97 yX5_isJumper, .instanceMethod yX5_isJumper, .selects RX5 yX5_isJumper yX5_isJumper, .code yX5_isJumper cX5_isJumper 2 (some .boolean), .fieldLink RX5 94 "JumpHillModel" "jumpers" "I", .methodLink RX5 75 yX5_lies, .static yX5_lies, .code yX5_lies cX5_lies 3 (some .boolean), .methodLink RX5 111 yX5_isWind, .static yX5_isWind, .code yX5_isWind cX5_isWind 1 (some .boolean), .methodLink RX5 104 yX5_tells, .instanceMethod yX5_tells, .selects RX5 yX5_tells yX5_tells, .code yX5_tells cX5_tells 8 (some .int), .fieldLink RX5 33 "JumpHillModel" "sort" "[I", .fieldLink RX5 36 "JumpHillModel" "jump" "[I", .fieldLink RX5 39 "JumpHillModel" "value" "[I"] ++ wsX50)
def wsX5_isMark : List Cond := .code yX5_isMark cX5_isMark 1 (some .boolean) :: ([.methodLink RX5 75 yX5_lies, .static yX5_lies, .initialized RX5, .code yX5_lies cX5_lies 3 (some .boolean)])
def wsX5_style : List Cond := .code yX5_style cX5_style 7 (some .int) :: ([.fieldLink RX5 101 "JumpHillModel" "entries" "I", .methodLink RX5 108 yX5_isJump, .instanceMethod yX5_isJump, .selects RX5 yX5_isJump yX5_isJump, .initialized RX5, .code yX5_isJump cX5_isJump 2 (some .boolean), .methodLink RX5 97 yX5_isJumper, .instanceMethod yX5_isJumper, .selects RX5 yX5_isJumper yX5_isJumper, .code yX5_isJumper cX5_isJumper 2 (some .boolean), .fieldLink RX5 94 "JumpHillModel" "jumpers" "I", .methodLink RX5 75 yX5_lies, .static yX5_lies, .code yX5_lies cX5_lies 3 (some .boolean), .methodLink RX5 114 yX5_isMark, .static yX5_isMark, .code yX5_isMark cX5_isMark 1 (some .boolean), .methodLink RX5 104 yX5_tells, .instanceMethod yX5_tells, .selects RX5 yX5_tells yX5_tells, .code yX5_tells cX5_tells 8 (some .int), .fieldLink RX5 33 "JumpHillModel" "sort" "[I", .fieldLink RX5 36 "JumpHillModel" "jump" "[I", .fieldLink RX5 39 "JumpHillModel" "value" "[I"] ++ wsX50)
def wsX5_lastOf : List Cond := .code yX5_lastOf cX5_lastOf 5 (some .int) :: ([.fieldLink RX5 33 "JumpHillModel" "sort" "[I", .fieldLink RX5 36 "JumpHillModel" "jump" "[I"] ++ wsX50)
def wsX5_isStruck : List Cond := .code yX5_isStruck cX5_isStruck 4 (some .boolean) :: ([.fieldLink RX5 39 "JumpHillModel" "value" "[I", .methodLink RX5 120 yX5_lastOf, .instanceMethod yX5_lastOf, .selects RX5 yX5_lastOf yX5_lastOf, .initialized RX5, .code yX5_lastOf cX5_lastOf 5 (some .int), .fieldLink RX5 33 "JumpHillModel" "sort" "[I", .fieldLink RX5 36 "JumpHillModel" "jump" "[I"] ++ wsX50)
def wsX5_strike_r1 : List Cond := [Cond.fieldLink RX5 101 "JumpHillModel" "entries" "I", Cond.methodLink RX5 97 yX5_isJumper, Cond.instanceMethod yX5_isJumper, Cond.selects RX5 yX5_isJumper yX5_isJumper, Cond.initialized RX5, Cond.code yX5_isJumper cX5_isJumper 2 (some .boolean), Cond.fieldLink RX5 94 "JumpHillModel" "jumpers" "I", Cond.methodLink RX5 75 yX5_lies, Cond.static yX5_lies, Cond.code yX5_lies cX5_lies 3 (some .boolean), Cond.methodLink RX5 117 yX5_isStruck, Cond.instanceMethod yX5_isStruck, Cond.selects RX5 yX5_isStruck yX5_isStruck, Cond.code yX5_isStruck cX5_isStruck 4 (some .boolean), Cond.fieldLink RX5 39 "JumpHillModel" "value" "[I", Cond.methodLink RX5 120 yX5_lastOf, Cond.instanceMethod yX5_lastOf, Cond.selects RX5 yX5_lastOf yX5_lastOf, Cond.code yX5_lastOf cX5_lastOf 5 (some .int), Cond.fieldLink RX5 33 "JumpHillModel" "sort" "[I", Cond.fieldLink RX5 36 "JumpHillModel" "jump" "[I", Cond.methodLink RX5 104 yX5_tells, Cond.instanceMethod yX5_tells, Cond.selects RX5 yX5_tells yX5_tells]
def wsX5_strike_r2 : List Cond := [Cond.code yX5_tells cX5_tells 8 (some .int)]
def wsX5_strike : List Cond := .code yX5_strike cX5_strike 4 (some .int) :: ((wsX5_strike_r1 ++ wsX5_strike_r2) ++ wsX50)
def wsX5_has : List Cond := .code yX5_has cX5_has 3 (some .boolean) :: ([.methodLink RX5 120 yX5_lastOf, .instanceMethod yX5_lastOf, .selects RX5 yX5_lastOf yX5_lastOf, .initialized RX5, .code yX5_lastOf cX5_lastOf 5 (some .int), .fieldLink RX5 33 "JumpHillModel" "sort" "[I", .fieldLink RX5 36 "JumpHillModel" "jump" "[I", .methodLink RX5 117 yX5_isStruck, .instanceMethod yX5_isStruck, .selects RX5 yX5_isStruck yX5_isStruck, .code yX5_isStruck cX5_isStruck 4 (some .boolean), .fieldLink RX5 39 "JumpHillModel" "value" "[I"] ++ wsX50)
def wsX5_nearest : List Cond := .code yX5_nearest cX5_nearest 4 (some .int) :: ([])
def wsX5_mean : List Cond := .code yX5_mean cX5_mean 7 (some .int) :: ([.fieldLink RX5 39 "JumpHillModel" "value" "[I", .fieldLink RX5 30 "JumpHillModel" "weight" "[I", .methodLink RX5 120 yX5_lastOf, .instanceMethod yX5_lastOf, .selects RX5 yX5_lastOf yX5_lastOf, .initialized RX5, .code yX5_lastOf cX5_lastOf 5 (some .int), .fieldLink RX5 33 "JumpHillModel" "sort" "[I", .fieldLink RX5 36 "JumpHillModel" "jump" "[I", .methodLink RX5 124 yX5_nearest, .static yX5_nearest, .code yX5_nearest cX5_nearest 4 (some .int)] ++ wsX50)
def wsX5_style_ : List Cond := .code yX5_style_ cX5_style_ 9 (some .int) :: ([.fieldLink RX5 39 "JumpHillModel" "value" "[I", .methodLink RX5 120 yX5_lastOf, .instanceMethod yX5_lastOf, .selects RX5 yX5_lastOf yX5_lastOf, .initialized RX5, .code yX5_lastOf cX5_lastOf 5 (some .int), .fieldLink RX5 33 "JumpHillModel" "sort" "[I", .fieldLink RX5 36 "JumpHillModel" "jump" "[I"] ++ wsX50)
def wsX5_part : List Cond := .code yX5_part cX5_part 5 (some .int) :: ([.fieldLink RX5 13 "JumpHillModel" "rule" "[I", .fieldLink RX5 39 "JumpHillModel" "value" "[I", .fieldLink RX5 20 "JumpHillModel" "base" "I", .methodLink RX5 120 yX5_lastOf, .instanceMethod yX5_lastOf, .selects RX5 yX5_lastOf yX5_lastOf, .initialized RX5, .code yX5_lastOf cX5_lastOf 5 (some .int), .fieldLink RX5 33 "JumpHillModel" "sort" "[I", .fieldLink RX5 36 "JumpHillModel" "jump" "[I", .methodLink RX5 127 yX5_style_, .instanceMethod yX5_style_, .selects RX5 yX5_style_ yX5_style_, .code yX5_style_ cX5_style_ 9 (some .int), .methodLink RX5 130 yX5_mean, .instanceMethod yX5_mean, .selects RX5 yX5_mean yX5_mean, .code yX5_mean cX5_mean 7 (some .int), .fieldLink RX5 30 "JumpHillModel" "weight" "[I", .methodLink RX5 124 yX5_nearest, .static yX5_nearest, .code yX5_nearest cX5_nearest 4 (some .int)] ++ wsX50)
def wsX5_without_r1 : List Cond := [Cond.methodLink RX5 133 yX5_part, Cond.instanceMethod yX5_part, Cond.selects RX5 yX5_part yX5_part, Cond.initialized RX5, Cond.code yX5_part cX5_part 5 (some .int), Cond.fieldLink RX5 13 "JumpHillModel" "rule" "[I", Cond.fieldLink RX5 39 "JumpHillModel" "value" "[I", Cond.fieldLink RX5 20 "JumpHillModel" "base" "I", Cond.methodLink RX5 120 yX5_lastOf, Cond.instanceMethod yX5_lastOf, Cond.selects RX5 yX5_lastOf yX5_lastOf, Cond.code yX5_lastOf cX5_lastOf 5 (some .int), Cond.fieldLink RX5 33 "JumpHillModel" "sort" "[I", Cond.fieldLink RX5 36 "JumpHillModel" "jump" "[I", Cond.methodLink RX5 127 yX5_style_, Cond.instanceMethod yX5_style_, Cond.selects RX5 yX5_style_ yX5_style_, Cond.code yX5_style_ cX5_style_ 9 (some .int), Cond.methodLink RX5 130 yX5_mean, Cond.instanceMethod yX5_mean, Cond.selects RX5 yX5_mean yX5_mean, Cond.code yX5_mean cX5_mean 7 (some .int), Cond.fieldLink RX5 30 "JumpHillModel" "weight" "[I", Cond.methodLink RX5 124 yX5_nearest]
def wsX5_without_r2 : List Cond := [Cond.static yX5_nearest, Cond.code yX5_nearest cX5_nearest 4 (some .int)]
def wsX5_without : List Cond := .code yX5_without cX5_without 6 (some .int) :: ((wsX5_without_r1 ++ wsX5_without_r2) ++ wsX50)
def wsX5_isKnowing : List Cond := .code yX5_isKnowing cX5_isKnowing 2 (some .boolean) :: ([.fieldLink RX5 101 "JumpHillModel" "entries" "I", .methodLink RX5 75 yX5_lies, .static yX5_lies, .initialized RX5, .code yX5_lies cX5_lies 3 (some .boolean)] ++ wsX50)
def wsX5_points_r1 : List Cond := [Cond.methodLink RX5 136 yX5_isKnowing, Cond.instanceMethod yX5_isKnowing, Cond.selects RX5 yX5_isKnowing yX5_isKnowing, Cond.initialized RX5, Cond.code yX5_isKnowing cX5_isKnowing 2 (some .boolean), Cond.fieldLink RX5 101 "JumpHillModel" "entries" "I", Cond.methodLink RX5 75 yX5_lies, Cond.static yX5_lies, Cond.code yX5_lies cX5_lies 3 (some .boolean), Cond.methodLink RX5 97 yX5_isJumper, Cond.instanceMethod yX5_isJumper, Cond.selects RX5 yX5_isJumper yX5_isJumper, Cond.code yX5_isJumper cX5_isJumper 2 (some .boolean), Cond.fieldLink RX5 94 "JumpHillModel" "jumpers" "I", Cond.methodLink RX5 130 yX5_mean, Cond.instanceMethod yX5_mean, Cond.selects RX5 yX5_mean yX5_mean, Cond.code yX5_mean cX5_mean 7 (some .int), Cond.fieldLink RX5 39 "JumpHillModel" "value" "[I", Cond.fieldLink RX5 30 "JumpHillModel" "weight" "[I", Cond.methodLink RX5 120 yX5_lastOf, Cond.instanceMethod yX5_lastOf, Cond.selects RX5 yX5_lastOf yX5_lastOf, Cond.code yX5_lastOf cX5_lastOf 5 (some .int)]
def wsX5_points_r2 : List Cond := [Cond.fieldLink RX5 33 "JumpHillModel" "sort" "[I", Cond.fieldLink RX5 36 "JumpHillModel" "jump" "[I", Cond.methodLink RX5 124 yX5_nearest, Cond.static yX5_nearest, Cond.code yX5_nearest cX5_nearest 4 (some .int), Cond.methodLink RX5 139 yX5_has, Cond.instanceMethod yX5_has, Cond.selects RX5 yX5_has yX5_has, Cond.code yX5_has cX5_has 3 (some .boolean), Cond.methodLink RX5 117 yX5_isStruck, Cond.instanceMethod yX5_isStruck, Cond.selects RX5 yX5_isStruck yX5_isStruck, Cond.code yX5_isStruck cX5_isStruck 4 (some .boolean), Cond.methodLink RX5 142 yX5_without, Cond.instanceMethod yX5_without, Cond.selects RX5 yX5_without yX5_without, Cond.code yX5_without cX5_without 6 (some .int), Cond.methodLink RX5 133 yX5_part, Cond.instanceMethod yX5_part, Cond.selects RX5 yX5_part yX5_part, Cond.code yX5_part cX5_part 5 (some .int), Cond.fieldLink RX5 13 "JumpHillModel" "rule" "[I", Cond.fieldLink RX5 20 "JumpHillModel" "base" "I", Cond.methodLink RX5 127 yX5_style_]
def wsX5_points_r3 : List Cond := [Cond.instanceMethod yX5_style_, Cond.selects RX5 yX5_style_ yX5_style_, Cond.code yX5_style_ cX5_style_ 9 (some .int)]
def wsX5_points : List Cond := .code yX5_points cX5_points 6 (some .int) :: ((wsX5_points_r1 ++ (wsX5_points_r2 ++ wsX5_points_r3)) ++ wsX50)
def wsX5_works_r1 : List Cond := [Cond.fieldLink RX5 94 "JumpHillModel" "jumpers" "I", Cond.fieldLink RX5 48 "JumpHillModel" "isOn" "[Z", Cond.fieldLink RX5 55 "JumpHillModel" "one" "[I", Cond.fieldLink RX5 52 "JumpHillModel" "isThrough" "[Z", Cond.fieldLink RX5 13 "JumpHillModel" "rule" "[I", Cond.fieldLink RX5 58 "JumpHillModel" "total" "[I", Cond.methodLink RX5 139 yX5_has, Cond.instanceMethod yX5_has, Cond.selects RX5 yX5_has yX5_has, Cond.initialized RX5, Cond.code yX5_has cX5_has 3 (some .boolean), Cond.methodLink RX5 120 yX5_lastOf, Cond.instanceMethod yX5_lastOf, Cond.selects RX5 yX5_lastOf yX5_lastOf, Cond.code yX5_lastOf cX5_lastOf 5 (some .int), Cond.fieldLink RX5 33 "JumpHillModel" "sort" "[I", Cond.fieldLink RX5 36 "JumpHillModel" "jump" "[I", Cond.methodLink RX5 117 yX5_isStruck, Cond.instanceMethod yX5_isStruck, Cond.selects RX5 yX5_isStruck yX5_isStruck, Cond.code yX5_isStruck cX5_isStruck 4 (some .boolean), Cond.fieldLink RX5 39 "JumpHillModel" "value" "[I", Cond.methodLink RX5 142 yX5_without, Cond.instanceMethod yX5_without]
def wsX5_works_r2 : List Cond := [Cond.selects RX5 yX5_without yX5_without, Cond.code yX5_without cX5_without 6 (some .int), Cond.methodLink RX5 133 yX5_part, Cond.instanceMethod yX5_part, Cond.selects RX5 yX5_part yX5_part, Cond.code yX5_part cX5_part 5 (some .int), Cond.fieldLink RX5 20 "JumpHillModel" "base" "I", Cond.methodLink RX5 127 yX5_style_, Cond.instanceMethod yX5_style_, Cond.selects RX5 yX5_style_ yX5_style_, Cond.code yX5_style_ cX5_style_ 9 (some .int), Cond.methodLink RX5 130 yX5_mean, Cond.instanceMethod yX5_mean, Cond.selects RX5 yX5_mean yX5_mean, Cond.code yX5_mean cX5_mean 7 (some .int), Cond.fieldLink RX5 30 "JumpHillModel" "weight" "[I", Cond.methodLink RX5 124 yX5_nearest, Cond.static yX5_nearest, Cond.code yX5_nearest cX5_nearest 4 (some .int)]
def wsX5_works : List Cond := .code yX5_works cX5_works 6 none :: ((wsX5_works_r1 ++ wsX5_works_r2) ++ wsX50)
def wsX5_isBefore : List Cond := .code yX5_isBefore cX5_isBefore 3 (some .boolean) :: ([.fieldLink RX5 48 "JumpHillModel" "isOn" "[Z", .fieldLink RX5 52 "JumpHillModel" "isThrough" "[Z", .fieldLink RX5 58 "JumpHillModel" "total" "[I"] ++ wsX50)
def wsX5_place : List Cond := .code yX5_place cX5_place 4 (some .int) :: ([.fieldLink RX5 94 "JumpHillModel" "jumpers" "I", .methodLink RX5 145 yX5_isBefore, .instanceMethod yX5_isBefore, .selects RX5 yX5_isBefore yX5_isBefore, .initialized RX5, .code yX5_isBefore cX5_isBefore 3 (some .boolean), .fieldLink RX5 48 "JumpHillModel" "isOn" "[Z", .fieldLink RX5 52 "JumpHillModel" "isThrough" "[Z", .fieldLink RX5 58 "JumpHillModel" "total" "[I"] ++ wsX50)
def wsX5_told_r1 : List Cond := [Cond.fieldLink RX5 24 "JumpHillModel" "team" "[I", Cond.fieldLink RX5 27 "JumpHillModel" "season" "[I", Cond.fieldLink RX5 52 "JumpHillModel" "isThrough" "[Z", Cond.fieldLink RX5 48 "JumpHillModel" "isOn" "[Z", Cond.fieldLink RX5 58 "JumpHillModel" "total" "[I", Cond.methodLink RX5 97 yX5_isJumper, Cond.instanceMethod yX5_isJumper, Cond.selects RX5 yX5_isJumper yX5_isJumper, Cond.initialized RX5, Cond.code yX5_isJumper cX5_isJumper 2 (some .boolean), Cond.fieldLink RX5 94 "JumpHillModel" "jumpers" "I", Cond.methodLink RX5 75 yX5_lies, Cond.static yX5_lies, Cond.code yX5_lies cX5_lies 3 (some .boolean), Cond.methodLink RX5 136 yX5_isKnowing, Cond.instanceMethod yX5_isKnowing, Cond.selects RX5 yX5_isKnowing yX5_isKnowing, Cond.code yX5_isKnowing cX5_isKnowing 2 (some .boolean), Cond.fieldLink RX5 101 "JumpHillModel" "entries" "I", Cond.methodLink RX5 148 yX5_works, Cond.instanceMethod yX5_works, Cond.selects RX5 yX5_works yX5_works, Cond.code yX5_works cX5_works 6 none, Cond.fieldLink RX5 55 "JumpHillModel" "one" "[I"]
def wsX5_told_r2 : List Cond := [Cond.fieldLink RX5 13 "JumpHillModel" "rule" "[I", Cond.methodLink RX5 139 yX5_has, Cond.instanceMethod yX5_has, Cond.selects RX5 yX5_has yX5_has, Cond.code yX5_has cX5_has 3 (some .boolean), Cond.methodLink RX5 120 yX5_lastOf, Cond.instanceMethod yX5_lastOf, Cond.selects RX5 yX5_lastOf yX5_lastOf, Cond.code yX5_lastOf cX5_lastOf 5 (some .int), Cond.fieldLink RX5 33 "JumpHillModel" "sort" "[I", Cond.fieldLink RX5 36 "JumpHillModel" "jump" "[I", Cond.methodLink RX5 117 yX5_isStruck, Cond.instanceMethod yX5_isStruck, Cond.selects RX5 yX5_isStruck yX5_isStruck, Cond.code yX5_isStruck cX5_isStruck 4 (some .boolean), Cond.fieldLink RX5 39 "JumpHillModel" "value" "[I", Cond.methodLink RX5 142 yX5_without, Cond.instanceMethod yX5_without, Cond.selects RX5 yX5_without yX5_without, Cond.code yX5_without cX5_without 6 (some .int), Cond.methodLink RX5 133 yX5_part, Cond.instanceMethod yX5_part, Cond.selects RX5 yX5_part yX5_part, Cond.code yX5_part cX5_part 5 (some .int)]
def wsX5_told_r3 : List Cond := [Cond.fieldLink RX5 20 "JumpHillModel" "base" "I", Cond.methodLink RX5 127 yX5_style_, Cond.instanceMethod yX5_style_, Cond.selects RX5 yX5_style_ yX5_style_, Cond.code yX5_style_ cX5_style_ 9 (some .int), Cond.methodLink RX5 130 yX5_mean, Cond.instanceMethod yX5_mean, Cond.selects RX5 yX5_mean yX5_mean, Cond.code yX5_mean cX5_mean 7 (some .int), Cond.fieldLink RX5 30 "JumpHillModel" "weight" "[I", Cond.methodLink RX5 124 yX5_nearest, Cond.static yX5_nearest, Cond.code yX5_nearest cX5_nearest 4 (some .int), Cond.methodLink RX5 151 yX5_place, Cond.instanceMethod yX5_place, Cond.selects RX5 yX5_place yX5_place, Cond.code yX5_place cX5_place 4 (some .int), Cond.methodLink RX5 145 yX5_isBefore, Cond.instanceMethod yX5_isBefore, Cond.selects RX5 yX5_isBefore yX5_isBefore, Cond.code yX5_isBefore cX5_isBefore 3 (some .boolean)]
def wsX5_told : List Cond := .code yX5_told cX5_told 4 (some .int) :: ((wsX5_told_r1 ++ (wsX5_told_r2 ++ wsX5_told_r3)) ++ wsX50)
def wsX5_list_r1 : List Cond := [Cond.fieldLink RX5 94 "JumpHillModel" "jumpers" "I", Cond.fieldLink RX5 48 "JumpHillModel" "isOn" "[Z", Cond.fieldLink RX5 52 "JumpHillModel" "isThrough" "[Z", Cond.fieldLink RX5 58 "JumpHillModel" "total" "[I", Cond.methodLink RX5 136 yX5_isKnowing, Cond.instanceMethod yX5_isKnowing, Cond.selects RX5 yX5_isKnowing yX5_isKnowing, Cond.initialized RX5, Cond.code yX5_isKnowing cX5_isKnowing 2 (some .boolean), Cond.fieldLink RX5 101 "JumpHillModel" "entries" "I", Cond.methodLink RX5 75 yX5_lies, Cond.static yX5_lies, Cond.code yX5_lies cX5_lies 3 (some .boolean), Cond.methodLink RX5 148 yX5_works, Cond.instanceMethod yX5_works, Cond.selects RX5 yX5_works yX5_works, Cond.code yX5_works cX5_works 6 none, Cond.fieldLink RX5 55 "JumpHillModel" "one" "[I", Cond.fieldLink RX5 13 "JumpHillModel" "rule" "[I", Cond.methodLink RX5 139 yX5_has, Cond.instanceMethod yX5_has, Cond.selects RX5 yX5_has yX5_has, Cond.code yX5_has cX5_has 3 (some .boolean), Cond.methodLink RX5 120 yX5_lastOf]
def wsX5_list_r2 : List Cond := [Cond.instanceMethod yX5_lastOf, Cond.selects RX5 yX5_lastOf yX5_lastOf, Cond.code yX5_lastOf cX5_lastOf 5 (some .int), Cond.fieldLink RX5 33 "JumpHillModel" "sort" "[I", Cond.fieldLink RX5 36 "JumpHillModel" "jump" "[I", Cond.methodLink RX5 117 yX5_isStruck, Cond.instanceMethod yX5_isStruck, Cond.selects RX5 yX5_isStruck yX5_isStruck, Cond.code yX5_isStruck cX5_isStruck 4 (some .boolean), Cond.fieldLink RX5 39 "JumpHillModel" "value" "[I", Cond.methodLink RX5 142 yX5_without, Cond.instanceMethod yX5_without, Cond.selects RX5 yX5_without yX5_without, Cond.code yX5_without cX5_without 6 (some .int), Cond.methodLink RX5 133 yX5_part, Cond.instanceMethod yX5_part, Cond.selects RX5 yX5_part yX5_part, Cond.code yX5_part cX5_part 5 (some .int), Cond.fieldLink RX5 20 "JumpHillModel" "base" "I", Cond.methodLink RX5 127 yX5_style_, Cond.instanceMethod yX5_style_, Cond.selects RX5 yX5_style_ yX5_style_, Cond.code yX5_style_ cX5_style_ 9 (some .int), Cond.methodLink RX5 130 yX5_mean]
def wsX5_list_r3 : List Cond := [Cond.instanceMethod yX5_mean, Cond.selects RX5 yX5_mean yX5_mean, Cond.code yX5_mean cX5_mean 7 (some .int), Cond.fieldLink RX5 30 "JumpHillModel" "weight" "[I", Cond.methodLink RX5 124 yX5_nearest, Cond.static yX5_nearest, Cond.code yX5_nearest cX5_nearest 4 (some .int), Cond.methodLink RX5 151 yX5_place, Cond.instanceMethod yX5_place, Cond.selects RX5 yX5_place yX5_place, Cond.code yX5_place cX5_place 4 (some .int), Cond.methodLink RX5 145 yX5_isBefore, Cond.instanceMethod yX5_isBefore, Cond.selects RX5 yX5_isBefore yX5_isBefore, Cond.code yX5_isBefore cX5_isBefore 3 (some .boolean)]
def wsX5_list : List Cond := .code yX5_list cX5_list 6 (some .int) :: ((wsX5_list_r1 ++ (wsX5_list_r2 ++ wsX5_list_r3)) ++ wsX50)
def wsX5_start_r1 : List Cond := [Cond.fieldLink RX5 94 "JumpHillModel" "jumpers" "I", Cond.fieldLink RX5 52 "JumpHillModel" "isThrough" "[Z", Cond.fieldLink RX5 55 "JumpHillModel" "one" "[I", Cond.methodLink RX5 136 yX5_isKnowing, Cond.instanceMethod yX5_isKnowing, Cond.selects RX5 yX5_isKnowing yX5_isKnowing, Cond.initialized RX5, Cond.code yX5_isKnowing cX5_isKnowing 2 (some .boolean), Cond.fieldLink RX5 101 "JumpHillModel" "entries" "I", Cond.methodLink RX5 75 yX5_lies, Cond.static yX5_lies, Cond.code yX5_lies cX5_lies 3 (some .boolean), Cond.methodLink RX5 97 yX5_isJumper, Cond.instanceMethod yX5_isJumper, Cond.selects RX5 yX5_isJumper yX5_isJumper, Cond.code yX5_isJumper cX5_isJumper 2 (some .boolean), Cond.methodLink RX5 148 yX5_works, Cond.instanceMethod yX5_works, Cond.selects RX5 yX5_works yX5_works, Cond.code yX5_works cX5_works 6 none, Cond.fieldLink RX5 48 "JumpHillModel" "isOn" "[Z", Cond.fieldLink RX5 13 "JumpHillModel" "rule" "[I", Cond.fieldLink RX5 58 "JumpHillModel" "total" "[I", Cond.methodLink RX5 139 yX5_has]
def wsX5_start_r2 : List Cond := [Cond.instanceMethod yX5_has, Cond.selects RX5 yX5_has yX5_has, Cond.code yX5_has cX5_has 3 (some .boolean), Cond.methodLink RX5 120 yX5_lastOf, Cond.instanceMethod yX5_lastOf, Cond.selects RX5 yX5_lastOf yX5_lastOf, Cond.code yX5_lastOf cX5_lastOf 5 (some .int), Cond.fieldLink RX5 33 "JumpHillModel" "sort" "[I", Cond.fieldLink RX5 36 "JumpHillModel" "jump" "[I", Cond.methodLink RX5 117 yX5_isStruck, Cond.instanceMethod yX5_isStruck, Cond.selects RX5 yX5_isStruck yX5_isStruck, Cond.code yX5_isStruck cX5_isStruck 4 (some .boolean), Cond.fieldLink RX5 39 "JumpHillModel" "value" "[I", Cond.methodLink RX5 142 yX5_without, Cond.instanceMethod yX5_without, Cond.selects RX5 yX5_without yX5_without, Cond.code yX5_without cX5_without 6 (some .int), Cond.methodLink RX5 133 yX5_part, Cond.instanceMethod yX5_part, Cond.selects RX5 yX5_part yX5_part, Cond.code yX5_part cX5_part 5 (some .int), Cond.fieldLink RX5 20 "JumpHillModel" "base" "I", Cond.methodLink RX5 127 yX5_style_]
def wsX5_start_r3 : List Cond := [Cond.instanceMethod yX5_style_, Cond.selects RX5 yX5_style_ yX5_style_, Cond.code yX5_style_ cX5_style_ 9 (some .int), Cond.methodLink RX5 130 yX5_mean, Cond.instanceMethod yX5_mean, Cond.selects RX5 yX5_mean yX5_mean, Cond.code yX5_mean cX5_mean 7 (some .int), Cond.fieldLink RX5 30 "JumpHillModel" "weight" "[I", Cond.methodLink RX5 124 yX5_nearest, Cond.static yX5_nearest, Cond.code yX5_nearest cX5_nearest 4 (some .int)]
def wsX5_start : List Cond := .code yX5_start cX5_start 7 (some .int) :: ((wsX5_start_r1 ++ (wsX5_start_r2 ++ wsX5_start_r3)) ++ wsX50)
def wsX5_team_r1 : List Cond := [Cond.fieldLink RX5 94 "JumpHillModel" "jumpers" "I", Cond.fieldLink RX5 48 "JumpHillModel" "isOn" "[Z", Cond.fieldLink RX5 24 "JumpHillModel" "team" "[I", Cond.fieldLink RX5 58 "JumpHillModel" "total" "[I", Cond.methodLink RX5 136 yX5_isKnowing, Cond.instanceMethod yX5_isKnowing, Cond.selects RX5 yX5_isKnowing yX5_isKnowing, Cond.initialized RX5, Cond.code yX5_isKnowing cX5_isKnowing 2 (some .boolean), Cond.fieldLink RX5 101 "JumpHillModel" "entries" "I", Cond.methodLink RX5 75 yX5_lies, Cond.static yX5_lies, Cond.code yX5_lies cX5_lies 3 (some .boolean), Cond.methodLink RX5 148 yX5_works, Cond.instanceMethod yX5_works, Cond.selects RX5 yX5_works yX5_works, Cond.code yX5_works cX5_works 6 none, Cond.fieldLink RX5 55 "JumpHillModel" "one" "[I", Cond.fieldLink RX5 52 "JumpHillModel" "isThrough" "[Z", Cond.fieldLink RX5 13 "JumpHillModel" "rule" "[I", Cond.methodLink RX5 139 yX5_has, Cond.instanceMethod yX5_has, Cond.selects RX5 yX5_has yX5_has, Cond.code yX5_has cX5_has 3 (some .boolean)]
def wsX5_team_r2 : List Cond := [Cond.methodLink RX5 120 yX5_lastOf, Cond.instanceMethod yX5_lastOf, Cond.selects RX5 yX5_lastOf yX5_lastOf, Cond.code yX5_lastOf cX5_lastOf 5 (some .int), Cond.fieldLink RX5 33 "JumpHillModel" "sort" "[I", Cond.fieldLink RX5 36 "JumpHillModel" "jump" "[I", Cond.methodLink RX5 117 yX5_isStruck, Cond.instanceMethod yX5_isStruck, Cond.selects RX5 yX5_isStruck yX5_isStruck, Cond.code yX5_isStruck cX5_isStruck 4 (some .boolean), Cond.fieldLink RX5 39 "JumpHillModel" "value" "[I", Cond.methodLink RX5 142 yX5_without, Cond.instanceMethod yX5_without, Cond.selects RX5 yX5_without yX5_without, Cond.code yX5_without cX5_without 6 (some .int), Cond.methodLink RX5 133 yX5_part, Cond.instanceMethod yX5_part, Cond.selects RX5 yX5_part yX5_part, Cond.code yX5_part cX5_part 5 (some .int), Cond.fieldLink RX5 20 "JumpHillModel" "base" "I", Cond.methodLink RX5 127 yX5_style_, Cond.instanceMethod yX5_style_, Cond.selects RX5 yX5_style_ yX5_style_, Cond.code yX5_style_ cX5_style_ 9 (some .int)]
def wsX5_team_r3 : List Cond := [Cond.methodLink RX5 130 yX5_mean, Cond.instanceMethod yX5_mean, Cond.selects RX5 yX5_mean yX5_mean, Cond.code yX5_mean cX5_mean 7 (some .int), Cond.fieldLink RX5 30 "JumpHillModel" "weight" "[I", Cond.methodLink RX5 124 yX5_nearest, Cond.static yX5_nearest, Cond.code yX5_nearest cX5_nearest 4 (some .int)]
def wsX5_team : List Cond := .code yX5_team cX5_team 8 (some .int) :: ((wsX5_team_r1 ++ (wsX5_team_r2 ++ wsX5_team_r3)) ++ wsX50)
def wsX5_isClean : List Cond := .code yX5_isClean cX5_isClean 4 (some .boolean) :: ([.fieldLink RX5 101 "JumpHillModel" "entries" "I", .fieldLink RX5 39 "JumpHillModel" "value" "[I", .methodLink RX5 120 yX5_lastOf, .instanceMethod yX5_lastOf, .selects RX5 yX5_lastOf yX5_lastOf, .initialized RX5, .code yX5_lastOf cX5_lastOf 5 (some .int), .fieldLink RX5 33 "JumpHillModel" "sort" "[I", .fieldLink RX5 36 "JumpHillModel" "jump" "[I"] ++ wsX50)
def wsX5_longest : List Cond := .code yX5_longest cX5_longest 4 (some .int) :: ([.fieldLink RX5 101 "JumpHillModel" "entries" "I", .fieldLink RX5 36 "JumpHillModel" "jump" "[I", .fieldLink RX5 33 "JumpHillModel" "sort" "[I", .fieldLink RX5 39 "JumpHillModel" "value" "[I", .methodLink RX5 120 yX5_lastOf, .instanceMethod yX5_lastOf, .selects RX5 yX5_lastOf yX5_lastOf, .initialized RX5, .code yX5_lastOf cX5_lastOf 5 (some .int), .methodLink RX5 139 yX5_has, .instanceMethod yX5_has, .selects RX5 yX5_has yX5_has, .code yX5_has cX5_has 3 (some .boolean), .methodLink RX5 117 yX5_isStruck, .instanceMethod yX5_isStruck, .selects RX5 yX5_isStruck yX5_isStruck, .code yX5_isStruck cX5_isStruck 4 (some .boolean), .methodLink RX5 154 yX5_isClean, .instanceMethod yX5_isClean, .selects RX5 yX5_isClean yX5_isClean, .code yX5_isClean cX5_isClean 4 (some .boolean)] ++ wsX50)
def wsX5_isGreater : List Cond := .code yX5_isGreater cX5_isGreater 2 (some .boolean) :: ([.fieldLink RX5 42 "JumpHillModel" "bestLength" "I", .fieldLink RX5 39 "JumpHillModel" "value" "[I"] ++ wsX50)
def wsX5_record_r1 : List Cond := [Cond.fieldLink RX5 42 "JumpHillModel" "bestLength" "I", Cond.fieldLink RX5 45 "JumpHillModel" "bestJumper" "I", Cond.fieldLink RX5 39 "JumpHillModel" "value" "[I", Cond.fieldLink RX5 36 "JumpHillModel" "jump" "[I", Cond.methodLink RX5 75 yX5_lies, Cond.static yX5_lies, Cond.initialized RX5, Cond.code yX5_lies cX5_lies 3 (some .boolean), Cond.methodLink RX5 157 yX5_longest, Cond.instanceMethod yX5_longest, Cond.selects RX5 yX5_longest yX5_longest, Cond.code yX5_longest cX5_longest 4 (some .int), Cond.fieldLink RX5 101 "JumpHillModel" "entries" "I", Cond.fieldLink RX5 33 "JumpHillModel" "sort" "[I", Cond.methodLink RX5 120 yX5_lastOf, Cond.instanceMethod yX5_lastOf, Cond.selects RX5 yX5_lastOf yX5_lastOf, Cond.code yX5_lastOf cX5_lastOf 5 (some .int), Cond.methodLink RX5 139 yX5_has, Cond.instanceMethod yX5_has, Cond.selects RX5 yX5_has yX5_has, Cond.code yX5_has cX5_has 3 (some .boolean), Cond.methodLink RX5 117 yX5_isStruck, Cond.instanceMethod yX5_isStruck]
def wsX5_record_r2 : List Cond := [Cond.selects RX5 yX5_isStruck yX5_isStruck, Cond.code yX5_isStruck cX5_isStruck 4 (some .boolean), Cond.methodLink RX5 154 yX5_isClean, Cond.instanceMethod yX5_isClean, Cond.selects RX5 yX5_isClean yX5_isClean, Cond.code yX5_isClean cX5_isClean 4 (some .boolean), Cond.methodLink RX5 161 yX5_isGreater, Cond.instanceMethod yX5_isGreater, Cond.selects RX5 yX5_isGreater yX5_isGreater, Cond.code yX5_isGreater cX5_isGreater 2 (some .boolean)]
def wsX5_record : List Cond := .code yX5_record cX5_record 3 (some .int) :: ((wsX5_record_r1 ++ wsX5_record_r2) ++ wsX50)
def wsX5_differ_r1 : List Cond := [Cond.fieldLink RX5 94 "JumpHillModel" "jumpers" "I", Cond.fieldLink RX5 61 "JumpHillModel" "was" "[I", Cond.fieldLink RX5 48 "JumpHillModel" "isOn" "[Z", Cond.methodLink RX5 136 yX5_isKnowing, Cond.instanceMethod yX5_isKnowing, Cond.selects RX5 yX5_isKnowing yX5_isKnowing, Cond.initialized RX5, Cond.code yX5_isKnowing cX5_isKnowing 2 (some .boolean), Cond.fieldLink RX5 101 "JumpHillModel" "entries" "I", Cond.methodLink RX5 75 yX5_lies, Cond.static yX5_lies, Cond.code yX5_lies cX5_lies 3 (some .boolean), Cond.methodLink RX5 148 yX5_works, Cond.instanceMethod yX5_works, Cond.selects RX5 yX5_works yX5_works, Cond.code yX5_works cX5_works 6 none, Cond.fieldLink RX5 55 "JumpHillModel" "one" "[I", Cond.fieldLink RX5 52 "JumpHillModel" "isThrough" "[Z", Cond.fieldLink RX5 13 "JumpHillModel" "rule" "[I", Cond.fieldLink RX5 58 "JumpHillModel" "total" "[I", Cond.methodLink RX5 139 yX5_has, Cond.instanceMethod yX5_has, Cond.selects RX5 yX5_has yX5_has, Cond.code yX5_has cX5_has 3 (some .boolean)]
def wsX5_differ_r2 : List Cond := [Cond.methodLink RX5 120 yX5_lastOf, Cond.instanceMethod yX5_lastOf, Cond.selects RX5 yX5_lastOf yX5_lastOf, Cond.code yX5_lastOf cX5_lastOf 5 (some .int), Cond.fieldLink RX5 33 "JumpHillModel" "sort" "[I", Cond.fieldLink RX5 36 "JumpHillModel" "jump" "[I", Cond.methodLink RX5 117 yX5_isStruck, Cond.instanceMethod yX5_isStruck, Cond.selects RX5 yX5_isStruck yX5_isStruck, Cond.code yX5_isStruck cX5_isStruck 4 (some .boolean), Cond.fieldLink RX5 39 "JumpHillModel" "value" "[I", Cond.methodLink RX5 142 yX5_without, Cond.instanceMethod yX5_without, Cond.selects RX5 yX5_without yX5_without, Cond.code yX5_without cX5_without 6 (some .int), Cond.methodLink RX5 133 yX5_part, Cond.instanceMethod yX5_part, Cond.selects RX5 yX5_part yX5_part, Cond.code yX5_part cX5_part 5 (some .int), Cond.fieldLink RX5 20 "JumpHillModel" "base" "I", Cond.methodLink RX5 127 yX5_style_, Cond.instanceMethod yX5_style_, Cond.selects RX5 yX5_style_ yX5_style_, Cond.code yX5_style_ cX5_style_ 9 (some .int)]
def wsX5_differ_r3 : List Cond := [Cond.methodLink RX5 130 yX5_mean, Cond.instanceMethod yX5_mean, Cond.selects RX5 yX5_mean yX5_mean, Cond.code yX5_mean cX5_mean 7 (some .int), Cond.fieldLink RX5 30 "JumpHillModel" "weight" "[I", Cond.methodLink RX5 124 yX5_nearest, Cond.static yX5_nearest, Cond.code yX5_nearest cX5_nearest 4 (some .int), Cond.methodLink RX5 151 yX5_place, Cond.instanceMethod yX5_place, Cond.selects RX5 yX5_place yX5_place, Cond.code yX5_place cX5_place 4 (some .int), Cond.methodLink RX5 145 yX5_isBefore, Cond.instanceMethod yX5_isBefore, Cond.selects RX5 yX5_isBefore yX5_isBefore, Cond.code yX5_isBefore cX5_isBefore 3 (some .boolean)]
def wsX5_differ : List Cond := .code yX5_differ cX5_differ 6 (some .int) :: ((wsX5_differ_r1 ++ (wsX5_differ_r2 ++ wsX5_differ_r3)) ++ wsX50)
def wsX5_close_r1 : List Cond := [Cond.fieldLink RX5 101 "JumpHillModel" "entries" "I", Cond.fieldLink RX5 94 "JumpHillModel" "jumpers" "I", Cond.fieldLink RX5 48 "JumpHillModel" "isOn" "[Z", Cond.fieldLink RX5 27 "JumpHillModel" "season" "[I", Cond.fieldLink RX5 164 "JumpHillModel" "SEASON" "[I", Cond.fieldLink RX5 39 "JumpHillModel" "value" "[I", Cond.fieldLink RX5 42 "JumpHillModel" "bestLength" "I", Cond.fieldLink RX5 36 "JumpHillModel" "jump" "[I", Cond.fieldLink RX5 45 "JumpHillModel" "bestJumper" "I", Cond.fieldLink RX5 167 "JumpHillModel" "closed" "I", Cond.methodLink RX5 148 yX5_works, Cond.instanceMethod yX5_works, Cond.selects RX5 yX5_works yX5_works, Cond.initialized RX5, Cond.code yX5_works cX5_works 6 none, Cond.fieldLink RX5 55 "JumpHillModel" "one" "[I", Cond.fieldLink RX5 52 "JumpHillModel" "isThrough" "[Z", Cond.fieldLink RX5 13 "JumpHillModel" "rule" "[I", Cond.fieldLink RX5 58 "JumpHillModel" "total" "[I", Cond.methodLink RX5 139 yX5_has, Cond.instanceMethod yX5_has, Cond.selects RX5 yX5_has yX5_has, Cond.code yX5_has cX5_has 3 (some .boolean), Cond.methodLink RX5 120 yX5_lastOf]
def wsX5_close_r2 : List Cond := [Cond.instanceMethod yX5_lastOf, Cond.selects RX5 yX5_lastOf yX5_lastOf, Cond.code yX5_lastOf cX5_lastOf 5 (some .int), Cond.fieldLink RX5 33 "JumpHillModel" "sort" "[I", Cond.methodLink RX5 117 yX5_isStruck, Cond.instanceMethod yX5_isStruck, Cond.selects RX5 yX5_isStruck yX5_isStruck, Cond.code yX5_isStruck cX5_isStruck 4 (some .boolean), Cond.methodLink RX5 142 yX5_without, Cond.instanceMethod yX5_without, Cond.selects RX5 yX5_without yX5_without, Cond.code yX5_without cX5_without 6 (some .int), Cond.methodLink RX5 133 yX5_part, Cond.instanceMethod yX5_part, Cond.selects RX5 yX5_part yX5_part, Cond.code yX5_part cX5_part 5 (some .int), Cond.fieldLink RX5 20 "JumpHillModel" "base" "I", Cond.methodLink RX5 127 yX5_style_, Cond.instanceMethod yX5_style_, Cond.selects RX5 yX5_style_ yX5_style_, Cond.code yX5_style_ cX5_style_ 9 (some .int), Cond.methodLink RX5 130 yX5_mean, Cond.instanceMethod yX5_mean, Cond.selects RX5 yX5_mean yX5_mean]
def wsX5_close_r3 : List Cond := [Cond.code yX5_mean cX5_mean 7 (some .int), Cond.fieldLink RX5 30 "JumpHillModel" "weight" "[I", Cond.methodLink RX5 124 yX5_nearest, Cond.static yX5_nearest, Cond.code yX5_nearest cX5_nearest 4 (some .int), Cond.methodLink RX5 151 yX5_place, Cond.instanceMethod yX5_place, Cond.selects RX5 yX5_place yX5_place, Cond.code yX5_place cX5_place 4 (some .int), Cond.methodLink RX5 145 yX5_isBefore, Cond.instanceMethod yX5_isBefore, Cond.selects RX5 yX5_isBefore yX5_isBefore, Cond.code yX5_isBefore cX5_isBefore 3 (some .boolean), Cond.methodLink RX5 157 yX5_longest, Cond.instanceMethod yX5_longest, Cond.selects RX5 yX5_longest yX5_longest, Cond.code yX5_longest cX5_longest 4 (some .int), Cond.methodLink RX5 154 yX5_isClean, Cond.instanceMethod yX5_isClean, Cond.selects RX5 yX5_isClean yX5_isClean, Cond.code yX5_isClean cX5_isClean 4 (some .boolean), Cond.methodLink RX5 161 yX5_isGreater, Cond.instanceMethod yX5_isGreater, Cond.selects RX5 yX5_isGreater yX5_isGreater]
def wsX5_close_r4 : List Cond := [Cond.code yX5_isGreater cX5_isGreater 2 (some .boolean)]
def wsX5_close : List Cond := .code yX5_close cX5_close 3 (some .int) :: ((wsX5_close_r1 ++ (wsX5_close_r2 ++ (wsX5_close_r3 ++ wsX5_close_r4))) ++ wsX50)
def wsX5_count_r1 : List Cond := [Cond.fieldLink RX5 30 "JumpHillModel" "weight" "[I", Cond.fieldLink RX5 101 "JumpHillModel" "entries" "I", Cond.fieldLink RX5 94 "JumpHillModel" "jumpers" "I", Cond.fieldLink RX5 48 "JumpHillModel" "isOn" "[Z", Cond.fieldLink RX5 52 "JumpHillModel" "isThrough" "[Z", Cond.fieldLink RX5 167 "JumpHillModel" "closed" "I", Cond.fieldLink RX5 20 "JumpHillModel" "base" "I", Cond.fieldLink RX5 68 "JumpHillModel" "taped" "I", Cond.methodLink RX5 75 yX5_lies, Cond.static yX5_lies, Cond.initialized RX5, Cond.code yX5_lies cX5_lies 3 (some .boolean), Cond.methodLink RX5 148 yX5_works, Cond.instanceMethod yX5_works, Cond.selects RX5 yX5_works yX5_works, Cond.code yX5_works cX5_works 6 none, Cond.fieldLink RX5 55 "JumpHillModel" "one" "[I", Cond.fieldLink RX5 13 "JumpHillModel" "rule" "[I", Cond.fieldLink RX5 58 "JumpHillModel" "total" "[I", Cond.methodLink RX5 139 yX5_has, Cond.instanceMethod yX5_has, Cond.selects RX5 yX5_has yX5_has, Cond.code yX5_has cX5_has 3 (some .boolean), Cond.methodLink RX5 120 yX5_lastOf]
def wsX5_count_r2 : List Cond := [Cond.instanceMethod yX5_lastOf, Cond.selects RX5 yX5_lastOf yX5_lastOf, Cond.code yX5_lastOf cX5_lastOf 5 (some .int), Cond.fieldLink RX5 33 "JumpHillModel" "sort" "[I", Cond.fieldLink RX5 36 "JumpHillModel" "jump" "[I", Cond.methodLink RX5 117 yX5_isStruck, Cond.instanceMethod yX5_isStruck, Cond.selects RX5 yX5_isStruck yX5_isStruck, Cond.code yX5_isStruck cX5_isStruck 4 (some .boolean), Cond.fieldLink RX5 39 "JumpHillModel" "value" "[I", Cond.methodLink RX5 142 yX5_without, Cond.instanceMethod yX5_without, Cond.selects RX5 yX5_without yX5_without, Cond.code yX5_without cX5_without 6 (some .int), Cond.methodLink RX5 133 yX5_part, Cond.instanceMethod yX5_part, Cond.selects RX5 yX5_part yX5_part, Cond.code yX5_part cX5_part 5 (some .int), Cond.methodLink RX5 127 yX5_style_, Cond.instanceMethod yX5_style_, Cond.selects RX5 yX5_style_ yX5_style_, Cond.code yX5_style_ cX5_style_ 9 (some .int), Cond.methodLink RX5 130 yX5_mean, Cond.instanceMethod yX5_mean]
def wsX5_count_r3 : List Cond := [Cond.selects RX5 yX5_mean yX5_mean, Cond.code yX5_mean cX5_mean 7 (some .int), Cond.methodLink RX5 124 yX5_nearest, Cond.static yX5_nearest, Cond.code yX5_nearest cX5_nearest 4 (some .int)]
def wsX5_count : List Cond := .code yX5_count cX5_count 5 (some .int) :: ((wsX5_count_r1 ++ (wsX5_count_r2 ++ wsX5_count_r3)) ++ wsX50)
def wsJ9_abs_0f7a4 : List Cond := .code yJ9_abs_0f7a4 cJ9_abs_0f7a4 1 (some .int) :: ([])
def wsJ9_max_7cf53 : List Cond := .code yJ9_max_7cf53 cJ9_max_7cf53 2 (some .int) :: ([])
def wsJ9_min_7cf53 : List Cond := .code yJ9_min_7cf53 cJ9_min_7cf53 2 (some .int) :: ([])
def wsL_law_r1 : List Cond := [Cond.classLink RL 7 RX4, Cond.instantiable RX4 11, Cond.initialized RX4, Cond.classLink RL 10 RX5, Cond.instantiable RX5 21, Cond.initialized RX5, Cond.methodLink RL 9 yX4_init, Cond.instanceMethod yX4_init, Cond.code yX4_init cX4_init 1 none, Cond.methodLink RX4 1 objectInit, Cond.instanceMethod objectInit, Cond.code objectInit ⟨#[0xb1]⟩ 1 none, Cond.arrayClass .int, Cond.fieldLink RX4 9 "JumpHill" "tape" "[I", Cond.classLink RX4 13 RX3, Cond.instantiable RX3 10, Cond.initialized RX3, Cond.fieldLink RX4 16 "JumpHill" "scorer" "LJumpHill$Scorer;", Cond.classLink RX4 20 RX0, Cond.instantiable RX0 7, Cond.initialized RX0, Cond.fieldLink RX4 23 "JumpHill" "board" "LJumpHill$Board;", Cond.fieldLink RX4 27 "JumpHill" "otherBoard" "LJumpHill$Board;", Cond.fieldLink RX4 30 "JumpHill" "teams" "[I"]
def wsL_law_r2 : List Cond := [Cond.fieldLink RX4 33 "JumpHill" "season" "[I", Cond.fieldLink RX4 36 "JumpHill" "recordLength" "I", Cond.fieldLink RX4 40 "JumpHill" "recordJumper" "I", Cond.instanceMethod yX3_init, Cond.code yX3_init cX3_init 1 none, Cond.methodLink RX3 3 objectInit, Cond.classLink RX3 9 RX2, Cond.instantiable RX2 2, Cond.initialized RX2, Cond.fieldLink RX3 12 "JumpHill$Scorer" "rules" "LJumpHill$Rules;", Cond.classLink RX3 18 RX1, Cond.instantiable RX1 4, Cond.initialized RX1, Cond.fieldLink RX3 21 "JumpHill$Scorer" "entries" "LJumpHill$Entries;", Cond.fieldLink RX3 25 "JumpHill$Scorer" "weights" "[I", Cond.fieldLink RX3 29 "JumpHill$Scorer" "base" "I", Cond.fieldLink RX3 33 "JumpHill$Scorer" "counting" "[I", Cond.instanceMethod yX2_init, Cond.code yX2_init cX2_init 1 none, Cond.methodLink RX2 3 objectInit, Cond.fieldLink RX2 11 "JumpHill$Rules" "numbers" "[I", Cond.fieldLink RX2 15 "JumpHill$Rules" "draft" "[I", Cond.fieldLink RX2 18 "JumpHill$Rules" "FIRST" "[I", Cond.methodLink RX2 21 arraycopyName]
def wsL_law_r3 : List Cond := [Cond.native arraycopyName, Cond.static arraycopyName, Cond.initialized "java/lang/System", Cond.instanceMethod yX1_init, Cond.code yX1_init cX1_init 1 none, Cond.methodLink RX1 3 objectInit, Cond.fieldLink RX1 9 "JumpHill$Entries" "sorts" "[I", Cond.fieldLink RX1 15 "JumpHill$Entries" "jumps" "[I", Cond.fieldLink RX1 18 "JumpHill$Entries" "values" "[I", Cond.instanceMethod yX0_init, Cond.code yX0_init cX0_init 1 none, Cond.methodLink RX0 3 objectInit, Cond.fieldLink RX0 9 "JumpHill$Board" "first" "[I", Cond.arrayClass .boolean, Cond.fieldLink RX0 15 "JumpHill$Board" "through" "[Z", Cond.fieldLink RX0 19 "JumpHill$Board" "totals" "[I", Cond.fieldLink RX0 22 "JumpHill$Board" "places" "[I", Cond.fieldLink RX0 25 "JumpHill$Board" "order" "[I", Cond.methodLink RL 12 yX5_init, Cond.instanceMethod yX5_init, Cond.code yX5_init cX5_init 2 none, Cond.methodLink RX5 1 objectInit, Cond.arrayClass .byte, Cond.fieldLink RX5 7 "JumpHillModel" "tape" "[B"]
def wsL_law_r4 : List Cond := [Cond.fieldLink RX5 13 "JumpHillModel" "rule" "[I", Cond.fieldLink RX5 17 "JumpHillModel" "read" "[I", Cond.fieldLink RX5 20 "JumpHillModel" "base" "I", Cond.fieldLink RX5 24 "JumpHillModel" "team" "[I", Cond.fieldLink RX5 27 "JumpHillModel" "season" "[I", Cond.fieldLink RX5 30 "JumpHillModel" "weight" "[I", Cond.fieldLink RX5 33 "JumpHillModel" "sort" "[I", Cond.fieldLink RX5 36 "JumpHillModel" "jump" "[I", Cond.fieldLink RX5 39 "JumpHillModel" "value" "[I", Cond.fieldLink RX5 42 "JumpHillModel" "bestLength" "I", Cond.fieldLink RX5 45 "JumpHillModel" "bestJumper" "I", Cond.fieldLink RX5 48 "JumpHillModel" "isOn" "[Z", Cond.fieldLink RX5 52 "JumpHillModel" "isThrough" "[Z", Cond.fieldLink RX5 55 "JumpHillModel" "one" "[I", Cond.fieldLink RX5 58 "JumpHillModel" "total" "[I", Cond.fieldLink RX5 61 "JumpHillModel" "was" "[I", Cond.methodLink RX5 64 yX5_asAtFirst, Cond.static yX5_asAtFirst, Cond.code yX5_asAtFirst cX5_asAtFirst 1 none, Cond.methodLink RL 13 yX4_feed, Cond.instanceMethod yX4_feed, Cond.selects RX4 yX4_feed yX4_feed, Cond.code yX4_feed cX4_feed 6 (some .int), Cond.fieldLink RX4 43 "JumpHill" "taped" "I"]
def wsL_law_r5 : List Cond := [Cond.methodLink RX4 46 yX4_tapeInt, Cond.instanceMethod yX4_tapeInt, Cond.selects RX4 yX4_tapeInt yX4_tapeInt, Cond.code yX4_tapeInt cX4_tapeInt 3 none, Cond.methodLink RL 17 yX5_feed, Cond.instanceMethod yX5_feed, Cond.selects RX5 yX5_feed yX5_feed, Cond.code yX5_feed cX5_feed 6 (some .int), Cond.fieldLink RX5 68 "JumpHillModel" "taped" "I", Cond.methodLink RX5 71 yX5_push, Cond.instanceMethod yX5_push, Cond.selects RX5 yX5_push yX5_push, Cond.code yX5_push cX5_push 3 none, Cond.methodLink RL 18 yX4_rules, Cond.instanceMethod yX4_rules, Cond.selects RX4 yX4_rules yX4_rules, Cond.code yX4_rules cX4_rules 2 (some .int), Cond.instanceMethod yX2_read, Cond.selects RX2 yX2_read yX2_read, Cond.code yX2_read cX2_read 9 (some .int), Cond.methodLink RX2 27 yX2_isLetter, Cond.static yX2_isLetter, Cond.code yX2_isLetter cX2_isLetter 1 (some .boolean), Cond.methodLink RX2 31 yX2_letterOf]
def wsL_law_r6 : List Cond := [Cond.static yX2_letterOf, Cond.code yX2_letterOf cX2_letterOf 2 (some .int), Cond.fieldLink RX2 45 "JumpHill$Rules" "LETTER" "[C", Cond.methodLink RX2 35 yX2_faultOfClause, Cond.static yX2_faultOfClause, Cond.code yX2_faultOfClause cX2_faultOfClause 5 (some .int), Cond.fieldLink RX2 39 "JumpHill$Rules" "LEAST" "[I", Cond.fieldLink RX2 42 "JumpHill$Rules" "GREATEST" "[I", Cond.methodLink RL 22 yX5_rules, Cond.instanceMethod yX5_rules, Cond.selects RX5 yX5_rules yX5_rules, Cond.code yX5_rules cX5_rules 4 (some .int), Cond.methodLink RX5 91 yX5_reads, Cond.instanceMethod yX5_reads, Cond.selects RX5 yX5_reads yX5_reads, Cond.code yX5_reads cX5_reads 7 (some .int), Cond.methodLink RX5 79 yX5_at, Cond.instanceMethod yX5_at, Cond.selects RX5 yX5_at yX5_at, Cond.code yX5_at cX5_at 3 (some .int), Cond.methodLink RX5 83 yX5_letter, Cond.static yX5_letter, Cond.code yX5_letter cX5_letter 1 (some .int), Cond.methodLink RX5 75 yX5_lies]
def wsL_law_r7 : List Cond := [Cond.static yX5_lies, Cond.code yX5_lies cX5_lies 3 (some .boolean), Cond.methodLink RX5 87 yX5_canBe, Cond.static yX5_canBe, Cond.code yX5_canBe cX5_canBe 2 (some .boolean), Cond.methodLink RL 23 yX4_rule, Cond.instanceMethod yX4_rule, Cond.selects RX4 yX4_rule yX4_rule, Cond.code yX4_rule cX4_rule 2 (some .int), Cond.instanceMethod yX2_number, Cond.selects RX2 yX2_number yX2_number, Cond.code yX2_number cX2_number 2 (some .int), Cond.methodLink RL 26 yX5_rule, Cond.instanceMethod yX5_rule, Cond.selects RX5 yX5_rule yX5_rule, Cond.code yX5_rule cX5_rule 2 (some .int), Cond.methodLink RL 27 yX4_jumper, Cond.instanceMethod yX4_jumper, Cond.selects RX4 yX4_jumper yX4_jumper, Cond.code yX4_jumper cX4_jumper 3 (some .int), Cond.fieldLink RX4 71 "JumpHill" "jumpers" "I", Cond.methodLink RX4 68 yX4_isTeam, Cond.instanceMethod yX4_isTeam, Cond.selects RX4 yX4_isTeam yX4_isTeam]
def wsL_law_r8 : List Cond := [Cond.code yX4_isTeam cX4_isTeam 2 (some .boolean), Cond.methodLink RL 30 yX5_jumper, Cond.instanceMethod yX5_jumper, Cond.selects RX5 yX5_jumper yX5_jumper, Cond.code yX5_jumper cX5_jumper 2 (some .int), Cond.fieldLink RX5 94 "JumpHillModel" "jumpers" "I", Cond.methodLink RL 31 yX4_sensor, Cond.instanceMethod yX4_sensor, Cond.selects RX4 yX4_sensor yX4_sensor, Cond.code yX4_sensor cX4_sensor 3 (some .boolean), Cond.methodLink RX4 74 yX4_isSensor, Cond.instanceMethod yX4_isSensor, Cond.selects RX4 yX4_isSensor yX4_isSensor, Cond.code yX4_isSensor cX4_isSensor 2 (some .boolean), Cond.methodLink RL 35 yX5_sensor, Cond.instanceMethod yX5_sensor, Cond.selects RX5 yX5_sensor yX5_sensor, Cond.code yX5_sensor cX5_sensor 3 (some .boolean), Cond.methodLink RL 36 yX4_base, Cond.instanceMethod yX4_base, Cond.selects RX4 yX4_base yX4_base, Cond.code yX4_base cX4_base 2 (some .boolean), Cond.methodLink RX4 80 yX4_isGate, Cond.instanceMethod yX4_isGate]
def wsL_law_r9 : List Cond := [Cond.selects RX4 yX4_isGate yX4_isGate, Cond.code yX4_isGate cX4_isGate 2 (some .boolean), Cond.methodLink RL 40 yX5_base, Cond.instanceMethod yX5_base, Cond.selects RX5 yX5_base yX5_base, Cond.code yX5_base cX5_base 2 (some .boolean), Cond.methodLink RL 41 yX4_reading, Cond.instanceMethod yX4_reading, Cond.selects RX4 yX4_reading yX4_reading, Cond.code yX4_reading cX4_reading 6 (some .int), Cond.methodLink RX4 86 yX4_isJumper, Cond.instanceMethod yX4_isJumper, Cond.selects RX4 yX4_isJumper yX4_isJumper, Cond.code yX4_isJumper cX4_isJumper 2 (some .boolean), Cond.methodLink RX4 89 yX4_isRound, Cond.instanceMethod yX4_isRound, Cond.selects RX4 yX4_isRound yX4_isRound, Cond.code yX4_isRound cX4_isRound 2 (some .boolean), Cond.methodLink RX4 98 yX4_jumpOf, Cond.static yX4_jumpOf, Cond.code yX4_jumpOf cX4_jumpOf 2 (some .int), Cond.instanceMethod yX1_add, Cond.selects RX1 yX1_add yX1_add, Cond.code yX1_add cX1_add 10 (some .int)]
def wsL_law_r10 : List Cond := [Cond.fieldLink RX1 21 "JumpHill$Entries" "told" "I", Cond.methodLink RL 45 yX5_reading, Cond.instanceMethod yX5_reading, Cond.selects RX5 yX5_reading yX5_reading, Cond.code yX5_reading cX5_reading 6 (some .int), Cond.fieldLink RX5 101 "JumpHillModel" "entries" "I", Cond.methodLink RX5 97 yX5_isJumper, Cond.instanceMethod yX5_isJumper, Cond.selects RX5 yX5_isJumper yX5_isJumper, Cond.code yX5_isJumper cX5_isJumper 2 (some .boolean), Cond.methodLink RX5 104 yX5_tells, Cond.instanceMethod yX5_tells, Cond.selects RX5 yX5_tells yX5_tells, Cond.code yX5_tells cX5_tells 8 (some .int), Cond.methodLink RL 46 yX4_wind, Cond.instanceMethod yX4_wind, Cond.selects RX4 yX4_wind yX4_wind, Cond.code yX4_wind cX4_wind 7 (some .int), Cond.methodLink RX4 106 yX4_isWind, Cond.instanceMethod yX4_isWind, Cond.selects RX4 yX4_isWind yX4_isWind, Cond.code yX4_isWind cX4_isWind 2 (some .boolean), Cond.methodLink RX4 109 yX4_addToJump, Cond.instanceMethod yX4_addToJump]
def wsL_law_r11 : List Cond := [Cond.selects RX4 yX4_addToJump yX4_addToJump, Cond.code yX4_addToJump cX4_addToJump 10 (some .int), Cond.methodLink RL 50 yX5_wind, Cond.instanceMethod yX5_wind, Cond.selects RX5 yX5_wind yX5_wind, Cond.code yX5_wind cX5_wind 7 (some .int), Cond.methodLink RX5 108 yX5_isJump, Cond.instanceMethod yX5_isJump, Cond.selects RX5 yX5_isJump yX5_isJump, Cond.code yX5_isJump cX5_isJump 2 (some .boolean), Cond.methodLink RX5 111 yX5_isWind, Cond.static yX5_isWind, Cond.code yX5_isWind cX5_isWind 1 (some .boolean), Cond.methodLink RL 51 yX4_style, Cond.instanceMethod yX4_style, Cond.selects RX4 yX4_style yX4_style, Cond.code yX4_style cX4_style 7 (some .int), Cond.methodLink RX4 112 yX4_isMark, Cond.instanceMethod yX4_isMark, Cond.selects RX4 yX4_isMark yX4_isMark, Cond.code yX4_isMark cX4_isMark 2 (some .boolean), Cond.methodLink RL 54 yX5_style, Cond.instanceMethod yX5_style, Cond.selects RX5 yX5_style yX5_style]
def wsL_law_r12 : List Cond := [Cond.code yX5_style cX5_style 7 (some .int), Cond.methodLink RX5 114 yX5_isMark, Cond.static yX5_isMark, Cond.code yX5_isMark cX5_isMark 1 (some .boolean), Cond.methodLink RL 55 yX4_strike, Cond.instanceMethod yX4_strike, Cond.selects RX4 yX4_strike yX4_strike, Cond.code yX4_strike cX4_strike 5 (some .int), Cond.instanceMethod yX3_know, Cond.selects RX3 yX3_know yX3_know, Cond.code yX3_know cX3_know 4 none, Cond.methodLink RX3 36 yJ7_fill_53178, Cond.static yJ7_fill_53178, Cond.initialized RJ7, Cond.code yJ7_fill_53178 cJ7_fill_53178 4 none, Cond.instanceMethod yX3_isStruck, Cond.selects RX3 yX3_isStruck yX3_isStruck, Cond.code yX3_isStruck cX3_isStruck 3 (some .boolean), Cond.methodLink RX3 48 yX3_countingOf, Cond.instanceMethod yX3_countingOf, Cond.selects RX3 yX3_countingOf yX3_countingOf, Cond.code yX3_countingOf cX3_countingOf 4 (some .int), Cond.instanceMethod yX1_value, Cond.selects RX1 yX1_value yX1_value]
def wsL_law_r13 : List Cond := [Cond.code yX1_value cX1_value 4 (some .int), Cond.methodLink RL 59 yX5_strike, Cond.instanceMethod yX5_strike, Cond.selects RX5 yX5_strike yX5_strike, Cond.code yX5_strike cX5_strike 4 (some .int), Cond.methodLink RX5 117 yX5_isStruck, Cond.instanceMethod yX5_isStruck, Cond.selects RX5 yX5_isStruck yX5_isStruck, Cond.code yX5_isStruck cX5_isStruck 4 (some .boolean), Cond.methodLink RX5 120 yX5_lastOf, Cond.instanceMethod yX5_lastOf, Cond.selects RX5 yX5_lastOf yX5_lastOf, Cond.code yX5_lastOf cX5_lastOf 5 (some .int), Cond.methodLink RL 60 yX4_points, Cond.instanceMethod yX4_points, Cond.selects RX4 yX4_points yX4_points, Cond.code yX4_points cX4_points 6 (some .int), Cond.methodLink RX4 124 yX4_isKnowing, Cond.instanceMethod yX4_isKnowing, Cond.selects RX4 yX4_isKnowing yX4_isKnowing, Cond.code yX4_isKnowing cX4_isKnowing 2 (some .boolean), Cond.instanceMethod yX3_measure, Cond.selects RX3 yX3_measure yX3_measure, Cond.code yX3_measure cX3_measure 3 (some .boolean)]
def wsL_law_r14 : List Cond := [Cond.fieldLink RX3 63 "JumpHill$Scorer" "mean" "I", Cond.fieldLink RX3 72 "JumpHill$Scorer" "length" "I", Cond.fieldLink RX3 78 "JumpHill$Scorer" "style" "I", Cond.fieldLink RX3 84 "JumpHill$Scorer" "gate" "I", Cond.fieldLink RX3 90 "JumpHill$Scorer" "wind" "I", Cond.methodLink RX3 59 yX3_meanOf, Cond.instanceMethod yX3_meanOf, Cond.selects RX3 yX3_meanOf yX3_meanOf, Cond.code yX3_meanOf cX3_meanOf 6 (some .int), Cond.methodLink RX3 87 yX3_rounded, Cond.static yX3_rounded, Cond.code yX3_rounded cX3_rounded 3 (some .int), Cond.methodLink RX3 105 Lib.Math.abs.name, Cond.static Lib.Math.abs.name, Cond.initialized "java/lang/Math", Cond.code Lib.Math.abs.name Lib.Math.abs.code 1 (some .int), Cond.methodLink RX3 66 yX3_hasPoints, Cond.instanceMethod yX3_hasPoints, Cond.selects RX3 yX3_hasPoints yX3_hasPoints, Cond.code yX3_hasPoints cX3_hasPoints 2 (some .boolean), Cond.methodLink RX3 55 yX3_isStruck, Cond.methodLink RX3 75 yX3_styleOf, Cond.instanceMethod yX3_styleOf, Cond.selects RX3 yX3_styleOf yX3_styleOf]
def wsL_law_r15 : List Cond := [Cond.code yX3_styleOf cX3_styleOf 7 (some .int), Cond.methodLink RX3 102 Lib.Math.min.name, Cond.static Lib.Math.min.name, Cond.code Lib.Math.min.name Lib.Math.min.code 2 (some .int), Cond.methodLink RX3 93 Lib.Math.max.name, Cond.static Lib.Math.max.name, Cond.code Lib.Math.max.name Lib.Math.max.code 2 (some .int), Cond.methodLink RX3 81 yX3_gateOf, Cond.instanceMethod yX3_gateOf, Cond.selects RX3 yX3_gateOf yX3_gateOf, Cond.code yX3_gateOf cX3_gateOf 3 (some .int), Cond.methodLink RX4 133 yX4_partOfPoints, Cond.instanceMethod yX4_partOfPoints, Cond.selects RX4 yX4_partOfPoints yX4_partOfPoints, Cond.code yX4_partOfPoints cX4_partOfPoints 2 (some .int), Cond.instanceMethod yX3_sum, Cond.selects RX3 yX3_sum yX3_sum, Cond.code yX3_sum cX3_sum 1 (some .int), Cond.instanceMethod yX3_worthOf, Cond.selects RX3 yX3_worthOf yX3_worthOf, Cond.code yX3_worthOf cX3_worthOf 2 (some .int), Cond.methodLink RX3 98 yX3_sum, Cond.methodLink RL 64 yX5_points, Cond.instanceMethod yX5_points]
def wsL_law_r16 : List Cond := [Cond.selects RX5 yX5_points yX5_points, Cond.code yX5_points cX5_points 6 (some .int), Cond.methodLink RX5 136 yX5_isKnowing, Cond.instanceMethod yX5_isKnowing, Cond.selects RX5 yX5_isKnowing yX5_isKnowing, Cond.code yX5_isKnowing cX5_isKnowing 2 (some .boolean), Cond.methodLink RX5 130 yX5_mean, Cond.instanceMethod yX5_mean, Cond.selects RX5 yX5_mean yX5_mean, Cond.code yX5_mean cX5_mean 7 (some .int), Cond.methodLink RX5 124 yX5_nearest, Cond.static yX5_nearest, Cond.code yX5_nearest cX5_nearest 4 (some .int), Cond.methodLink RX5 139 yX5_has, Cond.instanceMethod yX5_has, Cond.selects RX5 yX5_has yX5_has, Cond.code yX5_has cX5_has 3 (some .boolean), Cond.methodLink RX5 142 yX5_without, Cond.instanceMethod yX5_without, Cond.selects RX5 yX5_without yX5_without, Cond.code yX5_without cX5_without 6 (some .int), Cond.methodLink RX5 133 yX5_part, Cond.instanceMethod yX5_part, Cond.selects RX5 yX5_part yX5_part]
def wsL_law_r17 : List Cond := [Cond.code yX5_part cX5_part 5 (some .int), Cond.methodLink RX5 127 yX5_style_, Cond.instanceMethod yX5_style_, Cond.selects RX5 yX5_style_ yX5_style_, Cond.code yX5_style_ cX5_style_ 9 (some .int), Cond.methodLink RL 65 yX4_told, Cond.instanceMethod yX4_told, Cond.selects RX4 yX4_told yX4_told, Cond.code yX4_told cX4_told 4 (some .int), Cond.instanceMethod yX0_draw, Cond.selects RX0 yX0_draw yX0_draw, Cond.code yX0_draw cX0_draw 6 none, Cond.fieldLink RX0 34 "JumpHill$Board" "listed" "I", Cond.fieldLink RX0 38 "JumpHill$Board" "passed" "I", Cond.methodLink RX0 53 yX0_aheadInRoundZero, Cond.instanceMethod yX0_aheadInRoundZero, Cond.selects RX0 yX0_aheadInRoundZero yX0_aheadInRoundZero, Cond.code yX0_aheadInRoundZero cX0_aheadInRoundZero 7 (some .int), Cond.methodLink RX0 63 yX0_placeOnList, Cond.instanceMethod yX0_placeOnList, Cond.selects RX0 yX0_placeOnList yX0_placeOnList, Cond.code yX0_placeOnList cX0_placeOnList 5 none, Cond.methodLink RX0 66 yX0_isBetter, Cond.instanceMethod yX0_isBetter]
def wsL_law_r18 : List Cond := [Cond.selects RX0 yX0_isBetter yX0_isBetter, Cond.code yX0_isBetter cX0_isBetter 3 (some .boolean), Cond.instanceMethod yX0_isThrough, Cond.selects RX0 yX0_isThrough yX0_isThrough, Cond.code yX0_isThrough cX0_isThrough 2 (some .boolean), Cond.instanceMethod yX0_isListed, Cond.selects RX0 yX0_isListed yX0_isListed, Cond.code yX0_isListed cX0_isListed 2 (some .boolean), Cond.methodLink RX0 70 yX0_placeOf, Cond.instanceMethod yX0_placeOf, Cond.selects RX0 yX0_placeOf yX0_placeOf, Cond.code yX0_placeOf cX0_placeOf 2 (some .int), Cond.instanceMethod yX0_totalOf, Cond.selects RX0 yX0_totalOf yX0_totalOf, Cond.code yX0_totalOf cX0_totalOf 2 (some .int), Cond.methodLink RL 69 yX5_told, Cond.instanceMethod yX5_told, Cond.selects RX5 yX5_told yX5_told, Cond.code yX5_told cX5_told 4 (some .int), Cond.methodLink RX5 148 yX5_works, Cond.instanceMethod yX5_works, Cond.selects RX5 yX5_works yX5_works, Cond.code yX5_works cX5_works 6 none, Cond.methodLink RX5 151 yX5_place]
def wsL_law_r19 : List Cond := [Cond.instanceMethod yX5_place, Cond.selects RX5 yX5_place yX5_place, Cond.code yX5_place cX5_place 4 (some .int), Cond.methodLink RX5 145 yX5_isBefore, Cond.instanceMethod yX5_isBefore, Cond.selects RX5 yX5_isBefore yX5_isBefore, Cond.code yX5_isBefore cX5_isBefore 3 (some .boolean), Cond.methodLink RL 70 yX4_list, Cond.instanceMethod yX4_list, Cond.selects RX4 yX4_list yX4_list, Cond.code yX4_list cX4_list 3 (some .int), Cond.instanceMethod yX0_isPosition, Cond.selects RX0 yX0_isPosition yX0_isPosition, Cond.code yX0_isPosition cX0_isPosition 2 (some .boolean), Cond.instanceMethod yX0_jumperAt, Cond.selects RX0 yX0_jumperAt yX0_jumperAt, Cond.code yX0_jumperAt cX0_jumperAt 2 (some .int), Cond.methodLink RL 74 yX5_list, Cond.instanceMethod yX5_list, Cond.selects RX5 yX5_list yX5_list, Cond.code yX5_list cX5_list 6 (some .int), Cond.methodLink RL 75 yX4_start, Cond.instanceMethod yX4_start, Cond.selects RX4 yX4_start yX4_start]
def wsL_law_r20 : List Cond := [Cond.code yX4_start cX4_start 4 (some .int), Cond.instanceMethod yX0_starterAt, Cond.selects RX0 yX0_starterAt yX0_starterAt, Cond.code yX0_starterAt cX0_starterAt 3 (some .int), Cond.methodLink RX0 73 yX0_startersBefore, Cond.instanceMethod yX0_startersBefore, Cond.selects RX0 yX0_startersBefore yX0_startersBefore, Cond.code yX0_startersBefore cX0_startersBefore 5 (some .int), Cond.methodLink RL 78 yX5_start, Cond.instanceMethod yX5_start, Cond.selects RX5 yX5_start yX5_start, Cond.code yX5_start cX5_start 7 (some .int), Cond.methodLink RL 79 yX4_team, Cond.instanceMethod yX4_team, Cond.selects RX4 yX4_team yX4_team, Cond.code yX4_team cX4_team 3 (some .int), Cond.methodLink RX4 161 yX4_teamTotal, Cond.instanceMethod yX4_teamTotal, Cond.selects RX4 yX4_teamTotal yX4_teamTotal, Cond.code yX4_teamTotal cX4_teamTotal 6 (some .int), Cond.methodLink RL 82 yX5_team, Cond.instanceMethod yX5_team, Cond.selects RX5 yX5_team yX5_team, Cond.code yX5_team cX5_team 8 (some .int)]
def wsL_law_r21 : List Cond := [Cond.methodLink RL 83 yX4_record, Cond.instanceMethod yX4_record, Cond.selects RX4 yX4_record yX4_record, Cond.code yX4_record cX4_record 3 (some .int), Cond.methodLink RX4 164 yX4_recordJump, Cond.instanceMethod yX4_recordJump, Cond.selects RX4 yX4_recordJump yX4_recordJump, Cond.code yX4_recordJump cX4_recordJump 3 (some .int), Cond.instanceMethod yX3_mayBeRecord, Cond.selects RX3 yX3_mayBeRecord yX3_mayBeRecord, Cond.code yX3_mayBeRecord cX3_mayBeRecord 4 (some .boolean), Cond.instanceMethod yX3_lengthOf, Cond.selects RX3 yX3_lengthOf yX3_lengthOf, Cond.code yX3_lengthOf cX3_lengthOf 2 (some .int), Cond.instanceMethod yX3_isLonger, Cond.selects RX3 yX3_isLonger yX3_isLonger, Cond.code yX3_isLonger cX3_isLonger 4 (some .boolean), Cond.methodLink RX3 108 yX3_lengthOf, Cond.methodLink RX4 171 yX4_jumperOf, Cond.static yX4_jumperOf, Cond.code yX4_jumperOf cX4_jumperOf 1 (some .int), Cond.methodLink RL 86 yX5_record, Cond.instanceMethod yX5_record, Cond.selects RX5 yX5_record yX5_record]
def wsL_law_r22 : List Cond := [Cond.code yX5_record cX5_record 3 (some .int), Cond.methodLink RX5 157 yX5_longest, Cond.instanceMethod yX5_longest, Cond.selects RX5 yX5_longest yX5_longest, Cond.code yX5_longest cX5_longest 4 (some .int), Cond.methodLink RX5 154 yX5_isClean, Cond.instanceMethod yX5_isClean, Cond.selects RX5 yX5_isClean yX5_isClean, Cond.code yX5_isClean cX5_isClean 4 (some .boolean), Cond.methodLink RX5 161 yX5_isGreater, Cond.instanceMethod yX5_isGreater, Cond.selects RX5 yX5_isGreater yX5_isGreater, Cond.code yX5_isGreater cX5_isGreater 2 (some .boolean), Cond.methodLink RL 87 yX4_differ, Cond.instanceMethod yX4_differ, Cond.selects RX4 yX4_differ yX4_differ, Cond.code yX4_differ cX4_differ 6 (some .int), Cond.methodLink RL 90 yX5_differ, Cond.instanceMethod yX5_differ, Cond.selects RX5 yX5_differ yX5_differ, Cond.code yX5_differ cX5_differ 6 (some .int), Cond.methodLink RL 91 yX4_close, Cond.instanceMethod yX4_close, Cond.selects RX4 yX4_close yX4_close]
def wsL_law_r23 : List Cond := [Cond.code yX4_close cX4_close 2 (some .int), Cond.fieldLink RX4 183 "JumpHill" "closed" "I", Cond.methodLink RX4 177 yX4_seasonPoints, Cond.static yX4_seasonPoints, Cond.code yX4_seasonPoints cX4_seasonPoints 1 (some .int), Cond.fieldLink RX4 207 "JumpHill" "SEASON_ROW" "[I", Cond.methodLink RX4 180 yX4_keepRecord, Cond.instanceMethod yX4_keepRecord, Cond.selects RX4 yX4_keepRecord yX4_keepRecord, Cond.code yX4_keepRecord cX4_keepRecord 2 none, Cond.methodLink RL 95 yX5_close, Cond.instanceMethod yX5_close, Cond.selects RX5 yX5_close yX5_close, Cond.code yX5_close cX5_close 3 (some .int), Cond.fieldLink RX5 164 "JumpHillModel" "SEASON" "[I", Cond.fieldLink RX5 167 "JumpHillModel" "closed" "I", Cond.methodLink RL 96 yX4_count, Cond.instanceMethod yX4_count, Cond.selects RX4 yX4_count yX4_count, Cond.code yX4_count cX4_count 2 (some .int), Cond.methodLink RL 99 yX5_count, Cond.instanceMethod yX5_count, Cond.selects RX5 yX5_count yX5_count, Cond.code yX5_count cX5_count 5 (some .int)]
def wsL_law : List Cond := (wsL_law_r1 ++ (wsL_law_r2 ++ (wsL_law_r3 ++ (wsL_law_r4 ++ (wsL_law_r5 ++ (wsL_law_r6 ++ (wsL_law_r7 ++ (wsL_law_r8 ++ (wsL_law_r9 ++ (wsL_law_r10 ++ (wsL_law_r11 ++ (wsL_law_r12 ++ (wsL_law_r13 ++ (wsL_law_r14 ++ (wsL_law_r15 ++ (wsL_law_r16 ++ (wsL_law_r17 ++ (wsL_law_r18 ++ (wsL_law_r19 ++ (wsL_law_r20 ++ (wsL_law_r21 ++ (wsL_law_r22 ++ wsL_law_r23)))))))))))))))))))))) ++ wsX40 ++ wsX50 ++ wsX30 ++ wsX00 ++ wsX20 ++ wsX10 ++ ([] : List Cond)
end
section
theorem dX0_init_0 : decode cX0_init 0 = .ok (.aload_n 0, 1) := by decide +kernel
theorem dX0_init_1 : decode cX0_init 1 = .ok (.invokespecial 3, 3) := by decide +kernel
theorem dX0_init_4 : decode cX0_init 4 = .ok (.aload_n 0, 1) := by decide +kernel
theorem dX0_init_5 : decode cX0_init 5 = .ok (.bipush 24, 2) := by decide +kernel
theorem dX0_init_7 : decode cX0_init 7 = .ok (.newarray .int, 2) := by decide +kernel
theorem dX0_init_9 : decode cX0_init 9 = .ok (.putfield 9, 3) := by decide +kernel
theorem dX0_init_12 : decode cX0_init 12 = .ok (.aload_n 0, 1) := by decide +kernel
theorem dX0_init_13 : decode cX0_init 13 = .ok (.bipush 24, 2) := by decide +kernel
theorem dX0_init_15 : decode cX0_init 15 = .ok (.newarray .boolean, 2) := by decide +kernel
theorem dX0_init_17 : decode cX0_init 17 = .ok (.putfield 15, 3) := by decide +kernel
theorem dX0_init_20 : decode cX0_init 20 = .ok (.aload_n 0, 1) := by decide +kernel
theorem dX0_init_21 : decode cX0_init 21 = .ok (.bipush 24, 2) := by decide +kernel
theorem dX0_init_23 : decode cX0_init 23 = .ok (.newarray .int, 2) := by decide +kernel
theorem dX0_init_25 : decode cX0_init 25 = .ok (.putfield 19, 3) := by decide +kernel
theorem dX0_init_28 : decode cX0_init 28 = .ok (.aload_n 0, 1) := by decide +kernel
theorem dX0_init_29 : decode cX0_init 29 = .ok (.bipush 24, 2) := by decide +kernel
theorem dX0_init_31 : decode cX0_init 31 = .ok (.newarray .int, 2) := by decide +kernel
theorem dX0_init_33 : decode cX0_init 33 = .ok (.putfield 22, 3) := by decide +kernel
theorem dX0_init_36 : decode cX0_init 36 = .ok (.aload_n 0, 1) := by decide +kernel
theorem dX0_init_37 : decode cX0_init 37 = .ok (.bipush 24, 2) := by decide +kernel
theorem dX0_init_39 : decode cX0_init 39 = .ok (.newarray .int, 2) := by decide +kernel
theorem dX0_init_41 : decode cX0_init 41 = .ok (.putfield 25, 3) := by decide +kernel
theorem dX0_init_44 : decode cX0_init 44 = .ok (.return_, 1) := by decide +kernel
set_option maxRecDepth 20000 in
theorem ggX0_draw_X3_know : GoodIn wsX0_draw wsX3_know := goodIn_r _ [9, 10, 11, 12, 13, 14, 15, 102, 103, 104, 105, 106, 107, 108, 109, 110, 111, 112, 113, 114, 115] (by decide +kernel) (by decide +kernel)
set_option maxRecDepth 20000 in
theorem gX0_draw_X3_know_n28 : GoodIn wsX0_draw (wsX3_know) := ggX0_draw_X3_know
set_option maxRecDepth 20000 in
theorem ggX0_draw_X3_measure : GoodIn wsX0_draw wsX3_measure := goodIn_r _ [18, 19, 20, 11, 21, 22, 23, 24, 25, 26, 27, 7, 28, 10, 29, 30, 31, 32, 33, 34, 35, 36, 37, 38, 39, 40, 41, 42, 43, 44, 45, 46, 47, 48, 49, 50, 51, 52, 53, 54, 55, 56, 57, 58, 59, 60, 61, 62, 63, 64, 65, 66, 67, 68, 69, 70, 71, 72, 73, 74, 75, 76, 102, 103, 104, 105, 106, 107, 108, 109, 110, 111, 112, 113, 114, 115, 116, 117] (by decide +kernel) (by decide +kernel)
set_option maxRecDepth 20000 in
theorem gX0_draw_X3_measure_n41 : GoodIn wsX0_draw (wsX3_measure) := ggX0_draw_X3_measure
set_option maxRecDepth 20000 in
theorem ggX0_draw_X3_sum : GoodIn wsX0_draw wsX3_sum := goodIn_r _ [79, 21, 22, 23, 24, 69, 70, 44, 71, 102, 103, 104, 105, 106, 107, 108, 109, 110, 111] (by decide +kernel) (by decide +kernel)
set_option maxRecDepth 20000 in
theorem gX0_draw_X3_sum_n45 : GoodIn wsX0_draw (wsX3_sum) := ggX0_draw_X3_sum
set_option maxRecDepth 20000 in
theorem ggX0_draw_X0_aheadInRoundZero : GoodIn wsX0_draw wsX0_aheadInRoundZero := goodIn_r _ [84, 3, 54, 55, 56, 57, 58, 59, 60, 61, 95, 96, 97, 98, 99, 100, 101, 116, 117] (by decide +kernel) (by decide +kernel)
set_option maxRecDepth 20000 in
theorem gX0_draw_X0_aheadInRoundZero : GoodIn wsX0_draw (wsV RX0 53 RX0 yX0_aheadInRoundZero wsX0_aheadInRoundZero) := goodIn_app (goodIn_of _ (by decide +kernel)) ggX0_draw_X0_aheadInRoundZero
set_option maxRecDepth 20000 in
theorem ggX0_draw_X2_number : GoodIn wsX0_draw wsX2_number := goodIn_r _ [57, 58, 59, 60, 55, 61, 116, 117] (by decide +kernel) (by decide +kernel)
set_option maxRecDepth 20000 in
theorem gX0_draw_X2_number_n59 : GoodIn wsX0_draw (wsX2_number) := ggX0_draw_X2_number
set_option maxRecDepth 20000 in
theorem ggX0_draw_X0_placeOnList : GoodIn wsX0_draw wsX0_placeOnList := goodIn_r _ [88, 89, 3, 4, 5, 90, 91, 92, 93, 83, 94, 95, 96, 97, 98, 99, 100, 101] (by decide +kernel) (by decide +kernel)
set_option maxRecDepth 20000 in
theorem gX0_draw_X0_placeOnList : GoodIn wsX0_draw (wsV RX0 63 RX0 yX0_placeOnList wsX0_placeOnList) := goodIn_app (goodIn_of _ (by decide +kernel)) ggX0_draw_X0_placeOnList
theorem dX0_draw_0 : decode cX0_draw 0 = .ok (.aload_n 1, 1) := by decide +kernel
theorem dX0_draw_1 : decode cX0_draw 1 = .ok (.iload_n 2, 1) := by decide +kernel
theorem dX0_draw_2 : decode cX0_draw 2 = .ok (.invokevirtual 28, 3) := by decide +kernel
theorem dX0_draw_5 : decode cX0_draw 5 = .ok (.aload_n 0, 1) := by decide +kernel
theorem dX0_draw_6 : decode cX0_draw 6 = .ok (.iconst 0, 1) := by decide +kernel
theorem dX0_draw_7 : decode cX0_draw 7 = .ok (.putfield 34, 3) := by decide +kernel
theorem dX0_draw_10 : decode cX0_draw 10 = .ok (.aload_n 0, 1) := by decide +kernel
theorem dX0_draw_11 : decode cX0_draw 11 = .ok (.iconst 0, 1) := by decide +kernel
theorem dX0_draw_12 : decode cX0_draw 12 = .ok (.putfield 38, 3) := by decide +kernel
theorem dX0_draw_15 : decode cX0_draw 15 = .ok (.iconst 0, 1) := by decide +kernel
theorem dX0_draw_16 : decode cX0_draw 16 = .ok (.istore 4, 2) := by decide +kernel
theorem dX0_draw_18 : decode cX0_draw 18 = .ok (.iload 4, 2) := by decide +kernel
theorem dX0_draw_20 : decode cX0_draw 20 = .ok (.bipush 24, 2) := by decide +kernel
theorem dX0_draw_22 : decode cX0_draw 22 = .ok (.if_icmp .ge 70, 3) := by decide +kernel
theorem dX0_draw_25 : decode cX0_draw 25 = .ok (.iload 4, 2) := by decide +kernel
theorem dX0_draw_27 : decode cX0_draw 27 = .ok (.iload_n 3, 1) := by decide +kernel
theorem dX0_draw_28 : decode cX0_draw 28 = .ok (.if_icmp .ge 16, 3) := by decide +kernel
theorem dX0_draw_31 : decode cX0_draw 31 = .ok (.aload_n 1, 1) := by decide +kernel
theorem dX0_draw_32 : decode cX0_draw 32 = .ok (.iload 4, 2) := by decide +kernel
theorem dX0_draw_34 : decode cX0_draw 34 = .ok (.invokevirtual 41, 3) := by decide +kernel
theorem dX0_draw_37 : decode cX0_draw 37 = .ok (.ifCond .eq 7, 3) := by decide +kernel
theorem dX0_draw_40 : decode cX0_draw 40 = .ok (.iconst 1, 1) := by decide +kernel
theorem dX0_draw_41 : decode cX0_draw 41 = .ok (.goto 4, 3) := by decide +kernel
theorem dX0_draw_44 : decode cX0_draw 44 = .ok (.iconst 0, 1) := by decide +kernel
theorem dX0_draw_45 : decode cX0_draw 45 = .ok (.istore 5, 2) := by decide +kernel
theorem dX0_draw_47 : decode cX0_draw 47 = .ok (.aload_n 0, 1) := by decide +kernel
theorem dX0_draw_48 : decode cX0_draw 48 = .ok (.getfield 9, 3) := by decide +kernel
theorem dX0_draw_51 : decode cX0_draw 51 = .ok (.iload 4, 2) := by decide +kernel
theorem dX0_draw_53 : decode cX0_draw 53 = .ok (.iload 5, 2) := by decide +kernel
theorem dX0_draw_55 : decode cX0_draw 55 = .ok (.ifCond .eq 10, 3) := by decide +kernel
theorem dX0_draw_58 : decode cX0_draw 58 = .ok (.aload_n 1, 1) := by decide +kernel
theorem dX0_draw_59 : decode cX0_draw 59 = .ok (.invokevirtual 45, 3) := by decide +kernel
theorem dX0_draw_62 : decode cX0_draw 62 = .ok (.goto 4, 3) := by decide +kernel
theorem dX0_draw_65 : decode cX0_draw 65 = .ok (.iconst (-1), 1) := by decide +kernel
theorem dX0_draw_66 : decode cX0_draw 66 = .ok (.iastore, 1) := by decide +kernel
theorem dX0_draw_67 : decode cX0_draw 67 = .ok (.aload_n 0, 1) := by decide +kernel
theorem dX0_draw_68 : decode cX0_draw 68 = .ok (.dup, 1) := by decide +kernel
theorem dX0_draw_69 : decode cX0_draw 69 = .ok (.getfield 34, 3) := by decide +kernel
theorem dX0_draw_72 : decode cX0_draw 72 = .ok (.iload 5, 2) := by decide +kernel
theorem dX0_draw_74 : decode cX0_draw 74 = .ok (.ifCond .eq 7, 3) := by decide +kernel
theorem dX0_draw_77 : decode cX0_draw 77 = .ok (.iconst 1, 1) := by decide +kernel
theorem dX0_draw_78 : decode cX0_draw 78 = .ok (.goto 4, 3) := by decide +kernel
theorem dX0_draw_81 : decode cX0_draw 81 = .ok (.iconst 0, 1) := by decide +kernel
theorem dX0_draw_82 : decode cX0_draw 82 = .ok (.iadd, 1) := by decide +kernel
theorem dX0_draw_83 : decode cX0_draw 83 = .ok (.putfield 34, 3) := by decide +kernel
theorem dX0_draw_86 : decode cX0_draw 86 = .ok (.iinc 4 1, 3) := by decide +kernel
theorem dX0_draw_89 : decode cX0_draw 89 = .ok (.goto (-71), 3) := by decide +kernel
theorem dX0_draw_92 : decode cX0_draw 92 = .ok (.iconst 0, 1) := by decide +kernel
theorem dX0_draw_93 : decode cX0_draw 93 = .ok (.istore 4, 2) := by decide +kernel
theorem dX0_draw_95 : decode cX0_draw 95 = .ok (.iload 4, 2) := by decide +kernel
theorem dX0_draw_97 : decode cX0_draw 97 = .ok (.bipush 24, 2) := by decide +kernel
theorem dX0_draw_99 : decode cX0_draw 99 = .ok (.if_icmp .ge 133, 3) := by decide +kernel
theorem dX0_draw_102 : decode cX0_draw 102 = .ok (.aload_n 0, 1) := by decide +kernel
theorem dX0_draw_103 : decode cX0_draw 103 = .ok (.getfield 15, 3) := by decide +kernel
theorem dX0_draw_106 : decode cX0_draw 106 = .ok (.iload 4, 2) := by decide +kernel
theorem dX0_draw_108 : decode cX0_draw 108 = .ok (.aload_n 0, 1) := by decide +kernel
theorem dX0_draw_109 : decode cX0_draw 109 = .ok (.getfield 9, 3) := by decide +kernel
theorem dX0_draw_112 : decode cX0_draw 112 = .ok (.iload 4, 2) := by decide +kernel
theorem dX0_draw_114 : decode cX0_draw 114 = .ok (.iaload, 1) := by decide +kernel
theorem dX0_draw_115 : decode cX0_draw 115 = .ok (.ifCond .lt 28, 3) := by decide +kernel
theorem dX0_draw_118 : decode cX0_draw 118 = .ok (.aload_n 0, 1) := by decide +kernel
theorem dX0_draw_119 : decode cX0_draw 119 = .ok (.iload 4, 2) := by decide +kernel
theorem dX0_draw_121 : decode cX0_draw 121 = .ok (.aload_n 1, 1) := by decide +kernel
theorem dX0_draw_122 : decode cX0_draw 122 = .ok (.getfield 49, 3) := by decide +kernel
theorem dX0_draw_125 : decode cX0_draw 125 = .ok (.invokevirtual 53, 3) := by decide +kernel
theorem dX0_draw_128 : decode cX0_draw 128 = .ok (.aload_n 1, 1) := by decide +kernel
theorem dX0_draw_129 : decode cX0_draw 129 = .ok (.getfield 49, 3) := by decide +kernel
theorem dX0_draw_132 : decode cX0_draw 132 = .ok (.iconst 5, 1) := by decide +kernel
theorem dX0_draw_133 : decode cX0_draw 133 = .ok (.invokevirtual 59, 3) := by decide +kernel
theorem dX0_draw_136 : decode cX0_draw 136 = .ok (.if_icmp .ge 7, 3) := by decide +kernel
theorem dX0_draw_139 : decode cX0_draw 139 = .ok (.iconst 1, 1) := by decide +kernel
theorem dX0_draw_140 : decode cX0_draw 140 = .ok (.goto 4, 3) := by decide +kernel
theorem dX0_draw_143 : decode cX0_draw 143 = .ok (.iconst 0, 1) := by decide +kernel
theorem dX0_draw_144 : decode cX0_draw 144 = .ok (.bastore, 1) := by decide +kernel
theorem dX0_draw_145 : decode cX0_draw 145 = .ok (.aload_n 0, 1) := by decide +kernel
theorem dX0_draw_146 : decode cX0_draw 146 = .ok (.dup, 1) := by decide +kernel
theorem dX0_draw_147 : decode cX0_draw 147 = .ok (.getfield 38, 3) := by decide +kernel
theorem dX0_draw_150 : decode cX0_draw 150 = .ok (.aload_n 0, 1) := by decide +kernel
theorem dX0_draw_151 : decode cX0_draw 151 = .ok (.getfield 15, 3) := by decide +kernel
theorem dX0_draw_154 : decode cX0_draw 154 = .ok (.iload 4, 2) := by decide +kernel
theorem dX0_draw_156 : decode cX0_draw 156 = .ok (.baload, 1) := by decide +kernel
theorem dX0_draw_157 : decode cX0_draw 157 = .ok (.ifCond .eq 7, 3) := by decide +kernel
theorem dX0_draw_160 : decode cX0_draw 160 = .ok (.iconst 1, 1) := by decide +kernel
theorem dX0_draw_161 : decode cX0_draw 161 = .ok (.goto 4, 3) := by decide +kernel
theorem dX0_draw_164 : decode cX0_draw 164 = .ok (.iconst 0, 1) := by decide +kernel
theorem dX0_draw_165 : decode cX0_draw 165 = .ok (.iadd, 1) := by decide +kernel
theorem dX0_draw_166 : decode cX0_draw 166 = .ok (.putfield 38, 3) := by decide +kernel
theorem dX0_draw_169 : decode cX0_draw 169 = .ok (.aload_n 0, 1) := by decide +kernel
theorem dX0_draw_170 : decode cX0_draw 170 = .ok (.getfield 15, 3) := by decide +kernel
theorem dX0_draw_173 : decode cX0_draw 173 = .ok (.iload 4, 2) := by decide +kernel
theorem dX0_draw_175 : decode cX0_draw 175 = .ok (.baload, 1) := by decide +kernel
theorem dX0_draw_176 : decode cX0_draw 176 = .ok (.ifCond .eq 19, 3) := by decide +kernel
theorem dX0_draw_179 : decode cX0_draw 179 = .ok (.aload_n 1, 1) := by decide +kernel
theorem dX0_draw_180 : decode cX0_draw 180 = .ok (.bipush 24, 2) := by decide +kernel
theorem dX0_draw_182 : decode cX0_draw 182 = .ok (.iload 4, 2) := by decide +kernel
theorem dX0_draw_184 : decode cX0_draw 184 = .ok (.iadd, 1) := by decide +kernel
theorem dX0_draw_185 : decode cX0_draw 185 = .ok (.invokevirtual 41, 3) := by decide +kernel
theorem dX0_draw_188 : decode cX0_draw 188 = .ok (.ifCond .eq 7, 3) := by decide +kernel
theorem dX0_draw_191 : decode cX0_draw 191 = .ok (.iconst 1, 1) := by decide +kernel
theorem dX0_draw_192 : decode cX0_draw 192 = .ok (.goto 4, 3) := by decide +kernel
theorem dX0_draw_195 : decode cX0_draw 195 = .ok (.iconst 0, 1) := by decide +kernel
theorem dX0_draw_196 : decode cX0_draw 196 = .ok (.istore 5, 2) := by decide +kernel
theorem dX0_draw_198 : decode cX0_draw 198 = .ok (.aload_n 0, 1) := by decide +kernel
theorem dX0_draw_199 : decode cX0_draw 199 = .ok (.getfield 19, 3) := by decide +kernel
theorem dX0_draw_202 : decode cX0_draw 202 = .ok (.iload 4, 2) := by decide +kernel
theorem dX0_draw_204 : decode cX0_draw 204 = .ok (.aload_n 0, 1) := by decide +kernel
theorem dX0_draw_205 : decode cX0_draw 205 = .ok (.getfield 9, 3) := by decide +kernel
theorem dX0_draw_208 : decode cX0_draw 208 = .ok (.iload 4, 2) := by decide +kernel
theorem dX0_draw_210 : decode cX0_draw 210 = .ok (.iaload, 1) := by decide +kernel
theorem dX0_draw_211 : decode cX0_draw 211 = .ok (.iload 5, 2) := by decide +kernel
theorem dX0_draw_213 : decode cX0_draw 213 = .ok (.ifCond .eq 10, 3) := by decide +kernel
theorem dX0_draw_216 : decode cX0_draw 216 = .ok (.aload_n 1, 1) := by decide +kernel
theorem dX0_draw_217 : decode cX0_draw 217 = .ok (.invokevirtual 45, 3) := by decide +kernel
theorem dX0_draw_220 : decode cX0_draw 220 = .ok (.goto 4, 3) := by decide +kernel
theorem dX0_draw_223 : decode cX0_draw 223 = .ok (.iconst 0, 1) := by decide +kernel
theorem dX0_draw_224 : decode cX0_draw 224 = .ok (.iadd, 1) := by decide +kernel
theorem dX0_draw_225 : decode cX0_draw 225 = .ok (.iastore, 1) := by decide +kernel
theorem dX0_draw_226 : decode cX0_draw 226 = .ok (.iinc 4 1, 3) := by decide +kernel
theorem dX0_draw_229 : decode cX0_draw 229 = .ok (.goto (-134), 3) := by decide +kernel
theorem dX0_draw_232 : decode cX0_draw 232 = .ok (.iconst 0, 1) := by decide +kernel
theorem dX0_draw_233 : decode cX0_draw 233 = .ok (.istore 4, 2) := by decide +kernel
theorem dX0_draw_235 : decode cX0_draw 235 = .ok (.iload 4, 2) := by decide +kernel
theorem dX0_draw_237 : decode cX0_draw 237 = .ok (.bipush 24, 2) := by decide +kernel
theorem dX0_draw_239 : decode cX0_draw 239 = .ok (.if_icmp .ge 15, 3) := by decide +kernel
theorem dX0_draw_242 : decode cX0_draw 242 = .ok (.aload_n 0, 1) := by decide +kernel
theorem dX0_draw_243 : decode cX0_draw 243 = .ok (.iload 4, 2) := by decide +kernel
theorem dX0_draw_245 : decode cX0_draw 245 = .ok (.invokevirtual 63, 3) := by decide +kernel
theorem dX0_draw_248 : decode cX0_draw 248 = .ok (.iinc 4 1, 3) := by decide +kernel
theorem dX0_draw_251 : decode cX0_draw 251 = .ok (.goto (-16), 3) := by decide +kernel
theorem dX0_draw_254 : decode cX0_draw 254 = .ok (.return_, 1) := by decide +kernel
set_option maxRecDepth 20000 in
theorem ggX0_aheadInRoundZero_X2_number : GoodIn wsX0_aheadInRoundZero wsX2_number := goodIn_r _ [5, 6, 7, 8, 3, 9, 17, 18] (by decide +kernel) (by decide +kernel)
set_option maxRecDepth 20000 in
theorem gX0_aheadInRoundZero_X2_number_n59 : GoodIn wsX0_aheadInRoundZero (wsX2_number) := ggX0_aheadInRoundZero_X2_number
theorem dX0_aheadInRoundZero_0 : decode cX0_aheadInRoundZero 0 = .ok (.aload_n 2, 1) := by decide +kernel
theorem dX0_aheadInRoundZero_1 : decode cX0_aheadInRoundZero 1 = .ok (.bipush 6, 2) := by decide +kernel
theorem dX0_aheadInRoundZero_3 : decode cX0_aheadInRoundZero 3 = .ok (.invokevirtual 59, 3) := by decide +kernel
theorem dX0_aheadInRoundZero_6 : decode cX0_aheadInRoundZero 6 = .ok (.ifCond .ne 7, 3) := by decide +kernel
theorem dX0_aheadInRoundZero_9 : decode cX0_aheadInRoundZero 9 = .ok (.iconst 1, 1) := by decide +kernel
theorem dX0_aheadInRoundZero_10 : decode cX0_aheadInRoundZero 10 = .ok (.goto 4, 3) := by decide +kernel
theorem dX0_aheadInRoundZero_13 : decode cX0_aheadInRoundZero 13 = .ok (.iconst 0, 1) := by decide +kernel
theorem dX0_aheadInRoundZero_14 : decode cX0_aheadInRoundZero 14 = .ok (.istore_n 3, 1) := by decide +kernel
theorem dX0_aheadInRoundZero_15 : decode cX0_aheadInRoundZero 15 = .ok (.iconst 0, 1) := by decide +kernel
theorem dX0_aheadInRoundZero_16 : decode cX0_aheadInRoundZero 16 = .ok (.istore 4, 2) := by decide +kernel
theorem dX0_aheadInRoundZero_18 : decode cX0_aheadInRoundZero 18 = .ok (.iconst 0, 1) := by decide +kernel
theorem dX0_aheadInRoundZero_19 : decode cX0_aheadInRoundZero 19 = .ok (.istore 5, 2) := by decide +kernel
theorem dX0_aheadInRoundZero_21 : decode cX0_aheadInRoundZero 21 = .ok (.iload 5, 2) := by decide +kernel
theorem dX0_aheadInRoundZero_23 : decode cX0_aheadInRoundZero 23 = .ok (.bipush 24, 2) := by decide +kernel
theorem dX0_aheadInRoundZero_25 : decode cX0_aheadInRoundZero 25 = .ok (.if_icmp .ge 73, 3) := by decide +kernel
theorem dX0_aheadInRoundZero_28 : decode cX0_aheadInRoundZero 28 = .ok (.aload_n 0, 1) := by decide +kernel
theorem dX0_aheadInRoundZero_29 : decode cX0_aheadInRoundZero 29 = .ok (.getfield 9, 3) := by decide +kernel
theorem dX0_aheadInRoundZero_32 : decode cX0_aheadInRoundZero 32 = .ok (.iload 5, 2) := by decide +kernel
theorem dX0_aheadInRoundZero_34 : decode cX0_aheadInRoundZero 34 = .ok (.iaload, 1) := by decide +kernel
theorem dX0_aheadInRoundZero_35 : decode cX0_aheadInRoundZero 35 = .ok (.aload_n 0, 1) := by decide +kernel
theorem dX0_aheadInRoundZero_36 : decode cX0_aheadInRoundZero 36 = .ok (.getfield 9, 3) := by decide +kernel
theorem dX0_aheadInRoundZero_39 : decode cX0_aheadInRoundZero 39 = .ok (.iload_n 1, 1) := by decide +kernel
theorem dX0_aheadInRoundZero_40 : decode cX0_aheadInRoundZero 40 = .ok (.iaload, 1) := by decide +kernel
theorem dX0_aheadInRoundZero_41 : decode cX0_aheadInRoundZero 41 = .ok (.if_icmp .gt 29, 3) := by decide +kernel
theorem dX0_aheadInRoundZero_44 : decode cX0_aheadInRoundZero 44 = .ok (.iload_n 3, 1) := by decide +kernel
theorem dX0_aheadInRoundZero_45 : decode cX0_aheadInRoundZero 45 = .ok (.ifCond .eq 29, 3) := by decide +kernel
theorem dX0_aheadInRoundZero_48 : decode cX0_aheadInRoundZero 48 = .ok (.aload_n 0, 1) := by decide +kernel
theorem dX0_aheadInRoundZero_49 : decode cX0_aheadInRoundZero 49 = .ok (.getfield 9, 3) := by decide +kernel
theorem dX0_aheadInRoundZero_52 : decode cX0_aheadInRoundZero 52 = .ok (.iload 5, 2) := by decide +kernel
theorem dX0_aheadInRoundZero_54 : decode cX0_aheadInRoundZero 54 = .ok (.iaload, 1) := by decide +kernel
theorem dX0_aheadInRoundZero_55 : decode cX0_aheadInRoundZero 55 = .ok (.aload_n 0, 1) := by decide +kernel
theorem dX0_aheadInRoundZero_56 : decode cX0_aheadInRoundZero 56 = .ok (.getfield 9, 3) := by decide +kernel
theorem dX0_aheadInRoundZero_59 : decode cX0_aheadInRoundZero 59 = .ok (.iload_n 1, 1) := by decide +kernel
theorem dX0_aheadInRoundZero_60 : decode cX0_aheadInRoundZero 60 = .ok (.iaload, 1) := by decide +kernel
theorem dX0_aheadInRoundZero_61 : decode cX0_aheadInRoundZero 61 = .ok (.if_icmp .ne 13, 3) := by decide +kernel
theorem dX0_aheadInRoundZero_64 : decode cX0_aheadInRoundZero 64 = .ok (.iload 5, 2) := by decide +kernel
theorem dX0_aheadInRoundZero_66 : decode cX0_aheadInRoundZero 66 = .ok (.iload_n 1, 1) := by decide +kernel
theorem dX0_aheadInRoundZero_67 : decode cX0_aheadInRoundZero 67 = .ok (.if_icmp .ge 7, 3) := by decide +kernel
theorem dX0_aheadInRoundZero_70 : decode cX0_aheadInRoundZero 70 = .ok (.iconst 1, 1) := by decide +kernel
theorem dX0_aheadInRoundZero_71 : decode cX0_aheadInRoundZero 71 = .ok (.goto 4, 3) := by decide +kernel
theorem dX0_aheadInRoundZero_74 : decode cX0_aheadInRoundZero 74 = .ok (.iconst 0, 1) := by decide +kernel
theorem dX0_aheadInRoundZero_75 : decode cX0_aheadInRoundZero 75 = .ok (.istore 6, 2) := by decide +kernel
theorem dX0_aheadInRoundZero_77 : decode cX0_aheadInRoundZero 77 = .ok (.iload 4, 2) := by decide +kernel
theorem dX0_aheadInRoundZero_79 : decode cX0_aheadInRoundZero 79 = .ok (.iload 6, 2) := by decide +kernel
theorem dX0_aheadInRoundZero_81 : decode cX0_aheadInRoundZero 81 = .ok (.ifCond .eq 7, 3) := by decide +kernel
theorem dX0_aheadInRoundZero_84 : decode cX0_aheadInRoundZero 84 = .ok (.iconst 1, 1) := by decide +kernel
theorem dX0_aheadInRoundZero_85 : decode cX0_aheadInRoundZero 85 = .ok (.goto 4, 3) := by decide +kernel
theorem dX0_aheadInRoundZero_88 : decode cX0_aheadInRoundZero 88 = .ok (.iconst 0, 1) := by decide +kernel
theorem dX0_aheadInRoundZero_89 : decode cX0_aheadInRoundZero 89 = .ok (.iadd, 1) := by decide +kernel
theorem dX0_aheadInRoundZero_90 : decode cX0_aheadInRoundZero 90 = .ok (.istore 4, 2) := by decide +kernel
theorem dX0_aheadInRoundZero_92 : decode cX0_aheadInRoundZero 92 = .ok (.iinc 5 1, 3) := by decide +kernel
theorem dX0_aheadInRoundZero_95 : decode cX0_aheadInRoundZero 95 = .ok (.goto (-74), 3) := by decide +kernel
theorem dX0_aheadInRoundZero_98 : decode cX0_aheadInRoundZero 98 = .ok (.iload 4, 2) := by decide +kernel
theorem dX0_aheadInRoundZero_100 : decode cX0_aheadInRoundZero 100 = .ok (.ireturn, 1) := by decide +kernel
set_option maxRecDepth 20000 in
theorem ggX0_placeOnList_X0_isBetter : GoodIn wsX0_placeOnList wsX0_isBetter := goodIn_r _ [10, 3, 4, 11, 12, 13, 14, 15, 16, 17] (by decide +kernel) (by decide +kernel)
set_option maxRecDepth 20000 in
theorem gX0_placeOnList_X0_isBetter : GoodIn wsX0_placeOnList (wsV RX0 66 RX0 yX0_isBetter wsX0_isBetter) := goodIn_app (goodIn_of _ (by decide +kernel)) ggX0_placeOnList_X0_isBetter
theorem dX0_placeOnList_0 : decode cX0_placeOnList 0 = .ok (.aload_n 0, 1) := by decide +kernel
theorem dX0_placeOnList_1 : decode cX0_placeOnList 1 = .ok (.getfield 22, 3) := by decide +kernel
theorem dX0_placeOnList_4 : decode cX0_placeOnList 4 = .ok (.iload_n 1, 1) := by decide +kernel
theorem dX0_placeOnList_5 : decode cX0_placeOnList 5 = .ok (.iconst 0, 1) := by decide +kernel
theorem dX0_placeOnList_6 : decode cX0_placeOnList 6 = .ok (.iastore, 1) := by decide +kernel
theorem dX0_placeOnList_7 : decode cX0_placeOnList 7 = .ok (.aload_n 0, 1) := by decide +kernel
theorem dX0_placeOnList_8 : decode cX0_placeOnList 8 = .ok (.getfield 9, 3) := by decide +kernel
theorem dX0_placeOnList_11 : decode cX0_placeOnList 11 = .ok (.iload_n 1, 1) := by decide +kernel
theorem dX0_placeOnList_12 : decode cX0_placeOnList 12 = .ok (.iaload, 1) := by decide +kernel
theorem dX0_placeOnList_13 : decode cX0_placeOnList 13 = .ok (.ifCond .ge 4, 3) := by decide +kernel
theorem dX0_placeOnList_16 : decode cX0_placeOnList 16 = .ok (.return_, 1) := by decide +kernel
theorem dX0_placeOnList_17 : decode cX0_placeOnList 17 = .ok (.iconst 0, 1) := by decide +kernel
theorem dX0_placeOnList_18 : decode cX0_placeOnList 18 = .ok (.istore_n 2, 1) := by decide +kernel
theorem dX0_placeOnList_19 : decode cX0_placeOnList 19 = .ok (.iconst 0, 1) := by decide +kernel
theorem dX0_placeOnList_20 : decode cX0_placeOnList 20 = .ok (.istore_n 3, 1) := by decide +kernel
theorem dX0_placeOnList_21 : decode cX0_placeOnList 21 = .ok (.iconst 0, 1) := by decide +kernel
theorem dX0_placeOnList_22 : decode cX0_placeOnList 22 = .ok (.istore 4, 2) := by decide +kernel
theorem dX0_placeOnList_24 : decode cX0_placeOnList 24 = .ok (.iload 4, 2) := by decide +kernel
theorem dX0_placeOnList_26 : decode cX0_placeOnList 26 = .ok (.bipush 24, 2) := by decide +kernel
theorem dX0_placeOnList_28 : decode cX0_placeOnList 28 = .ok (.if_icmp .ge 83, 3) := by decide +kernel
theorem dX0_placeOnList_31 : decode cX0_placeOnList 31 = .ok (.aload_n 0, 1) := by decide +kernel
theorem dX0_placeOnList_32 : decode cX0_placeOnList 32 = .ok (.getfield 9, 3) := by decide +kernel
theorem dX0_placeOnList_35 : decode cX0_placeOnList 35 = .ok (.iload 4, 2) := by decide +kernel
theorem dX0_placeOnList_37 : decode cX0_placeOnList 37 = .ok (.iaload, 1) := by decide +kernel
theorem dX0_placeOnList_38 : decode cX0_placeOnList 38 = .ok (.ifCond .lt 67, 3) := by decide +kernel
theorem dX0_placeOnList_41 : decode cX0_placeOnList 41 = .ok (.iload_n 2, 1) := by decide +kernel
theorem dX0_placeOnList_42 : decode cX0_placeOnList 42 = .ok (.aload_n 0, 1) := by decide +kernel
theorem dX0_placeOnList_43 : decode cX0_placeOnList 43 = .ok (.iload 4, 2) := by decide +kernel
theorem dX0_placeOnList_45 : decode cX0_placeOnList 45 = .ok (.iload_n 1, 1) := by decide +kernel
theorem dX0_placeOnList_46 : decode cX0_placeOnList 46 = .ok (.invokevirtual 66, 3) := by decide +kernel
theorem dX0_placeOnList_49 : decode cX0_placeOnList 49 = .ok (.ifCond .eq 7, 3) := by decide +kernel
theorem dX0_placeOnList_52 : decode cX0_placeOnList 52 = .ok (.iconst 1, 1) := by decide +kernel
theorem dX0_placeOnList_53 : decode cX0_placeOnList 53 = .ok (.goto 4, 3) := by decide +kernel
theorem dX0_placeOnList_56 : decode cX0_placeOnList 56 = .ok (.iconst 0, 1) := by decide +kernel
theorem dX0_placeOnList_57 : decode cX0_placeOnList 57 = .ok (.iadd, 1) := by decide +kernel
theorem dX0_placeOnList_58 : decode cX0_placeOnList 58 = .ok (.istore_n 2, 1) := by decide +kernel
theorem dX0_placeOnList_59 : decode cX0_placeOnList 59 = .ok (.iload_n 3, 1) := by decide +kernel
theorem dX0_placeOnList_60 : decode cX0_placeOnList 60 = .ok (.iload 4, 2) := by decide +kernel
theorem dX0_placeOnList_62 : decode cX0_placeOnList 62 = .ok (.iload_n 1, 1) := by decide +kernel
theorem dX0_placeOnList_63 : decode cX0_placeOnList 63 = .ok (.if_icmp .ge 39, 3) := by decide +kernel
theorem dX0_placeOnList_66 : decode cX0_placeOnList 66 = .ok (.aload_n 0, 1) := by decide +kernel
theorem dX0_placeOnList_67 : decode cX0_placeOnList 67 = .ok (.getfield 15, 3) := by decide +kernel
theorem dX0_placeOnList_70 : decode cX0_placeOnList 70 = .ok (.iload 4, 2) := by decide +kernel
theorem dX0_placeOnList_72 : decode cX0_placeOnList 72 = .ok (.baload, 1) := by decide +kernel
theorem dX0_placeOnList_73 : decode cX0_placeOnList 73 = .ok (.aload_n 0, 1) := by decide +kernel
theorem dX0_placeOnList_74 : decode cX0_placeOnList 74 = .ok (.getfield 15, 3) := by decide +kernel
theorem dX0_placeOnList_77 : decode cX0_placeOnList 77 = .ok (.iload_n 1, 1) := by decide +kernel
theorem dX0_placeOnList_78 : decode cX0_placeOnList 78 = .ok (.baload, 1) := by decide +kernel
theorem dX0_placeOnList_79 : decode cX0_placeOnList 79 = .ok (.if_icmp .ne 23, 3) := by decide +kernel
theorem dX0_placeOnList_82 : decode cX0_placeOnList 82 = .ok (.aload_n 0, 1) := by decide +kernel
theorem dX0_placeOnList_83 : decode cX0_placeOnList 83 = .ok (.getfield 19, 3) := by decide +kernel
theorem dX0_placeOnList_86 : decode cX0_placeOnList 86 = .ok (.iload 4, 2) := by decide +kernel
theorem dX0_placeOnList_88 : decode cX0_placeOnList 88 = .ok (.iaload, 1) := by decide +kernel
theorem dX0_placeOnList_89 : decode cX0_placeOnList 89 = .ok (.aload_n 0, 1) := by decide +kernel
theorem dX0_placeOnList_90 : decode cX0_placeOnList 90 = .ok (.getfield 19, 3) := by decide +kernel
theorem dX0_placeOnList_93 : decode cX0_placeOnList 93 = .ok (.iload_n 1, 1) := by decide +kernel
theorem dX0_placeOnList_94 : decode cX0_placeOnList 94 = .ok (.iaload, 1) := by decide +kernel
theorem dX0_placeOnList_95 : decode cX0_placeOnList 95 = .ok (.if_icmp .ne 7, 3) := by decide +kernel
theorem dX0_placeOnList_98 : decode cX0_placeOnList 98 = .ok (.iconst 1, 1) := by decide +kernel
theorem dX0_placeOnList_99 : decode cX0_placeOnList 99 = .ok (.goto 4, 3) := by decide +kernel
theorem dX0_placeOnList_102 : decode cX0_placeOnList 102 = .ok (.iconst 0, 1) := by decide +kernel
theorem dX0_placeOnList_103 : decode cX0_placeOnList 103 = .ok (.iadd, 1) := by decide +kernel
theorem dX0_placeOnList_104 : decode cX0_placeOnList 104 = .ok (.istore_n 3, 1) := by decide +kernel
theorem dX0_placeOnList_105 : decode cX0_placeOnList 105 = .ok (.iinc 4 1, 3) := by decide +kernel
theorem dX0_placeOnList_108 : decode cX0_placeOnList 108 = .ok (.goto (-84), 3) := by decide +kernel
theorem dX0_placeOnList_111 : decode cX0_placeOnList 111 = .ok (.aload_n 0, 1) := by decide +kernel
theorem dX0_placeOnList_112 : decode cX0_placeOnList 112 = .ok (.getfield 22, 3) := by decide +kernel
theorem dX0_placeOnList_115 : decode cX0_placeOnList 115 = .ok (.iload_n 1, 1) := by decide +kernel
theorem dX0_placeOnList_116 : decode cX0_placeOnList 116 = .ok (.iconst 1, 1) := by decide +kernel
theorem dX0_placeOnList_117 : decode cX0_placeOnList 117 = .ok (.iload_n 2, 1) := by decide +kernel
theorem dX0_placeOnList_118 : decode cX0_placeOnList 118 = .ok (.iadd, 1) := by decide +kernel
theorem dX0_placeOnList_119 : decode cX0_placeOnList 119 = .ok (.iastore, 1) := by decide +kernel
theorem dX0_placeOnList_120 : decode cX0_placeOnList 120 = .ok (.iload_n 2, 1) := by decide +kernel
theorem dX0_placeOnList_121 : decode cX0_placeOnList 121 = .ok (.iload_n 3, 1) := by decide +kernel
theorem dX0_placeOnList_122 : decode cX0_placeOnList 122 = .ok (.iadd, 1) := by decide +kernel
theorem dX0_placeOnList_123 : decode cX0_placeOnList 123 = .ok (.istore 4, 2) := by decide +kernel
theorem dX0_placeOnList_125 : decode cX0_placeOnList 125 = .ok (.iload 4, 2) := by decide +kernel
theorem dX0_placeOnList_127 : decode cX0_placeOnList 127 = .ok (.bipush 24, 2) := by decide +kernel
theorem dX0_placeOnList_129 : decode cX0_placeOnList 129 = .ok (.if_icmp .ge 11, 3) := by decide +kernel
theorem dX0_placeOnList_132 : decode cX0_placeOnList 132 = .ok (.aload_n 0, 1) := by decide +kernel
theorem dX0_placeOnList_133 : decode cX0_placeOnList 133 = .ok (.getfield 25, 3) := by decide +kernel
theorem dX0_placeOnList_136 : decode cX0_placeOnList 136 = .ok (.iload 4, 2) := by decide +kernel
theorem dX0_placeOnList_138 : decode cX0_placeOnList 138 = .ok (.iload_n 1, 1) := by decide +kernel
theorem dX0_placeOnList_139 : decode cX0_placeOnList 139 = .ok (.iastore, 1) := by decide +kernel
theorem dX0_placeOnList_140 : decode cX0_placeOnList 140 = .ok (.return_, 1) := by decide +kernel
theorem dX0_isBetter_0 : decode cX0_isBetter 0 = .ok (.aload_n 0, 1) := by decide +kernel
theorem dX0_isBetter_1 : decode cX0_isBetter 1 = .ok (.getfield 15, 3) := by decide +kernel
theorem dX0_isBetter_4 : decode cX0_isBetter 4 = .ok (.iload_n 1, 1) := by decide +kernel
theorem dX0_isBetter_5 : decode cX0_isBetter 5 = .ok (.baload, 1) := by decide +kernel
theorem dX0_isBetter_6 : decode cX0_isBetter 6 = .ok (.aload_n 0, 1) := by decide +kernel
theorem dX0_isBetter_7 : decode cX0_isBetter 7 = .ok (.getfield 15, 3) := by decide +kernel
theorem dX0_isBetter_10 : decode cX0_isBetter 10 = .ok (.iload_n 2, 1) := by decide +kernel
theorem dX0_isBetter_11 : decode cX0_isBetter 11 = .ok (.baload, 1) := by decide +kernel
theorem dX0_isBetter_12 : decode cX0_isBetter 12 = .ok (.if_icmp .ne 26, 3) := by decide +kernel
theorem dX0_isBetter_15 : decode cX0_isBetter 15 = .ok (.aload_n 0, 1) := by decide +kernel
theorem dX0_isBetter_16 : decode cX0_isBetter 16 = .ok (.getfield 19, 3) := by decide +kernel
theorem dX0_isBetter_19 : decode cX0_isBetter 19 = .ok (.iload_n 1, 1) := by decide +kernel
theorem dX0_isBetter_20 : decode cX0_isBetter 20 = .ok (.iaload, 1) := by decide +kernel
theorem dX0_isBetter_21 : decode cX0_isBetter 21 = .ok (.aload_n 0, 1) := by decide +kernel
theorem dX0_isBetter_22 : decode cX0_isBetter 22 = .ok (.getfield 19, 3) := by decide +kernel
theorem dX0_isBetter_25 : decode cX0_isBetter 25 = .ok (.iload_n 2, 1) := by decide +kernel
theorem dX0_isBetter_26 : decode cX0_isBetter 26 = .ok (.iaload, 1) := by decide +kernel
theorem dX0_isBetter_27 : decode cX0_isBetter 27 = .ok (.if_icmp .le 7, 3) := by decide +kernel
theorem dX0_isBetter_30 : decode cX0_isBetter 30 = .ok (.iconst 1, 1) := by decide +kernel
theorem dX0_isBetter_31 : decode cX0_isBetter 31 = .ok (.goto 13, 3) := by decide +kernel
theorem dX0_isBetter_34 : decode cX0_isBetter 34 = .ok (.iconst 0, 1) := by decide +kernel
theorem dX0_isBetter_35 : decode cX0_isBetter 35 = .ok (.goto 9, 3) := by decide +kernel
theorem dX0_isBetter_38 : decode cX0_isBetter 38 = .ok (.aload_n 0, 1) := by decide +kernel
theorem dX0_isBetter_39 : decode cX0_isBetter 39 = .ok (.getfield 15, 3) := by decide +kernel
theorem dX0_isBetter_42 : decode cX0_isBetter 42 = .ok (.iload_n 1, 1) := by decide +kernel
theorem dX0_isBetter_43 : decode cX0_isBetter 43 = .ok (.baload, 1) := by decide +kernel
theorem dX0_isBetter_44 : decode cX0_isBetter 44 = .ok (.ireturn, 1) := by decide +kernel
set_option maxRecDepth 20000 in
theorem ggX0_isListed_X0_placeOf : GoodIn wsX0_isListed wsX0_placeOf := goodIn_r _ [5, 6, 7, 8, 9, 10, 11, 12, 13] (by decide +kernel) (by decide +kernel)
set_option maxRecDepth 20000 in
theorem gX0_isListed_X0_placeOf : GoodIn wsX0_isListed (wsV RX0 70 RX0 yX0_placeOf wsX0_placeOf) := goodIn_app (goodIn_of _ (by decide +kernel)) ggX0_isListed_X0_placeOf
theorem dX0_isListed_0 : decode cX0_isListed 0 = .ok (.aload_n 0, 1) := by decide +kernel
theorem dX0_isListed_1 : decode cX0_isListed 1 = .ok (.iload_n 1, 1) := by decide +kernel
theorem dX0_isListed_2 : decode cX0_isListed 2 = .ok (.invokevirtual 70, 3) := by decide +kernel
theorem dX0_isListed_5 : decode cX0_isListed 5 = .ok (.ifCond .le 7, 3) := by decide +kernel
theorem dX0_isListed_8 : decode cX0_isListed 8 = .ok (.iconst 1, 1) := by decide +kernel
theorem dX0_isListed_9 : decode cX0_isListed 9 = .ok (.goto 4, 3) := by decide +kernel
theorem dX0_isListed_12 : decode cX0_isListed 12 = .ok (.iconst 0, 1) := by decide +kernel
theorem dX0_isListed_13 : decode cX0_isListed 13 = .ok (.ireturn, 1) := by decide +kernel
theorem dX0_isThrough_0 : decode cX0_isThrough 0 = .ok (.iload_n 1, 1) := by decide +kernel
theorem dX0_isThrough_1 : decode cX0_isThrough 1 = .ok (.ifCond .lt 22, 3) := by decide +kernel
theorem dX0_isThrough_4 : decode cX0_isThrough 4 = .ok (.iload_n 1, 1) := by decide +kernel
theorem dX0_isThrough_5 : decode cX0_isThrough 5 = .ok (.bipush 24, 2) := by decide +kernel
theorem dX0_isThrough_7 : decode cX0_isThrough 7 = .ok (.if_icmp .ge 16, 3) := by decide +kernel
theorem dX0_isThrough_10 : decode cX0_isThrough 10 = .ok (.aload_n 0, 1) := by decide +kernel
theorem dX0_isThrough_11 : decode cX0_isThrough 11 = .ok (.getfield 15, 3) := by decide +kernel
theorem dX0_isThrough_14 : decode cX0_isThrough 14 = .ok (.iload_n 1, 1) := by decide +kernel
theorem dX0_isThrough_15 : decode cX0_isThrough 15 = .ok (.baload, 1) := by decide +kernel
theorem dX0_isThrough_16 : decode cX0_isThrough 16 = .ok (.ifCond .eq 7, 3) := by decide +kernel
theorem dX0_isThrough_19 : decode cX0_isThrough 19 = .ok (.iconst 1, 1) := by decide +kernel
theorem dX0_isThrough_20 : decode cX0_isThrough 20 = .ok (.goto 4, 3) := by decide +kernel
theorem dX0_isThrough_23 : decode cX0_isThrough 23 = .ok (.iconst 0, 1) := by decide +kernel
theorem dX0_isThrough_24 : decode cX0_isThrough 24 = .ok (.ireturn, 1) := by decide +kernel
theorem dX0_totalOf_0 : decode cX0_totalOf 0 = .ok (.iload_n 1, 1) := by decide +kernel
theorem dX0_totalOf_1 : decode cX0_totalOf 1 = .ok (.ifCond .lt 18, 3) := by decide +kernel
theorem dX0_totalOf_4 : decode cX0_totalOf 4 = .ok (.iload_n 1, 1) := by decide +kernel
theorem dX0_totalOf_5 : decode cX0_totalOf 5 = .ok (.bipush 24, 2) := by decide +kernel
theorem dX0_totalOf_7 : decode cX0_totalOf 7 = .ok (.if_icmp .ge 12, 3) := by decide +kernel
theorem dX0_totalOf_10 : decode cX0_totalOf 10 = .ok (.aload_n 0, 1) := by decide +kernel
theorem dX0_totalOf_11 : decode cX0_totalOf 11 = .ok (.getfield 19, 3) := by decide +kernel
theorem dX0_totalOf_14 : decode cX0_totalOf 14 = .ok (.iload_n 1, 1) := by decide +kernel
theorem dX0_totalOf_15 : decode cX0_totalOf 15 = .ok (.iaload, 1) := by decide +kernel
theorem dX0_totalOf_16 : decode cX0_totalOf 16 = .ok (.goto 4, 3) := by decide +kernel
theorem dX0_totalOf_19 : decode cX0_totalOf 19 = .ok (.iconst 0, 1) := by decide +kernel
theorem dX0_totalOf_20 : decode cX0_totalOf 20 = .ok (.ireturn, 1) := by decide +kernel
theorem dX0_placeOf_0 : decode cX0_placeOf 0 = .ok (.iload_n 1, 1) := by decide +kernel
theorem dX0_placeOf_1 : decode cX0_placeOf 1 = .ok (.ifCond .lt 18, 3) := by decide +kernel
theorem dX0_placeOf_4 : decode cX0_placeOf 4 = .ok (.iload_n 1, 1) := by decide +kernel
theorem dX0_placeOf_5 : decode cX0_placeOf 5 = .ok (.bipush 24, 2) := by decide +kernel
theorem dX0_placeOf_7 : decode cX0_placeOf 7 = .ok (.if_icmp .ge 12, 3) := by decide +kernel
theorem dX0_placeOf_10 : decode cX0_placeOf 10 = .ok (.aload_n 0, 1) := by decide +kernel
theorem dX0_placeOf_11 : decode cX0_placeOf 11 = .ok (.getfield 22, 3) := by decide +kernel
theorem dX0_placeOf_14 : decode cX0_placeOf 14 = .ok (.iload_n 1, 1) := by decide +kernel
theorem dX0_placeOf_15 : decode cX0_placeOf 15 = .ok (.iaload, 1) := by decide +kernel
theorem dX0_placeOf_16 : decode cX0_placeOf 16 = .ok (.goto 4, 3) := by decide +kernel
theorem dX0_placeOf_19 : decode cX0_placeOf 19 = .ok (.iconst 0, 1) := by decide +kernel
theorem dX0_placeOf_20 : decode cX0_placeOf 20 = .ok (.ireturn, 1) := by decide +kernel
theorem dX0_isPosition_0 : decode cX0_isPosition 0 = .ok (.iload_n 1, 1) := by decide +kernel
theorem dX0_isPosition_1 : decode cX0_isPosition 1 = .ok (.ifCond .lt 15, 3) := by decide +kernel
theorem dX0_isPosition_4 : decode cX0_isPosition 4 = .ok (.iload_n 1, 1) := by decide +kernel
theorem dX0_isPosition_5 : decode cX0_isPosition 5 = .ok (.aload_n 0, 1) := by decide +kernel
theorem dX0_isPosition_6 : decode cX0_isPosition 6 = .ok (.getfield 34, 3) := by decide +kernel
theorem dX0_isPosition_9 : decode cX0_isPosition 9 = .ok (.if_icmp .ge 7, 3) := by decide +kernel
theorem dX0_isPosition_12 : decode cX0_isPosition 12 = .ok (.iconst 1, 1) := by decide +kernel
theorem dX0_isPosition_13 : decode cX0_isPosition 13 = .ok (.goto 4, 3) := by decide +kernel
theorem dX0_isPosition_16 : decode cX0_isPosition 16 = .ok (.iconst 0, 1) := by decide +kernel
theorem dX0_isPosition_17 : decode cX0_isPosition 17 = .ok (.ireturn, 1) := by decide +kernel
theorem dX0_jumperAt_0 : decode cX0_jumperAt 0 = .ok (.iload_n 1, 1) := by decide +kernel
theorem dX0_jumperAt_1 : decode cX0_jumperAt 1 = .ok (.ifCond .lt 18, 3) := by decide +kernel
theorem dX0_jumperAt_4 : decode cX0_jumperAt 4 = .ok (.iload_n 1, 1) := by decide +kernel
theorem dX0_jumperAt_5 : decode cX0_jumperAt 5 = .ok (.bipush 24, 2) := by decide +kernel
theorem dX0_jumperAt_7 : decode cX0_jumperAt 7 = .ok (.if_icmp .ge 12, 3) := by decide +kernel
theorem dX0_jumperAt_10 : decode cX0_jumperAt 10 = .ok (.aload_n 0, 1) := by decide +kernel
theorem dX0_jumperAt_11 : decode cX0_jumperAt 11 = .ok (.getfield 25, 3) := by decide +kernel
theorem dX0_jumperAt_14 : decode cX0_jumperAt 14 = .ok (.iload_n 1, 1) := by decide +kernel
theorem dX0_jumperAt_15 : decode cX0_jumperAt 15 = .ok (.iaload, 1) := by decide +kernel
theorem dX0_jumperAt_16 : decode cX0_jumperAt 16 = .ok (.goto 6, 3) := by decide +kernel
theorem dX0_jumperAt_19 : decode cX0_jumperAt 19 = .ok (.sipush (-10000), 3) := by decide +kernel
theorem dX0_jumperAt_22 : decode cX0_jumperAt 22 = .ok (.ireturn, 1) := by decide +kernel
set_option maxRecDepth 20000 in
theorem ggX0_starterAt_X0_startersBefore : GoodIn wsX0_starterAt wsX0_startersBefore := goodIn_r _ [6, 1, 7, 8, 9, 10, 11, 12, 13, 14] (by decide +kernel) (by decide +kernel)
set_option maxRecDepth 20000 in
theorem gX0_starterAt_X0_startersBefore : GoodIn wsX0_starterAt (wsV RX0 73 RX0 yX0_startersBefore wsX0_startersBefore) := goodIn_app (goodIn_of _ (by decide +kernel)) ggX0_starterAt_X0_startersBefore
theorem dX0_starterAt_0 : decode cX0_starterAt 0 = .ok (.iconst 0, 1) := by decide +kernel
theorem dX0_starterAt_1 : decode cX0_starterAt 1 = .ok (.istore_n 2, 1) := by decide +kernel
theorem dX0_starterAt_2 : decode cX0_starterAt 2 = .ok (.iload_n 2, 1) := by decide +kernel
theorem dX0_starterAt_3 : decode cX0_starterAt 3 = .ok (.bipush 24, 2) := by decide +kernel
theorem dX0_starterAt_5 : decode cX0_starterAt 5 = .ok (.if_icmp .ge 29, 3) := by decide +kernel
theorem dX0_starterAt_8 : decode cX0_starterAt 8 = .ok (.aload_n 0, 1) := by decide +kernel
theorem dX0_starterAt_9 : decode cX0_starterAt 9 = .ok (.getfield 15, 3) := by decide +kernel
theorem dX0_starterAt_12 : decode cX0_starterAt 12 = .ok (.iload_n 2, 1) := by decide +kernel
theorem dX0_starterAt_13 : decode cX0_starterAt 13 = .ok (.baload, 1) := by decide +kernel
theorem dX0_starterAt_14 : decode cX0_starterAt 14 = .ok (.ifCond .eq 14, 3) := by decide +kernel
theorem dX0_starterAt_17 : decode cX0_starterAt 17 = .ok (.aload_n 0, 1) := by decide +kernel
theorem dX0_starterAt_18 : decode cX0_starterAt 18 = .ok (.iload_n 2, 1) := by decide +kernel
theorem dX0_starterAt_19 : decode cX0_starterAt 19 = .ok (.invokevirtual 73, 3) := by decide +kernel
theorem dX0_starterAt_22 : decode cX0_starterAt 22 = .ok (.iload_n 1, 1) := by decide +kernel
theorem dX0_starterAt_23 : decode cX0_starterAt 23 = .ok (.if_icmp .ne 5, 3) := by decide +kernel
theorem dX0_starterAt_26 : decode cX0_starterAt 26 = .ok (.iload_n 2, 1) := by decide +kernel
theorem dX0_starterAt_27 : decode cX0_starterAt 27 = .ok (.ireturn, 1) := by decide +kernel
theorem dX0_starterAt_28 : decode cX0_starterAt 28 = .ok (.iinc 2 1, 3) := by decide +kernel
theorem dX0_starterAt_31 : decode cX0_starterAt 31 = .ok (.goto (-29), 3) := by decide +kernel
theorem dX0_starterAt_34 : decode cX0_starterAt 34 = .ok (.sipush (-10000), 3) := by decide +kernel
theorem dX0_starterAt_37 : decode cX0_starterAt 37 = .ok (.ireturn, 1) := by decide +kernel
theorem dX0_startersBefore_0 : decode cX0_startersBefore 0 = .ok (.iconst 0, 1) := by decide +kernel
theorem dX0_startersBefore_1 : decode cX0_startersBefore 1 = .ok (.istore_n 2, 1) := by decide +kernel
theorem dX0_startersBefore_2 : decode cX0_startersBefore 2 = .ok (.iconst 0, 1) := by decide +kernel
theorem dX0_startersBefore_3 : decode cX0_startersBefore 3 = .ok (.istore_n 3, 1) := by decide +kernel
theorem dX0_startersBefore_4 : decode cX0_startersBefore 4 = .ok (.iload_n 3, 1) := by decide +kernel
theorem dX0_startersBefore_5 : decode cX0_startersBefore 5 = .ok (.bipush 24, 2) := by decide +kernel
theorem dX0_startersBefore_7 : decode cX0_startersBefore 7 = .ok (.if_icmp .ge 73, 3) := by decide +kernel
theorem dX0_startersBefore_10 : decode cX0_startersBefore 10 = .ok (.aload_n 0, 1) := by decide +kernel
theorem dX0_startersBefore_11 : decode cX0_startersBefore 11 = .ok (.getfield 15, 3) := by decide +kernel
theorem dX0_startersBefore_14 : decode cX0_startersBefore 14 = .ok (.iload_n 3, 1) := by decide +kernel
theorem dX0_startersBefore_15 : decode cX0_startersBefore 15 = .ok (.baload, 1) := by decide +kernel
theorem dX0_startersBefore_16 : decode cX0_startersBefore 16 = .ok (.ifCond .eq 42, 3) := by decide +kernel
theorem dX0_startersBefore_19 : decode cX0_startersBefore 19 = .ok (.aload_n 0, 1) := by decide +kernel
theorem dX0_startersBefore_20 : decode cX0_startersBefore 20 = .ok (.getfield 9, 3) := by decide +kernel
theorem dX0_startersBefore_23 : decode cX0_startersBefore 23 = .ok (.iload_n 3, 1) := by decide +kernel
theorem dX0_startersBefore_24 : decode cX0_startersBefore 24 = .ok (.iaload, 1) := by decide +kernel
theorem dX0_startersBefore_25 : decode cX0_startersBefore 25 = .ok (.aload_n 0, 1) := by decide +kernel
theorem dX0_startersBefore_26 : decode cX0_startersBefore 26 = .ok (.getfield 9, 3) := by decide +kernel
theorem dX0_startersBefore_29 : decode cX0_startersBefore 29 = .ok (.iload_n 1, 1) := by decide +kernel
theorem dX0_startersBefore_30 : decode cX0_startersBefore 30 = .ok (.iaload, 1) := by decide +kernel
theorem dX0_startersBefore_31 : decode cX0_startersBefore 31 = .ok (.if_icmp .lt 23, 3) := by decide +kernel
theorem dX0_startersBefore_34 : decode cX0_startersBefore 34 = .ok (.aload_n 0, 1) := by decide +kernel
theorem dX0_startersBefore_35 : decode cX0_startersBefore 35 = .ok (.getfield 9, 3) := by decide +kernel
theorem dX0_startersBefore_38 : decode cX0_startersBefore 38 = .ok (.iload_n 3, 1) := by decide +kernel
theorem dX0_startersBefore_39 : decode cX0_startersBefore 39 = .ok (.iaload, 1) := by decide +kernel
theorem dX0_startersBefore_40 : decode cX0_startersBefore 40 = .ok (.aload_n 0, 1) := by decide +kernel
theorem dX0_startersBefore_41 : decode cX0_startersBefore 41 = .ok (.getfield 9, 3) := by decide +kernel
theorem dX0_startersBefore_44 : decode cX0_startersBefore 44 = .ok (.iload_n 1, 1) := by decide +kernel
theorem dX0_startersBefore_45 : decode cX0_startersBefore 45 = .ok (.iaload, 1) := by decide +kernel
theorem dX0_startersBefore_46 : decode cX0_startersBefore 46 = .ok (.if_icmp .ne 12, 3) := by decide +kernel
theorem dX0_startersBefore_49 : decode cX0_startersBefore 49 = .ok (.iload_n 3, 1) := by decide +kernel
theorem dX0_startersBefore_50 : decode cX0_startersBefore 50 = .ok (.iload_n 1, 1) := by decide +kernel
theorem dX0_startersBefore_51 : decode cX0_startersBefore 51 = .ok (.if_icmp .le 7, 3) := by decide +kernel
theorem dX0_startersBefore_54 : decode cX0_startersBefore 54 = .ok (.iconst 1, 1) := by decide +kernel
theorem dX0_startersBefore_55 : decode cX0_startersBefore 55 = .ok (.goto 4, 3) := by decide +kernel
theorem dX0_startersBefore_58 : decode cX0_startersBefore 58 = .ok (.iconst 0, 1) := by decide +kernel
theorem dX0_startersBefore_59 : decode cX0_startersBefore 59 = .ok (.istore 4, 2) := by decide +kernel
theorem dX0_startersBefore_61 : decode cX0_startersBefore 61 = .ok (.iload_n 2, 1) := by decide +kernel
theorem dX0_startersBefore_62 : decode cX0_startersBefore 62 = .ok (.iload 4, 2) := by decide +kernel
theorem dX0_startersBefore_64 : decode cX0_startersBefore 64 = .ok (.ifCond .eq 7, 3) := by decide +kernel
theorem dX0_startersBefore_67 : decode cX0_startersBefore 67 = .ok (.iconst 1, 1) := by decide +kernel
theorem dX0_startersBefore_68 : decode cX0_startersBefore 68 = .ok (.goto 4, 3) := by decide +kernel
theorem dX0_startersBefore_71 : decode cX0_startersBefore 71 = .ok (.iconst 0, 1) := by decide +kernel
theorem dX0_startersBefore_72 : decode cX0_startersBefore 72 = .ok (.iadd, 1) := by decide +kernel
theorem dX0_startersBefore_73 : decode cX0_startersBefore 73 = .ok (.istore_n 2, 1) := by decide +kernel
theorem dX0_startersBefore_74 : decode cX0_startersBefore 74 = .ok (.iinc 3 1, 3) := by decide +kernel
theorem dX0_startersBefore_77 : decode cX0_startersBefore 77 = .ok (.goto (-73), 3) := by decide +kernel
theorem dX0_startersBefore_80 : decode cX0_startersBefore 80 = .ok (.iload_n 2, 1) := by decide +kernel
theorem dX0_startersBefore_81 : decode cX0_startersBefore 81 = .ok (.ireturn, 1) := by decide +kernel
theorem dX1_init_0 : decode cX1_init 0 = .ok (.aload_n 0, 1) := by decide +kernel
theorem dX1_init_1 : decode cX1_init 1 = .ok (.invokespecial 3, 3) := by decide +kernel
theorem dX1_init_4 : decode cX1_init 4 = .ok (.aload_n 0, 1) := by decide +kernel
theorem dX1_init_5 : decode cX1_init 5 = .ok (.sipush 200, 3) := by decide +kernel
theorem dX1_init_8 : decode cX1_init 8 = .ok (.newarray .int, 2) := by decide +kernel
theorem dX1_init_10 : decode cX1_init 10 = .ok (.putfield 9, 3) := by decide +kernel
theorem dX1_init_13 : decode cX1_init 13 = .ok (.aload_n 0, 1) := by decide +kernel
theorem dX1_init_14 : decode cX1_init 14 = .ok (.sipush 200, 3) := by decide +kernel
theorem dX1_init_17 : decode cX1_init 17 = .ok (.newarray .int, 2) := by decide +kernel
theorem dX1_init_19 : decode cX1_init 19 = .ok (.putfield 15, 3) := by decide +kernel
theorem dX1_init_22 : decode cX1_init 22 = .ok (.aload_n 0, 1) := by decide +kernel
theorem dX1_init_23 : decode cX1_init 23 = .ok (.sipush 1000, 3) := by decide +kernel
theorem dX1_init_26 : decode cX1_init 26 = .ok (.newarray .int, 2) := by decide +kernel
theorem dX1_init_28 : decode cX1_init 28 = .ok (.putfield 18, 3) := by decide +kernel
theorem dX1_init_31 : decode cX1_init 31 = .ok (.return_, 1) := by decide +kernel
theorem dX1_add_0 : decode cX1_add 0 = .ok (.aload_n 0, 1) := by decide +kernel
theorem dX1_add_1 : decode cX1_add 1 = .ok (.getfield 21, 3) := by decide +kernel
theorem dX1_add_4 : decode cX1_add 4 = .ok (.ifCond .lt 13, 3) := by decide +kernel
theorem dX1_add_7 : decode cX1_add 7 = .ok (.aload_n 0, 1) := by decide +kernel
theorem dX1_add_8 : decode cX1_add 8 = .ok (.getfield 21, 3) := by decide +kernel
theorem dX1_add_11 : decode cX1_add 11 = .ok (.sipush 200, 3) := by decide +kernel
theorem dX1_add_14 : decode cX1_add 14 = .ok (.if_icmp .lt 7, 3) := by decide +kernel
theorem dX1_add_17 : decode cX1_add 17 = .ok (.sipush (-10000), 3) := by decide +kernel
theorem dX1_add_20 : decode cX1_add 20 = .ok (.ireturn, 1) := by decide +kernel
theorem dX1_add_21 : decode cX1_add 21 = .ok (.aload_n 0, 1) := by decide +kernel
theorem dX1_add_22 : decode cX1_add 22 = .ok (.getfield 21, 3) := by decide +kernel
theorem dX1_add_25 : decode cX1_add 25 = .ok (.istore 8, 2) := by decide +kernel
theorem dX1_add_27 : decode cX1_add 27 = .ok (.iload 8, 2) := by decide +kernel
theorem dX1_add_29 : decode cX1_add 29 = .ok (.iconst 5, 1) := by decide +kernel
theorem dX1_add_30 : decode cX1_add 30 = .ok (.imul, 1) := by decide +kernel
theorem dX1_add_31 : decode cX1_add 31 = .ok (.istore 9, 2) := by decide +kernel
theorem dX1_add_33 : decode cX1_add 33 = .ok (.aload_n 0, 1) := by decide +kernel
theorem dX1_add_34 : decode cX1_add 34 = .ok (.getfield 9, 3) := by decide +kernel
theorem dX1_add_37 : decode cX1_add 37 = .ok (.iload 8, 2) := by decide +kernel
theorem dX1_add_39 : decode cX1_add 39 = .ok (.iload_n 1, 1) := by decide +kernel
theorem dX1_add_40 : decode cX1_add 40 = .ok (.iastore, 1) := by decide +kernel
theorem dX1_add_41 : decode cX1_add 41 = .ok (.aload_n 0, 1) := by decide +kernel
theorem dX1_add_42 : decode cX1_add 42 = .ok (.getfield 15, 3) := by decide +kernel
theorem dX1_add_45 : decode cX1_add 45 = .ok (.iload 8, 2) := by decide +kernel
theorem dX1_add_47 : decode cX1_add 47 = .ok (.iload_n 2, 1) := by decide +kernel
theorem dX1_add_48 : decode cX1_add 48 = .ok (.iastore, 1) := by decide +kernel
theorem dX1_add_49 : decode cX1_add 49 = .ok (.aload_n 0, 1) := by decide +kernel
theorem dX1_add_50 : decode cX1_add 50 = .ok (.getfield 18, 3) := by decide +kernel
theorem dX1_add_53 : decode cX1_add 53 = .ok (.iload 9, 2) := by decide +kernel
theorem dX1_add_55 : decode cX1_add 55 = .ok (.iload_n 3, 1) := by decide +kernel
theorem dX1_add_56 : decode cX1_add 56 = .ok (.iastore, 1) := by decide +kernel
theorem dX1_add_57 : decode cX1_add 57 = .ok (.aload_n 0, 1) := by decide +kernel
theorem dX1_add_58 : decode cX1_add 58 = .ok (.getfield 18, 3) := by decide +kernel
theorem dX1_add_61 : decode cX1_add 61 = .ok (.iload 9, 2) := by decide +kernel
theorem dX1_add_63 : decode cX1_add 63 = .ok (.iconst 1, 1) := by decide +kernel
theorem dX1_add_64 : decode cX1_add 64 = .ok (.iadd, 1) := by decide +kernel
theorem dX1_add_65 : decode cX1_add 65 = .ok (.iload 4, 2) := by decide +kernel
theorem dX1_add_67 : decode cX1_add 67 = .ok (.iastore, 1) := by decide +kernel
theorem dX1_add_68 : decode cX1_add 68 = .ok (.aload_n 0, 1) := by decide +kernel
theorem dX1_add_69 : decode cX1_add 69 = .ok (.getfield 18, 3) := by decide +kernel
theorem dX1_add_72 : decode cX1_add 72 = .ok (.iload 9, 2) := by decide +kernel
theorem dX1_add_74 : decode cX1_add 74 = .ok (.iconst 2, 1) := by decide +kernel
theorem dX1_add_75 : decode cX1_add 75 = .ok (.iadd, 1) := by decide +kernel
theorem dX1_add_76 : decode cX1_add 76 = .ok (.iload 5, 2) := by decide +kernel
theorem dX1_add_78 : decode cX1_add 78 = .ok (.iastore, 1) := by decide +kernel
theorem dX1_add_79 : decode cX1_add 79 = .ok (.aload_n 0, 1) := by decide +kernel
theorem dX1_add_80 : decode cX1_add 80 = .ok (.getfield 18, 3) := by decide +kernel
theorem dX1_add_83 : decode cX1_add 83 = .ok (.iload 9, 2) := by decide +kernel
theorem dX1_add_85 : decode cX1_add 85 = .ok (.iconst 3, 1) := by decide +kernel
theorem dX1_add_86 : decode cX1_add 86 = .ok (.iadd, 1) := by decide +kernel
theorem dX1_add_87 : decode cX1_add 87 = .ok (.iload 6, 2) := by decide +kernel
theorem dX1_add_89 : decode cX1_add 89 = .ok (.iastore, 1) := by decide +kernel
theorem dX1_add_90 : decode cX1_add 90 = .ok (.aload_n 0, 1) := by decide +kernel
theorem dX1_add_91 : decode cX1_add 91 = .ok (.getfield 18, 3) := by decide +kernel
theorem dX1_add_94 : decode cX1_add 94 = .ok (.iload 9, 2) := by decide +kernel
theorem dX1_add_96 : decode cX1_add 96 = .ok (.iconst 4, 1) := by decide +kernel
theorem dX1_add_97 : decode cX1_add 97 = .ok (.iadd, 1) := by decide +kernel
theorem dX1_add_98 : decode cX1_add 98 = .ok (.iload 7, 2) := by decide +kernel
theorem dX1_add_100 : decode cX1_add 100 = .ok (.iastore, 1) := by decide +kernel
theorem dX1_add_101 : decode cX1_add 101 = .ok (.aload_n 0, 1) := by decide +kernel
theorem dX1_add_102 : decode cX1_add 102 = .ok (.iload 8, 2) := by decide +kernel
theorem dX1_add_104 : decode cX1_add 104 = .ok (.iconst 1, 1) := by decide +kernel
theorem dX1_add_105 : decode cX1_add 105 = .ok (.iadd, 1) := by decide +kernel
theorem dX1_add_106 : decode cX1_add 106 = .ok (.putfield 21, 3) := by decide +kernel
theorem dX1_add_109 : decode cX1_add 109 = .ok (.iload 8, 2) := by decide +kernel
theorem dX1_add_111 : decode cX1_add 111 = .ok (.ireturn, 1) := by decide +kernel
theorem dX1_value_0 : decode cX1_value 0 = .ok (.iload_n 1, 1) := by decide +kernel
theorem dX1_value_1 : decode cX1_value 1 = .ok (.iconst 5, 1) := by decide +kernel
theorem dX1_value_2 : decode cX1_value 2 = .ok (.imul, 1) := by decide +kernel
theorem dX1_value_3 : decode cX1_value 3 = .ok (.iload_n 2, 1) := by decide +kernel
theorem dX1_value_4 : decode cX1_value 4 = .ok (.iadd, 1) := by decide +kernel
theorem dX1_value_5 : decode cX1_value 5 = .ok (.istore_n 3, 1) := by decide +kernel
theorem dX1_value_6 : decode cX1_value 6 = .ok (.iload_n 3, 1) := by decide +kernel
theorem dX1_value_7 : decode cX1_value 7 = .ok (.ifCond .lt 21, 3) := by decide +kernel
theorem dX1_value_10 : decode cX1_value 10 = .ok (.iload_n 3, 1) := by decide +kernel
theorem dX1_value_11 : decode cX1_value 11 = .ok (.aload_n 0, 1) := by decide +kernel
theorem dX1_value_12 : decode cX1_value 12 = .ok (.getfield 18, 3) := by decide +kernel
theorem dX1_value_15 : decode cX1_value 15 = .ok (.arraylength, 1) := by decide +kernel
theorem dX1_value_16 : decode cX1_value 16 = .ok (.if_icmp .ge 12, 3) := by decide +kernel
theorem dX1_value_19 : decode cX1_value 19 = .ok (.aload_n 0, 1) := by decide +kernel
theorem dX1_value_20 : decode cX1_value 20 = .ok (.getfield 18, 3) := by decide +kernel
theorem dX1_value_23 : decode cX1_value 23 = .ok (.iload_n 3, 1) := by decide +kernel
theorem dX1_value_24 : decode cX1_value 24 = .ok (.iaload, 1) := by decide +kernel
theorem dX1_value_25 : decode cX1_value 25 = .ok (.goto 4, 3) := by decide +kernel
theorem dX1_value_28 : decode cX1_value 28 = .ok (.iconst 0, 1) := by decide +kernel
theorem dX1_value_29 : decode cX1_value 29 = .ok (.ireturn, 1) := by decide +kernel
theorem dX2_init_0 : decode cX2_init 0 = .ok (.aload_n 0, 1) := by decide +kernel
theorem dX2_init_1 : decode cX2_init 1 = .ok (.invokespecial 3, 3) := by decide +kernel
theorem dX2_init_4 : decode cX2_init 4 = .ok (.aload_n 0, 1) := by decide +kernel
theorem dX2_init_5 : decode cX2_init 5 = .ok (.bipush 7, 2) := by decide +kernel
theorem dX2_init_7 : decode cX2_init 7 = .ok (.newarray .int, 2) := by decide +kernel
theorem dX2_init_9 : decode cX2_init 9 = .ok (.putfield 11, 3) := by decide +kernel
theorem dX2_init_12 : decode cX2_init 12 = .ok (.aload_n 0, 1) := by decide +kernel
theorem dX2_init_13 : decode cX2_init 13 = .ok (.bipush 7, 2) := by decide +kernel
theorem dX2_init_15 : decode cX2_init 15 = .ok (.newarray .int, 2) := by decide +kernel
theorem dX2_init_17 : decode cX2_init 17 = .ok (.putfield 15, 3) := by decide +kernel
theorem dX2_init_20 : decode cX2_init 20 = .ok (.getstatic 18, 3) := by decide +kernel
theorem dX2_init_23 : decode cX2_init 23 = .ok (.iconst 0, 1) := by decide +kernel
theorem dX2_init_24 : decode cX2_init 24 = .ok (.aload_n 0, 1) := by decide +kernel
theorem dX2_init_25 : decode cX2_init 25 = .ok (.getfield 11, 3) := by decide +kernel
theorem dX2_init_28 : decode cX2_init 28 = .ok (.iconst 0, 1) := by decide +kernel
theorem dX2_init_29 : decode cX2_init 29 = .ok (.bipush 7, 2) := by decide +kernel
theorem dX2_init_31 : decode cX2_init 31 = .ok (.invokestatic 21, 3) := by decide +kernel
theorem dX2_init_34 : decode cX2_init 34 = .ok (.return_, 1) := by decide +kernel
theorem dX2_isLetter_0 : decode cX2_isLetter 0 = .ok (.iload_n 0, 1) := by decide +kernel
theorem dX2_isLetter_1 : decode cX2_isLetter 1 = .ok (.ifCond .lt 13, 3) := by decide +kernel
theorem dX2_isLetter_4 : decode cX2_isLetter 4 = .ok (.iload_n 0, 1) := by decide +kernel
theorem dX2_isLetter_5 : decode cX2_isLetter 5 = .ok (.bipush 7, 2) := by decide +kernel
theorem dX2_isLetter_7 : decode cX2_isLetter 7 = .ok (.if_icmp .ge 7, 3) := by decide +kernel
theorem dX2_isLetter_10 : decode cX2_isLetter 10 = .ok (.iconst 1, 1) := by decide +kernel
theorem dX2_isLetter_11 : decode cX2_isLetter 11 = .ok (.goto 4, 3) := by decide +kernel
theorem dX2_isLetter_14 : decode cX2_isLetter 14 = .ok (.iconst 0, 1) := by decide +kernel
theorem dX2_isLetter_15 : decode cX2_isLetter 15 = .ok (.ireturn, 1) := by decide +kernel
set_option maxRecDepth 20000 in
theorem ggX2_number_X2_isLetter : GoodIn wsX2_number wsX2_isLetter := goodIn_r _ [5] (by decide +kernel) (by decide +kernel)
set_option maxRecDepth 20000 in
theorem gX2_number_X2_isLetter : GoodIn wsX2_number (va_wsS RX2 27 yX2_isLetter wsX2_isLetter) := goodIn_app (goodIn_of _ (by decide +kernel)) ggX2_number_X2_isLetter
theorem dX2_number_0 : decode cX2_number 0 = .ok (.iload_n 1, 1) := by decide +kernel
theorem dX2_number_1 : decode cX2_number 1 = .ok (.invokestatic 27, 3) := by decide +kernel
theorem dX2_number_4 : decode cX2_number 4 = .ok (.ifCond .eq 12, 3) := by decide +kernel
theorem dX2_number_7 : decode cX2_number 7 = .ok (.aload_n 0, 1) := by decide +kernel
theorem dX2_number_8 : decode cX2_number 8 = .ok (.getfield 11, 3) := by decide +kernel
theorem dX2_number_11 : decode cX2_number 11 = .ok (.iload_n 1, 1) := by decide +kernel
theorem dX2_number_12 : decode cX2_number 12 = .ok (.iaload, 1) := by decide +kernel
theorem dX2_number_13 : decode cX2_number 13 = .ok (.goto 4, 3) := by decide +kernel
theorem dX2_number_16 : decode cX2_number 16 = .ok (.iconst 0, 1) := by decide +kernel
theorem dX2_number_17 : decode cX2_number 17 = .ok (.ireturn, 1) := by decide +kernel
set_option maxRecDepth 20000 in
theorem ggX2_read_X2_isLetter : GoodIn wsX2_read wsX2_isLetter := goodIn_r _ [11] (by decide +kernel) (by decide +kernel)
set_option maxRecDepth 20000 in
theorem gX2_read_X2_isLetter : GoodIn wsX2_read (va_wsS RX2 27 yX2_isLetter wsX2_isLetter) := goodIn_app (goodIn_of _ (by decide +kernel)) ggX2_read_X2_isLetter
set_option maxRecDepth 20000 in
theorem ggX2_read_X2_letterOf : GoodIn wsX2_read wsX2_letterOf := goodIn_r _ [14, 15] (by decide +kernel) (by decide +kernel)
set_option maxRecDepth 20000 in
theorem gX2_read_X2_letterOf : GoodIn wsX2_read (va_wsS RX2 31 yX2_letterOf wsX2_letterOf) := goodIn_app (goodIn_of _ (by decide +kernel)) ggX2_read_X2_letterOf
set_option maxRecDepth 20000 in
theorem ggX2_read_X2_faultOfClause : GoodIn wsX2_read wsX2_faultOfClause := goodIn_r _ [18, 19, 20] (by decide +kernel) (by decide +kernel)
set_option maxRecDepth 20000 in
theorem gX2_read_X2_faultOfClause : GoodIn wsX2_read (va_wsS RX2 35 yX2_faultOfClause wsX2_faultOfClause) := goodIn_app (goodIn_of _ (by decide +kernel)) ggX2_read_X2_faultOfClause
theorem dX2_read_0 : decode cX2_read 0 = .ok (.getstatic 18, 3) := by decide +kernel
theorem dX2_read_3 : decode cX2_read 3 = .ok (.iconst 0, 1) := by decide +kernel
theorem dX2_read_4 : decode cX2_read 4 = .ok (.aload_n 0, 1) := by decide +kernel
theorem dX2_read_5 : decode cX2_read 5 = .ok (.getfield 15, 3) := by decide +kernel
theorem dX2_read_8 : decode cX2_read 8 = .ok (.iconst 0, 1) := by decide +kernel
theorem dX2_read_9 : decode cX2_read 9 = .ok (.bipush 7, 2) := by decide +kernel
theorem dX2_read_11 : decode cX2_read 11 = .ok (.invokestatic 21, 3) := by decide +kernel
theorem dX2_read_14 : decode cX2_read 14 = .ok (.iconst (-1), 1) := by decide +kernel
theorem dX2_read_15 : decode cX2_read 15 = .ok (.istore_n 3, 1) := by decide +kernel
theorem dX2_read_16 : decode cX2_read 16 = .ok (.iconst 0, 1) := by decide +kernel
theorem dX2_read_17 : decode cX2_read 17 = .ok (.istore 4, 2) := by decide +kernel
theorem dX2_read_19 : decode cX2_read 19 = .ok (.iconst 0, 1) := by decide +kernel
theorem dX2_read_20 : decode cX2_read 20 = .ok (.istore 5, 2) := by decide +kernel
theorem dX2_read_22 : decode cX2_read 22 = .ok (.iconst 0, 1) := by decide +kernel
theorem dX2_read_23 : decode cX2_read 23 = .ok (.istore 6, 2) := by decide +kernel
theorem dX2_read_25 : decode cX2_read 25 = .ok (.iload 6, 2) := by decide +kernel
theorem dX2_read_27 : decode cX2_read 27 = .ok (.iload_n 2, 1) := by decide +kernel
theorem dX2_read_28 : decode cX2_read 28 = .ok (.if_icmp .gt 145, 3) := by decide +kernel
theorem dX2_read_31 : decode cX2_read 31 = .ok (.iload 6, 2) := by decide +kernel
theorem dX2_read_33 : decode cX2_read 33 = .ok (.iload_n 2, 1) := by decide +kernel
theorem dX2_read_34 : decode cX2_read 34 = .ok (.if_icmp .ge 17, 3) := by decide +kernel
theorem dX2_read_37 : decode cX2_read 37 = .ok (.iload 6, 2) := by decide +kernel
theorem dX2_read_39 : decode cX2_read 39 = .ok (.aload_n 1, 1) := by decide +kernel
theorem dX2_read_40 : decode cX2_read 40 = .ok (.arraylength, 1) := by decide +kernel
theorem dX2_read_41 : decode cX2_read 41 = .ok (.if_icmp .ge 10, 3) := by decide +kernel
theorem dX2_read_44 : decode cX2_read 44 = .ok (.aload_n 1, 1) := by decide +kernel
theorem dX2_read_45 : decode cX2_read 45 = .ok (.iload 6, 2) := by decide +kernel
theorem dX2_read_47 : decode cX2_read 47 = .ok (.iaload, 1) := by decide +kernel
theorem dX2_read_48 : decode cX2_read 48 = .ok (.goto 4, 3) := by decide +kernel
theorem dX2_read_51 : decode cX2_read 51 = .ok (.iconst (-1), 1) := by decide +kernel
theorem dX2_read_52 : decode cX2_read 52 = .ok (.istore 7, 2) := by decide +kernel
theorem dX2_read_54 : decode cX2_read 54 = .ok (.iload_n 3, 1) := by decide +kernel
theorem dX2_read_55 : decode cX2_read 55 = .ok (.invokestatic 27, 3) := by decide +kernel
theorem dX2_read_58 : decode cX2_read 58 = .ok (.ifCond .ne 31, 3) := by decide +kernel
theorem dX2_read_61 : decode cX2_read 61 = .ok (.iload 7, 2) := by decide +kernel
theorem dX2_read_63 : decode cX2_read 63 = .ok (.invokestatic 31, 3) := by decide +kernel
theorem dX2_read_66 : decode cX2_read 66 = .ok (.istore_n 3, 1) := by decide +kernel
theorem dX2_read_67 : decode cX2_read 67 = .ok (.iload_n 3, 1) := by decide +kernel
theorem dX2_read_68 : decode cX2_read 68 = .ok (.invokestatic 27, 3) := by decide +kernel
theorem dX2_read_71 : decode cX2_read 71 = .ok (.ifCond .ne 9, 3) := by decide +kernel
theorem dX2_read_74 : decode cX2_read 74 = .ok (.bipush 100, 2) := by decide +kernel
theorem dX2_read_76 : decode cX2_read 76 = .ok (.iload 6, 2) := by decide +kernel
theorem dX2_read_78 : decode cX2_read 78 = .ok (.iadd, 1) := by decide +kernel
theorem dX2_read_79 : decode cX2_read 79 = .ok (.ireturn, 1) := by decide +kernel
theorem dX2_read_80 : decode cX2_read 80 = .ok (.iconst 0, 1) := by decide +kernel
theorem dX2_read_81 : decode cX2_read 81 = .ok (.istore 4, 2) := by decide +kernel
theorem dX2_read_83 : decode cX2_read 83 = .ok (.iconst 0, 1) := by decide +kernel
theorem dX2_read_84 : decode cX2_read 84 = .ok (.istore 5, 2) := by decide +kernel
theorem dX2_read_86 : decode cX2_read 86 = .ok (.goto 81, 3) := by decide +kernel
theorem dX2_read_89 : decode cX2_read 89 = .ok (.iload 7, 2) := by decide +kernel
theorem dX2_read_91 : decode cX2_read 91 = .ok (.bipush 48, 2) := by decide +kernel
theorem dX2_read_93 : decode cX2_read 93 = .ok (.if_icmp .lt 42, 3) := by decide +kernel
theorem dX2_read_96 : decode cX2_read 96 = .ok (.iload 7, 2) := by decide +kernel
theorem dX2_read_98 : decode cX2_read 98 = .ok (.bipush 57, 2) := by decide +kernel
theorem dX2_read_100 : decode cX2_read 100 = .ok (.if_icmp .gt 35, 3) := by decide +kernel
theorem dX2_read_103 : decode cX2_read 103 = .ok (.iload 4, 2) := by decide +kernel
theorem dX2_read_105 : decode cX2_read 105 = .ok (.iconst 4, 1) := by decide +kernel
theorem dX2_read_106 : decode cX2_read 106 = .ok (.if_icmp .ne 10, 3) := by decide +kernel
theorem dX2_read_109 : decode cX2_read 109 = .ok (.sipush 300, 3) := by decide +kernel
theorem dX2_read_112 : decode cX2_read 112 = .ok (.iload 6, 2) := by decide +kernel
theorem dX2_read_114 : decode cX2_read 114 = .ok (.iadd, 1) := by decide +kernel
theorem dX2_read_115 : decode cX2_read 115 = .ok (.ireturn, 1) := by decide +kernel
theorem dX2_read_116 : decode cX2_read 116 = .ok (.iload 5, 2) := by decide +kernel
theorem dX2_read_118 : decode cX2_read 118 = .ok (.bipush 10, 2) := by decide +kernel
theorem dX2_read_120 : decode cX2_read 120 = .ok (.imul, 1) := by decide +kernel
theorem dX2_read_121 : decode cX2_read 121 = .ok (.iload 7, 2) := by decide +kernel
theorem dX2_read_123 : decode cX2_read 123 = .ok (.iadd, 1) := by decide +kernel
theorem dX2_read_124 : decode cX2_read 124 = .ok (.bipush 48, 2) := by decide +kernel
theorem dX2_read_126 : decode cX2_read 126 = .ok (.isub, 1) := by decide +kernel
theorem dX2_read_127 : decode cX2_read 127 = .ok (.istore 5, 2) := by decide +kernel
theorem dX2_read_129 : decode cX2_read 129 = .ok (.iinc 4 1, 3) := by decide +kernel
theorem dX2_read_132 : decode cX2_read 132 = .ok (.goto 35, 3) := by decide +kernel
theorem dX2_read_135 : decode cX2_read 135 = .ok (.iload_n 3, 1) := by decide +kernel
theorem dX2_read_136 : decode cX2_read 136 = .ok (.iload 5, 2) := by decide +kernel
theorem dX2_read_138 : decode cX2_read 138 = .ok (.iload 4, 2) := by decide +kernel
theorem dX2_read_140 : decode cX2_read 140 = .ok (.iload 7, 2) := by decide +kernel
theorem dX2_read_142 : decode cX2_read 142 = .ok (.iload 6, 2) := by decide +kernel
theorem dX2_read_144 : decode cX2_read 144 = .ok (.invokestatic 35, 3) := by decide +kernel
theorem dX2_read_147 : decode cX2_read 147 = .ok (.istore 8, 2) := by decide +kernel
theorem dX2_read_149 : decode cX2_read 149 = .ok (.iload 8, 2) := by decide +kernel
theorem dX2_read_151 : decode cX2_read 151 = .ok (.ifCond .eq 6, 3) := by decide +kernel
theorem dX2_read_154 : decode cX2_read 154 = .ok (.iload 8, 2) := by decide +kernel
theorem dX2_read_156 : decode cX2_read 156 = .ok (.ireturn, 1) := by decide +kernel
theorem dX2_read_157 : decode cX2_read 157 = .ok (.aload_n 0, 1) := by decide +kernel
theorem dX2_read_158 : decode cX2_read 158 = .ok (.getfield 15, 3) := by decide +kernel
theorem dX2_read_161 : decode cX2_read 161 = .ok (.iload_n 3, 1) := by decide +kernel
theorem dX2_read_162 : decode cX2_read 162 = .ok (.iload 5, 2) := by decide +kernel
theorem dX2_read_164 : decode cX2_read 164 = .ok (.iastore, 1) := by decide +kernel
theorem dX2_read_165 : decode cX2_read 165 = .ok (.iconst (-1), 1) := by decide +kernel
theorem dX2_read_166 : decode cX2_read 166 = .ok (.istore_n 3, 1) := by decide +kernel
theorem dX2_read_167 : decode cX2_read 167 = .ok (.iinc 6 1, 3) := by decide +kernel
theorem dX2_read_170 : decode cX2_read 170 = .ok (.goto (-145), 3) := by decide +kernel
theorem dX2_read_173 : decode cX2_read 173 = .ok (.aload_n 0, 1) := by decide +kernel
theorem dX2_read_174 : decode cX2_read 174 = .ok (.getfield 15, 3) := by decide +kernel
theorem dX2_read_177 : decode cX2_read 177 = .ok (.iconst 0, 1) := by decide +kernel
theorem dX2_read_178 : decode cX2_read 178 = .ok (.aload_n 0, 1) := by decide +kernel
theorem dX2_read_179 : decode cX2_read 179 = .ok (.getfield 11, 3) := by decide +kernel
theorem dX2_read_182 : decode cX2_read 182 = .ok (.iconst 0, 1) := by decide +kernel
theorem dX2_read_183 : decode cX2_read 183 = .ok (.bipush 7, 2) := by decide +kernel
theorem dX2_read_185 : decode cX2_read 185 = .ok (.invokestatic 21, 3) := by decide +kernel
theorem dX2_read_188 : decode cX2_read 188 = .ok (.iconst 0, 1) := by decide +kernel
theorem dX2_read_189 : decode cX2_read 189 = .ok (.ireturn, 1) := by decide +kernel
theorem dX2_faultOfClause_0 : decode cX2_faultOfClause 0 = .ok (.iload_n 2, 1) := by decide +kernel
theorem dX2_faultOfClause_1 : decode cX2_faultOfClause 1 = .ok (.ifCond .ne 10, 3) := by decide +kernel
theorem dX2_faultOfClause_4 : decode cX2_faultOfClause 4 = .ok (.sipush 200, 3) := by decide +kernel
theorem dX2_faultOfClause_7 : decode cX2_faultOfClause 7 = .ok (.iload 4, 2) := by decide +kernel
theorem dX2_faultOfClause_9 : decode cX2_faultOfClause 9 = .ok (.iadd, 1) := by decide +kernel
theorem dX2_faultOfClause_10 : decode cX2_faultOfClause 10 = .ok (.ireturn, 1) := by decide +kernel
theorem dX2_faultOfClause_11 : decode cX2_faultOfClause 11 = .ok (.iload_n 1, 1) := by decide +kernel
theorem dX2_faultOfClause_12 : decode cX2_faultOfClause 12 = .ok (.getstatic 39, 3) := by decide +kernel
theorem dX2_faultOfClause_15 : decode cX2_faultOfClause 15 = .ok (.iload_n 0, 1) := by decide +kernel
theorem dX2_faultOfClause_16 : decode cX2_faultOfClause 16 = .ok (.iaload, 1) := by decide +kernel
theorem dX2_faultOfClause_17 : decode cX2_faultOfClause 17 = .ok (.if_icmp .lt 12, 3) := by decide +kernel
theorem dX2_faultOfClause_20 : decode cX2_faultOfClause 20 = .ok (.iload_n 1, 1) := by decide +kernel
theorem dX2_faultOfClause_21 : decode cX2_faultOfClause 21 = .ok (.getstatic 42, 3) := by decide +kernel
theorem dX2_faultOfClause_24 : decode cX2_faultOfClause 24 = .ok (.iload_n 0, 1) := by decide +kernel
theorem dX2_faultOfClause_25 : decode cX2_faultOfClause 25 = .ok (.iaload, 1) := by decide +kernel
theorem dX2_faultOfClause_26 : decode cX2_faultOfClause 26 = .ok (.if_icmp .le 12, 3) := by decide +kernel
theorem dX2_faultOfClause_29 : decode cX2_faultOfClause 29 = .ok (.sipush 400, 3) := by decide +kernel
theorem dX2_faultOfClause_32 : decode cX2_faultOfClause 32 = .ok (.iload 4, 2) := by decide +kernel
theorem dX2_faultOfClause_34 : decode cX2_faultOfClause 34 = .ok (.iadd, 1) := by decide +kernel
theorem dX2_faultOfClause_35 : decode cX2_faultOfClause 35 = .ok (.iload_n 2, 1) := by decide +kernel
theorem dX2_faultOfClause_36 : decode cX2_faultOfClause 36 = .ok (.isub, 1) := by decide +kernel
theorem dX2_faultOfClause_37 : decode cX2_faultOfClause 37 = .ok (.ireturn, 1) := by decide +kernel
theorem dX2_faultOfClause_38 : decode cX2_faultOfClause 38 = .ok (.iload_n 3, 1) := by decide +kernel
theorem dX2_faultOfClause_39 : decode cX2_faultOfClause 39 = .ok (.bipush 59, 2) := by decide +kernel
theorem dX2_faultOfClause_41 : decode cX2_faultOfClause 41 = .ok (.if_icmp .eq 8, 3) := by decide +kernel
theorem dX2_faultOfClause_44 : decode cX2_faultOfClause 44 = .ok (.iload_n 3, 1) := by decide +kernel
theorem dX2_faultOfClause_45 : decode cX2_faultOfClause 45 = .ok (.iconst (-1), 1) := by decide +kernel
theorem dX2_faultOfClause_46 : decode cX2_faultOfClause 46 = .ok (.if_icmp .ne 7, 3) := by decide +kernel
theorem dX2_faultOfClause_49 : decode cX2_faultOfClause 49 = .ok (.iconst 0, 1) := by decide +kernel
theorem dX2_faultOfClause_50 : decode cX2_faultOfClause 50 = .ok (.goto 9, 3) := by decide +kernel
theorem dX2_faultOfClause_53 : decode cX2_faultOfClause 53 = .ok (.sipush 500, 3) := by decide +kernel
theorem dX2_faultOfClause_56 : decode cX2_faultOfClause 56 = .ok (.iload 4, 2) := by decide +kernel
theorem dX2_faultOfClause_58 : decode cX2_faultOfClause 58 = .ok (.iadd, 1) := by decide +kernel
theorem dX2_faultOfClause_59 : decode cX2_faultOfClause 59 = .ok (.ireturn, 1) := by decide +kernel
theorem dX2_letterOf_0 : decode cX2_letterOf 0 = .ok (.iconst 0, 1) := by decide +kernel
theorem dX2_letterOf_1 : decode cX2_letterOf 1 = .ok (.istore_n 1, 1) := by decide +kernel
theorem dX2_letterOf_2 : decode cX2_letterOf 2 = .ok (.iload_n 1, 1) := by decide +kernel
theorem dX2_letterOf_3 : decode cX2_letterOf 3 = .ok (.bipush 7, 2) := by decide +kernel
theorem dX2_letterOf_5 : decode cX2_letterOf 5 = .ok (.if_icmp .ge 20, 3) := by decide +kernel
theorem dX2_letterOf_8 : decode cX2_letterOf 8 = .ok (.getstatic 45, 3) := by decide +kernel
theorem dX2_letterOf_11 : decode cX2_letterOf 11 = .ok (.iload_n 1, 1) := by decide +kernel
theorem dX2_letterOf_12 : decode cX2_letterOf 12 = .ok (.caload, 1) := by decide +kernel
theorem dX2_letterOf_13 : decode cX2_letterOf 13 = .ok (.iload_n 0, 1) := by decide +kernel
theorem dX2_letterOf_14 : decode cX2_letterOf 14 = .ok (.if_icmp .ne 5, 3) := by decide +kernel
theorem dX2_letterOf_17 : decode cX2_letterOf 17 = .ok (.iload_n 1, 1) := by decide +kernel
theorem dX2_letterOf_18 : decode cX2_letterOf 18 = .ok (.ireturn, 1) := by decide +kernel
theorem dX2_letterOf_19 : decode cX2_letterOf 19 = .ok (.iinc 1 1, 3) := by decide +kernel
theorem dX2_letterOf_22 : decode cX2_letterOf 22 = .ok (.goto (-20), 3) := by decide +kernel
theorem dX2_letterOf_25 : decode cX2_letterOf 25 = .ok (.iconst (-1), 1) := by decide +kernel
theorem dX2_letterOf_26 : decode cX2_letterOf 26 = .ok (.ireturn, 1) := by decide +kernel
set_option maxRecDepth 20000 in
theorem ggX3_init_X2_init : GoodIn wsX3_init wsX2_init := goodIn_r _ [17, 18, 2, 3, 12, 19, 20, 21, 22, 23, 24, 25, 32, 33] (by decide +kernel) (by decide +kernel)
set_option maxRecDepth 20000 in
theorem gX3_init_X2_init_n11 : GoodIn wsX3_init (wsX2_init) := ggX3_init_X2_init
set_option maxRecDepth 20000 in
theorem ggX3_init_X1_init : GoodIn wsX3_init wsX1_init := goodIn_r _ [27, 28, 2, 3, 12, 29, 30, 31, 44, 45, 46, 47] (by decide +kernel) (by decide +kernel)
set_option maxRecDepth 20000 in
theorem gX3_init_X1_init_n20 : GoodIn wsX3_init (wsX1_init) := ggX3_init_X1_init
theorem dX3_init_0 : decode cX3_init 0 = .ok (.aload_n 0, 1) := by decide +kernel
theorem dX3_init_1 : decode cX3_init 1 = .ok (.invokespecial 3, 3) := by decide +kernel
theorem dX3_init_4 : decode cX3_init 4 = .ok (.aload_n 0, 1) := by decide +kernel
theorem dX3_init_5 : decode cX3_init 5 = .ok (.new 9, 3) := by decide +kernel
theorem dX3_init_8 : decode cX3_init 8 = .ok (.dup, 1) := by decide +kernel
theorem dX3_init_9 : decode cX3_init 9 = .ok (.invokespecial 11, 3) := by decide +kernel
theorem dX3_init_12 : decode cX3_init 12 = .ok (.putfield 12, 3) := by decide +kernel
theorem dX3_init_15 : decode cX3_init 15 = .ok (.aload_n 0, 1) := by decide +kernel
theorem dX3_init_16 : decode cX3_init 16 = .ok (.new 18, 3) := by decide +kernel
theorem dX3_init_19 : decode cX3_init 19 = .ok (.dup, 1) := by decide +kernel
theorem dX3_init_20 : decode cX3_init 20 = .ok (.invokespecial 20, 3) := by decide +kernel
theorem dX3_init_23 : decode cX3_init 23 = .ok (.putfield 21, 3) := by decide +kernel
theorem dX3_init_26 : decode cX3_init 26 = .ok (.aload_n 0, 1) := by decide +kernel
theorem dX3_init_27 : decode cX3_init 27 = .ok (.iconst 5, 1) := by decide +kernel
theorem dX3_init_28 : decode cX3_init 28 = .ok (.newarray .int, 2) := by decide +kernel
theorem dX3_init_30 : decode cX3_init 30 = .ok (.dup, 1) := by decide +kernel
theorem dX3_init_31 : decode cX3_init 31 = .ok (.iconst 0, 1) := by decide +kernel
theorem dX3_init_32 : decode cX3_init 32 = .ok (.iconst 1, 1) := by decide +kernel
theorem dX3_init_33 : decode cX3_init 33 = .ok (.iastore, 1) := by decide +kernel
theorem dX3_init_34 : decode cX3_init 34 = .ok (.dup, 1) := by decide +kernel
theorem dX3_init_35 : decode cX3_init 35 = .ok (.iconst 1, 1) := by decide +kernel
theorem dX3_init_36 : decode cX3_init 36 = .ok (.iconst 1, 1) := by decide +kernel
theorem dX3_init_37 : decode cX3_init 37 = .ok (.iastore, 1) := by decide +kernel
theorem dX3_init_38 : decode cX3_init 38 = .ok (.dup, 1) := by decide +kernel
theorem dX3_init_39 : decode cX3_init 39 = .ok (.iconst 2, 1) := by decide +kernel
theorem dX3_init_40 : decode cX3_init 40 = .ok (.iconst 1, 1) := by decide +kernel
theorem dX3_init_41 : decode cX3_init 41 = .ok (.iastore, 1) := by decide +kernel
theorem dX3_init_42 : decode cX3_init 42 = .ok (.dup, 1) := by decide +kernel
theorem dX3_init_43 : decode cX3_init 43 = .ok (.iconst 3, 1) := by decide +kernel
theorem dX3_init_44 : decode cX3_init 44 = .ok (.iconst 1, 1) := by decide +kernel
theorem dX3_init_45 : decode cX3_init 45 = .ok (.iastore, 1) := by decide +kernel
theorem dX3_init_46 : decode cX3_init 46 = .ok (.dup, 1) := by decide +kernel
theorem dX3_init_47 : decode cX3_init 47 = .ok (.iconst 4, 1) := by decide +kernel
theorem dX3_init_48 : decode cX3_init 48 = .ok (.iconst 1, 1) := by decide +kernel
theorem dX3_init_49 : decode cX3_init 49 = .ok (.iastore, 1) := by decide +kernel
theorem dX3_init_50 : decode cX3_init 50 = .ok (.putfield 25, 3) := by decide +kernel
theorem dX3_init_53 : decode cX3_init 53 = .ok (.aload_n 0, 1) := by decide +kernel
theorem dX3_init_54 : decode cX3_init 54 = .ok (.bipush 20, 2) := by decide +kernel
theorem dX3_init_56 : decode cX3_init 56 = .ok (.putfield 29, 3) := by decide +kernel
theorem dX3_init_59 : decode cX3_init 59 = .ok (.aload_n 0, 1) := by decide +kernel
theorem dX3_init_60 : decode cX3_init 60 = .ok (.sipush 192, 3) := by decide +kernel
theorem dX3_init_63 : decode cX3_init 63 = .ok (.newarray .int, 2) := by decide +kernel
theorem dX3_init_65 : decode cX3_init 65 = .ok (.putfield 33, 3) := by decide +kernel
theorem dX3_init_68 : decode cX3_init 68 = .ok (.return_, 1) := by decide +kernel
set_option maxRecDepth 20000 in
theorem ggX3_know_J7_fill_53178 : GoodIn wsX3_know wsJ7_fill_53178 := goodIn_r _ [6] (by decide +kernel) (by decide +kernel)
set_option maxRecDepth 20000 in
theorem gX3_know_J7_fill_53178 : GoodIn wsX3_know (va_wsS RX3 36 yJ7_fill_53178 wsJ7_fill_53178) := goodIn_app (goodIn_of _ (by decide +kernel)) ggX3_know_J7_fill_53178
theorem dX3_know_0 : decode cX3_know 0 = .ok (.aload_n 0, 1) := by decide +kernel
theorem dX3_know_1 : decode cX3_know 1 = .ok (.getfield 33, 3) := by decide +kernel
theorem dX3_know_4 : decode cX3_know 4 = .ok (.iconst (-1), 1) := by decide +kernel
theorem dX3_know_5 : decode cX3_know 5 = .ok (.invokestatic 36, 3) := by decide +kernel
theorem dX3_know_8 : decode cX3_know 8 = .ok (.iconst 0, 1) := by decide +kernel
theorem dX3_know_9 : decode cX3_know 9 = .ok (.istore_n 2, 1) := by decide +kernel
theorem dX3_know_10 : decode cX3_know 10 = .ok (.iload_n 2, 1) := by decide +kernel
theorem dX3_know_11 : decode cX3_know 11 = .ok (.iload_n 1, 1) := by decide +kernel
theorem dX3_know_12 : decode cX3_know 12 = .ok (.if_icmp .ge 59, 3) := by decide +kernel
theorem dX3_know_15 : decode cX3_know 15 = .ok (.iload_n 2, 1) := by decide +kernel
theorem dX3_know_16 : decode cX3_know 16 = .ok (.sipush 200, 3) := by decide +kernel
theorem dX3_know_19 : decode cX3_know 19 = .ok (.if_icmp .ge 52, 3) := by decide +kernel
theorem dX3_know_22 : decode cX3_know 22 = .ok (.aload_n 0, 1) := by decide +kernel
theorem dX3_know_23 : decode cX3_know 23 = .ok (.getfield 21, 3) := by decide +kernel
theorem dX3_know_26 : decode cX3_know 26 = .ok (.getfield 42, 3) := by decide +kernel
theorem dX3_know_29 : decode cX3_know 29 = .ok (.iload_n 2, 1) := by decide +kernel
theorem dX3_know_30 : decode cX3_know 30 = .ok (.iaload, 1) := by decide +kernel
theorem dX3_know_31 : decode cX3_know 31 = .ok (.bipush 48, 2) := by decide +kernel
theorem dX3_know_33 : decode cX3_know 33 = .ok (.imul, 1) := by decide +kernel
theorem dX3_know_34 : decode cX3_know 34 = .ok (.aload_n 0, 1) := by decide +kernel
theorem dX3_know_35 : decode cX3_know 35 = .ok (.getfield 21, 3) := by decide +kernel
theorem dX3_know_38 : decode cX3_know 38 = .ok (.getfield 45, 3) := by decide +kernel
theorem dX3_know_41 : decode cX3_know 41 = .ok (.iload_n 2, 1) := by decide +kernel
theorem dX3_know_42 : decode cX3_know 42 = .ok (.iaload, 1) := by decide +kernel
theorem dX3_know_43 : decode cX3_know 43 = .ok (.iadd, 1) := by decide +kernel
theorem dX3_know_44 : decode cX3_know 44 = .ok (.istore_n 3, 1) := by decide +kernel
theorem dX3_know_45 : decode cX3_know 45 = .ok (.iload_n 3, 1) := by decide +kernel
theorem dX3_know_46 : decode cX3_know 46 = .ok (.ifCond .lt 19, 3) := by decide +kernel
theorem dX3_know_49 : decode cX3_know 49 = .ok (.iload_n 3, 1) := by decide +kernel
theorem dX3_know_50 : decode cX3_know 50 = .ok (.aload_n 0, 1) := by decide +kernel
theorem dX3_know_51 : decode cX3_know 51 = .ok (.getfield 33, 3) := by decide +kernel
theorem dX3_know_54 : decode cX3_know 54 = .ok (.arraylength, 1) := by decide +kernel
theorem dX3_know_55 : decode cX3_know 55 = .ok (.if_icmp .ge 10, 3) := by decide +kernel
theorem dX3_know_58 : decode cX3_know 58 = .ok (.aload_n 0, 1) := by decide +kernel
theorem dX3_know_59 : decode cX3_know 59 = .ok (.getfield 33, 3) := by decide +kernel
theorem dX3_know_62 : decode cX3_know 62 = .ok (.iload_n 3, 1) := by decide +kernel
theorem dX3_know_63 : decode cX3_know 63 = .ok (.iload_n 2, 1) := by decide +kernel
theorem dX3_know_64 : decode cX3_know 64 = .ok (.iastore, 1) := by decide +kernel
theorem dX3_know_65 : decode cX3_know 65 = .ok (.iinc 2 1, 3) := by decide +kernel
theorem dX3_know_68 : decode cX3_know 68 = .ok (.goto (-58), 3) := by decide +kernel
theorem dX3_know_71 : decode cX3_know 71 = .ok (.return_, 1) := by decide +kernel
theorem dX3_countingOf_0 : decode cX3_countingOf 0 = .ok (.iload_n 1, 1) := by decide +kernel
theorem dX3_countingOf_1 : decode cX3_countingOf 1 = .ok (.bipush 48, 2) := by decide +kernel
theorem dX3_countingOf_3 : decode cX3_countingOf 3 = .ok (.imul, 1) := by decide +kernel
theorem dX3_countingOf_4 : decode cX3_countingOf 4 = .ok (.iload_n 2, 1) := by decide +kernel
theorem dX3_countingOf_5 : decode cX3_countingOf 5 = .ok (.iadd, 1) := by decide +kernel
theorem dX3_countingOf_6 : decode cX3_countingOf 6 = .ok (.istore_n 3, 1) := by decide +kernel
theorem dX3_countingOf_7 : decode cX3_countingOf 7 = .ok (.iload_n 3, 1) := by decide +kernel
theorem dX3_countingOf_8 : decode cX3_countingOf 8 = .ok (.ifCond .lt 21, 3) := by decide +kernel
theorem dX3_countingOf_11 : decode cX3_countingOf 11 = .ok (.iload_n 3, 1) := by decide +kernel
theorem dX3_countingOf_12 : decode cX3_countingOf 12 = .ok (.aload_n 0, 1) := by decide +kernel
theorem dX3_countingOf_13 : decode cX3_countingOf 13 = .ok (.getfield 33, 3) := by decide +kernel
theorem dX3_countingOf_16 : decode cX3_countingOf 16 = .ok (.arraylength, 1) := by decide +kernel
theorem dX3_countingOf_17 : decode cX3_countingOf 17 = .ok (.if_icmp .ge 12, 3) := by decide +kernel
theorem dX3_countingOf_20 : decode cX3_countingOf 20 = .ok (.aload_n 0, 1) := by decide +kernel
theorem dX3_countingOf_21 : decode cX3_countingOf 21 = .ok (.getfield 33, 3) := by decide +kernel
theorem dX3_countingOf_24 : decode cX3_countingOf 24 = .ok (.iload_n 3, 1) := by decide +kernel
theorem dX3_countingOf_25 : decode cX3_countingOf 25 = .ok (.iaload, 1) := by decide +kernel
theorem dX3_countingOf_26 : decode cX3_countingOf 26 = .ok (.goto 4, 3) := by decide +kernel
theorem dX3_countingOf_29 : decode cX3_countingOf 29 = .ok (.iconst (-1), 1) := by decide +kernel
theorem dX3_countingOf_30 : decode cX3_countingOf 30 = .ok (.ireturn, 1) := by decide +kernel
set_option maxRecDepth 20000 in
theorem ggX3_isStruck_X3_countingOf : GoodIn wsX3_isStruck wsX3_countingOf := goodIn_r _ [6, 7, 13, 14, 15, 16, 17, 18, 19, 20, 21, 22] (by decide +kernel) (by decide +kernel)
set_option maxRecDepth 20000 in
theorem gX3_isStruck_X3_countingOf : GoodIn wsX3_isStruck (wsV RX3 48 RX3 yX3_countingOf wsX3_countingOf) := goodIn_app (goodIn_of _ (by decide +kernel)) ggX3_isStruck_X3_countingOf
set_option maxRecDepth 20000 in
theorem ggX3_isStruck_X1_value : GoodIn wsX3_isStruck wsX1_value := goodIn_r _ [11, 12, 23, 24, 25, 26] (by decide +kernel) (by decide +kernel)
set_option maxRecDepth 20000 in
theorem gX3_isStruck_X1_value_n52 : GoodIn wsX3_isStruck (wsX1_value) := ggX3_isStruck_X1_value
theorem dX3_isStruck_0 : decode cX3_isStruck 0 = .ok (.aload_n 0, 1) := by decide +kernel
theorem dX3_isStruck_1 : decode cX3_isStruck 1 = .ok (.iconst 3, 1) := by decide +kernel
theorem dX3_isStruck_2 : decode cX3_isStruck 2 = .ok (.iload_n 1, 1) := by decide +kernel
theorem dX3_isStruck_3 : decode cX3_isStruck 3 = .ok (.invokevirtual 48, 3) := by decide +kernel
theorem dX3_isStruck_6 : decode cX3_isStruck 6 = .ok (.istore_n 2, 1) := by decide +kernel
theorem dX3_isStruck_7 : decode cX3_isStruck 7 = .ok (.iload_n 2, 1) := by decide +kernel
theorem dX3_isStruck_8 : decode cX3_isStruck 8 = .ok (.ifCond .lt 20, 3) := by decide +kernel
theorem dX3_isStruck_11 : decode cX3_isStruck 11 = .ok (.aload_n 0, 1) := by decide +kernel
theorem dX3_isStruck_12 : decode cX3_isStruck 12 = .ok (.getfield 21, 3) := by decide +kernel
theorem dX3_isStruck_15 : decode cX3_isStruck 15 = .ok (.iload_n 2, 1) := by decide +kernel
theorem dX3_isStruck_16 : decode cX3_isStruck 16 = .ok (.iconst 0, 1) := by decide +kernel
theorem dX3_isStruck_17 : decode cX3_isStruck 17 = .ok (.invokevirtual 52, 3) := by decide +kernel
theorem dX3_isStruck_20 : decode cX3_isStruck 20 = .ok (.iconst 1, 1) := by decide +kernel
theorem dX3_isStruck_21 : decode cX3_isStruck 21 = .ok (.if_icmp .ne 7, 3) := by decide +kernel
theorem dX3_isStruck_24 : decode cX3_isStruck 24 = .ok (.iconst 1, 1) := by decide +kernel
theorem dX3_isStruck_25 : decode cX3_isStruck 25 = .ok (.goto 4, 3) := by decide +kernel
theorem dX3_isStruck_28 : decode cX3_isStruck 28 = .ok (.iconst 0, 1) := by decide +kernel
theorem dX3_isStruck_29 : decode cX3_isStruck 29 = .ok (.ireturn, 1) := by decide +kernel
set_option maxRecDepth 20000 in
theorem ggX3_hasPoints_X3_countingOf : GoodIn wsX3_hasPoints wsX3_countingOf := goodIn_r _ [5, 6, 17, 18, 19, 20, 21, 22, 23, 24, 25, 26] (by decide +kernel) (by decide +kernel)
set_option maxRecDepth 20000 in
theorem gX3_hasPoints_X3_countingOf : GoodIn wsX3_hasPoints (wsV RX3 48 RX3 yX3_countingOf wsX3_countingOf) := goodIn_app (goodIn_of _ (by decide +kernel)) ggX3_hasPoints_X3_countingOf
set_option maxRecDepth 20000 in
theorem ggX3_hasPoints_X3_isStruck : GoodIn wsX3_hasPoints wsX3_isStruck := goodIn_r _ [10, 11, 1, 2, 3, 4, 5, 6, 12, 13, 14, 15, 16, 17, 18, 19, 20, 21, 22, 23, 24, 25, 26, 27, 28, 29, 30] (by decide +kernel) (by decide +kernel)
set_option maxRecDepth 20000 in
theorem gX3_hasPoints_X3_isStruck : GoodIn wsX3_hasPoints (wsV RX3 55 RX3 yX3_isStruck wsX3_isStruck) := goodIn_app (goodIn_of _ (by decide +kernel)) ggX3_hasPoints_X3_isStruck
theorem dX3_hasPoints_0 : decode cX3_hasPoints 0 = .ok (.aload_n 0, 1) := by decide +kernel
theorem dX3_hasPoints_1 : decode cX3_hasPoints 1 = .ok (.iconst 0, 1) := by decide +kernel
theorem dX3_hasPoints_2 : decode cX3_hasPoints 2 = .ok (.iload_n 1, 1) := by decide +kernel
theorem dX3_hasPoints_3 : decode cX3_hasPoints 3 = .ok (.invokevirtual 48, 3) := by decide +kernel
theorem dX3_hasPoints_6 : decode cX3_hasPoints 6 = .ok (.ifCond .lt 15, 3) := by decide +kernel
theorem dX3_hasPoints_9 : decode cX3_hasPoints 9 = .ok (.aload_n 0, 1) := by decide +kernel
theorem dX3_hasPoints_10 : decode cX3_hasPoints 10 = .ok (.iload_n 1, 1) := by decide +kernel
theorem dX3_hasPoints_11 : decode cX3_hasPoints 11 = .ok (.invokevirtual 55, 3) := by decide +kernel
theorem dX3_hasPoints_14 : decode cX3_hasPoints 14 = .ok (.ifCond .ne 7, 3) := by decide +kernel
theorem dX3_hasPoints_17 : decode cX3_hasPoints 17 = .ok (.iconst 1, 1) := by decide +kernel
theorem dX3_hasPoints_18 : decode cX3_hasPoints 18 = .ok (.goto 4, 3) := by decide +kernel
theorem dX3_hasPoints_21 : decode cX3_hasPoints 21 = .ok (.iconst 0, 1) := by decide +kernel
theorem dX3_hasPoints_22 : decode cX3_hasPoints 22 = .ok (.ireturn, 1) := by decide +kernel
set_option maxRecDepth 20000 in
theorem ggX3_lengthOf_X3_countingOf : GoodIn wsX3_lengthOf wsX3_countingOf := goodIn_r _ [6, 7, 13, 14, 15, 16, 17, 18, 19, 20, 21, 22] (by decide +kernel) (by decide +kernel)
set_option maxRecDepth 20000 in
theorem gX3_lengthOf_X3_countingOf : GoodIn wsX3_lengthOf (wsV RX3 48 RX3 yX3_countingOf wsX3_countingOf) := goodIn_app (goodIn_of _ (by decide +kernel)) ggX3_lengthOf_X3_countingOf
set_option maxRecDepth 20000 in
theorem ggX3_lengthOf_X1_value : GoodIn wsX3_lengthOf wsX1_value := goodIn_r _ [11, 12, 23, 24, 25, 26] (by decide +kernel) (by decide +kernel)
set_option maxRecDepth 20000 in
theorem gX3_lengthOf_X1_value_n52 : GoodIn wsX3_lengthOf (wsX1_value) := ggX3_lengthOf_X1_value
theorem dX3_lengthOf_0 : decode cX3_lengthOf 0 = .ok (.aload_n 0, 1) := by decide +kernel
theorem dX3_lengthOf_1 : decode cX3_lengthOf 1 = .ok (.getfield 21, 3) := by decide +kernel
theorem dX3_lengthOf_4 : decode cX3_lengthOf 4 = .ok (.aload_n 0, 1) := by decide +kernel
theorem dX3_lengthOf_5 : decode cX3_lengthOf 5 = .ok (.iconst 0, 1) := by decide +kernel
theorem dX3_lengthOf_6 : decode cX3_lengthOf 6 = .ok (.iload_n 1, 1) := by decide +kernel
theorem dX3_lengthOf_7 : decode cX3_lengthOf 7 = .ok (.invokevirtual 48, 3) := by decide +kernel
theorem dX3_lengthOf_10 : decode cX3_lengthOf 10 = .ok (.iconst 0, 1) := by decide +kernel
theorem dX3_lengthOf_11 : decode cX3_lengthOf 11 = .ok (.invokevirtual 52, 3) := by decide +kernel
theorem dX3_lengthOf_14 : decode cX3_lengthOf 14 = .ok (.ireturn, 1) := by decide +kernel
set_option maxRecDepth 20000 in
theorem ggX3_measure_X3_countingOf : GoodIn wsX3_measure wsX3_countingOf := goodIn_r _ [12, 13, 62, 63, 64, 65, 66, 67, 68, 69, 70, 71] (by decide +kernel) (by decide +kernel)
set_option maxRecDepth 20000 in
theorem gX3_measure_X3_countingOf : GoodIn wsX3_measure (wsV RX3 48 RX3 yX3_countingOf wsX3_countingOf) := goodIn_app (goodIn_of _ (by decide +kernel)) ggX3_measure_X3_countingOf
set_option maxRecDepth 20000 in
theorem ggX3_measure_X3_meanOf : GoodIn wsX3_measure wsX3_meanOf := goodIn_r _ [17, 18, 3, 19, 20, 21, 22, 23, 24, 25, 11, 26, 27, 28, 29, 30, 62, 63, 64, 65, 66, 67, 68, 69, 70, 71, 72, 73, 74, 75] (by decide +kernel) (by decide +kernel)
set_option maxRecDepth 20000 in
theorem gX3_measure_X3_meanOf : GoodIn wsX3_measure (wsV RX3 59 RX3 yX3_meanOf wsX3_meanOf) := goodIn_app (goodIn_of _ (by decide +kernel)) ggX3_measure_X3_meanOf
set_option maxRecDepth 20000 in
theorem ggX3_measure_X3_hasPoints : GoodIn wsX3_measure wsX3_hasPoints := goodIn_r _ [34, 8, 9, 10, 11, 12, 13, 35, 36, 37, 38, 3, 19, 20, 21, 22, 23, 62, 63, 64, 65, 66, 67, 68, 69, 70, 71, 72, 73, 74, 75] (by decide +kernel) (by decide +kernel)
set_option maxRecDepth 20000 in
theorem gX3_measure_X3_hasPoints : GoodIn wsX3_measure (wsV RX3 66 RX3 yX3_hasPoints wsX3_hasPoints) := goodIn_app (goodIn_of _ (by decide +kernel)) ggX3_measure_X3_hasPoints
set_option maxRecDepth 20000 in
theorem ggX3_measure_X2_number : GoodIn wsX3_measure wsX2_number := goodIn_r _ [42, 43, 44, 45, 40, 46, 76, 77] (by decide +kernel) (by decide +kernel)
set_option maxRecDepth 20000 in
theorem gX3_measure_X2_number_n69 : GoodIn wsX3_measure (wsX2_number) := ggX3_measure_X2_number
set_option maxRecDepth 20000 in
theorem ggX3_measure_X1_value : GoodIn wsX3_measure wsX1_value := goodIn_r _ [22, 23, 72, 73, 74, 75] (by decide +kernel) (by decide +kernel)
set_option maxRecDepth 20000 in
theorem gX3_measure_X1_value_n52 : GoodIn wsX3_measure (wsX1_value) := ggX3_measure_X1_value
set_option maxRecDepth 20000 in
theorem ggX3_measure_X3_styleOf : GoodIn wsX3_measure wsX3_styleOf := goodIn_r _ [50, 3, 51, 52, 29, 53, 54, 55, 56, 19, 20, 21, 22, 23, 62, 63, 64, 65, 66, 67, 68, 69, 70, 71, 72, 73, 74, 75] (by decide +kernel) (by decide +kernel)
set_option maxRecDepth 20000 in
theorem gX3_measure_X3_styleOf : GoodIn wsX3_measure (wsV RX3 75 RX3 yX3_styleOf wsX3_styleOf) := goodIn_app (goodIn_of _ (by decide +kernel)) ggX3_measure_X3_styleOf
set_option maxRecDepth 20000 in
theorem ggX3_measure_X3_gateOf : GoodIn wsX3_measure wsX3_gateOf := goodIn_r _ [60, 3, 2, 61, 19, 20, 21, 22, 23, 39, 40, 41, 42, 43, 44, 45, 46, 62, 63, 64, 65, 66, 67, 68, 69, 70, 71, 72, 73, 74, 75, 76, 77] (by decide +kernel) (by decide +kernel)
set_option maxRecDepth 20000 in
theorem gX3_measure_X3_gateOf : GoodIn wsX3_measure (wsV RX3 81 RX3 yX3_gateOf wsX3_gateOf) := goodIn_app (goodIn_of _ (by decide +kernel)) ggX3_measure_X3_gateOf
set_option maxRecDepth 20000 in
theorem ggX3_measure_X3_rounded : GoodIn wsX3_measure wsX3_rounded := goodIn_r _ [26, 27, 28, 29, 30] (by decide +kernel) (by decide +kernel)
set_option maxRecDepth 20000 in
theorem gX3_measure_X3_rounded : GoodIn wsX3_measure (va_wsS RX3 87 yX3_rounded wsX3_rounded) := goodIn_app (goodIn_of _ (by decide +kernel)) ggX3_measure_X3_rounded
theorem dX3_measure_0 : decode cX3_measure 0 = .ok (.aload_n 0, 1) := by decide +kernel
theorem dX3_measure_1 : decode cX3_measure 1 = .ok (.aload_n 0, 1) := by decide +kernel
theorem dX3_measure_2 : decode cX3_measure 2 = .ok (.aload_n 0, 1) := by decide +kernel
theorem dX3_measure_3 : decode cX3_measure 3 = .ok (.iconst 1, 1) := by decide +kernel
theorem dX3_measure_4 : decode cX3_measure 4 = .ok (.iload_n 1, 1) := by decide +kernel
theorem dX3_measure_5 : decode cX3_measure 5 = .ok (.invokevirtual 48, 3) := by decide +kernel
theorem dX3_measure_8 : decode cX3_measure 8 = .ok (.invokevirtual 59, 3) := by decide +kernel
theorem dX3_measure_11 : decode cX3_measure 11 = .ok (.putfield 63, 3) := by decide +kernel
theorem dX3_measure_14 : decode cX3_measure 14 = .ok (.aload_n 0, 1) := by decide +kernel
theorem dX3_measure_15 : decode cX3_measure 15 = .ok (.iload_n 1, 1) := by decide +kernel
theorem dX3_measure_16 : decode cX3_measure 16 = .ok (.invokevirtual 66, 3) := by decide +kernel
theorem dX3_measure_19 : decode cX3_measure 19 = .ok (.ifCond .ne 5, 3) := by decide +kernel
theorem dX3_measure_22 : decode cX3_measure 22 = .ok (.iconst 0, 1) := by decide +kernel
theorem dX3_measure_23 : decode cX3_measure 23 = .ok (.ireturn, 1) := by decide +kernel
theorem dX3_measure_24 : decode cX3_measure 24 = .ok (.aload_n 0, 1) := by decide +kernel
theorem dX3_measure_25 : decode cX3_measure 25 = .ok (.iconst 0, 1) := by decide +kernel
theorem dX3_measure_26 : decode cX3_measure 26 = .ok (.iload_n 1, 1) := by decide +kernel
theorem dX3_measure_27 : decode cX3_measure 27 = .ok (.invokevirtual 48, 3) := by decide +kernel
theorem dX3_measure_30 : decode cX3_measure 30 = .ok (.istore_n 2, 1) := by decide +kernel
theorem dX3_measure_31 : decode cX3_measure 31 = .ok (.aload_n 0, 1) := by decide +kernel
theorem dX3_measure_32 : decode cX3_measure 32 = .ok (.sipush 1200, 3) := by decide +kernel
theorem dX3_measure_35 : decode cX3_measure 35 = .ok (.aload_n 0, 1) := by decide +kernel
theorem dX3_measure_36 : decode cX3_measure 36 = .ok (.getfield 12, 3) := by decide +kernel
theorem dX3_measure_39 : decode cX3_measure 39 = .ok (.iconst 1, 1) := by decide +kernel
theorem dX3_measure_40 : decode cX3_measure 40 = .ok (.invokevirtual 69, 3) := by decide +kernel
theorem dX3_measure_43 : decode cX3_measure 43 = .ok (.aload_n 0, 1) := by decide +kernel
theorem dX3_measure_44 : decode cX3_measure 44 = .ok (.getfield 21, 3) := by decide +kernel
theorem dX3_measure_47 : decode cX3_measure 47 = .ok (.iload_n 2, 1) := by decide +kernel
theorem dX3_measure_48 : decode cX3_measure 48 = .ok (.iconst 0, 1) := by decide +kernel
theorem dX3_measure_49 : decode cX3_measure 49 = .ok (.invokevirtual 52, 3) := by decide +kernel
theorem dX3_measure_52 : decode cX3_measure 52 = .ok (.aload_n 0, 1) := by decide +kernel
theorem dX3_measure_53 : decode cX3_measure 53 = .ok (.getfield 12, 3) := by decide +kernel
theorem dX3_measure_56 : decode cX3_measure 56 = .ok (.iconst 0, 1) := by decide +kernel
theorem dX3_measure_57 : decode cX3_measure 57 = .ok (.invokevirtual 69, 3) := by decide +kernel
theorem dX3_measure_60 : decode cX3_measure 60 = .ok (.isub, 1) := by decide +kernel
theorem dX3_measure_61 : decode cX3_measure 61 = .ok (.imul, 1) := by decide +kernel
theorem dX3_measure_62 : decode cX3_measure 62 = .ok (.iadd, 1) := by decide +kernel
theorem dX3_measure_63 : decode cX3_measure 63 = .ok (.putfield 72, 3) := by decide +kernel
theorem dX3_measure_66 : decode cX3_measure 66 = .ok (.aload_n 0, 1) := by decide +kernel
theorem dX3_measure_67 : decode cX3_measure 67 = .ok (.aload_n 0, 1) := by decide +kernel
theorem dX3_measure_68 : decode cX3_measure 68 = .ok (.aload_n 0, 1) := by decide +kernel
theorem dX3_measure_69 : decode cX3_measure 69 = .ok (.iconst 2, 1) := by decide +kernel
theorem dX3_measure_70 : decode cX3_measure 70 = .ok (.iload_n 1, 1) := by decide +kernel
theorem dX3_measure_71 : decode cX3_measure 71 = .ok (.invokevirtual 48, 3) := by decide +kernel
theorem dX3_measure_74 : decode cX3_measure 74 = .ok (.invokevirtual 75, 3) := by decide +kernel
theorem dX3_measure_77 : decode cX3_measure 77 = .ok (.putfield 78, 3) := by decide +kernel
theorem dX3_measure_80 : decode cX3_measure 80 = .ok (.aload_n 0, 1) := by decide +kernel
theorem dX3_measure_81 : decode cX3_measure 81 = .ok (.aload_n 0, 1) := by decide +kernel
theorem dX3_measure_82 : decode cX3_measure 82 = .ok (.iload_n 2, 1) := by decide +kernel
theorem dX3_measure_83 : decode cX3_measure 83 = .ok (.invokevirtual 81, 3) := by decide +kernel
theorem dX3_measure_86 : decode cX3_measure 86 = .ok (.putfield 84, 3) := by decide +kernel
theorem dX3_measure_89 : decode cX3_measure 89 = .ok (.aload_n 0, 1) := by decide +kernel
theorem dX3_measure_90 : decode cX3_measure 90 = .ok (.bipush (-2), 2) := by decide +kernel
theorem dX3_measure_92 : decode cX3_measure 92 = .ok (.aload_n 0, 1) := by decide +kernel
theorem dX3_measure_93 : decode cX3_measure 93 = .ok (.getfield 63, 3) := by decide +kernel
theorem dX3_measure_96 : decode cX3_measure 96 = .ok (.aload_n 0, 1) := by decide +kernel
theorem dX3_measure_97 : decode cX3_measure 97 = .ok (.getfield 12, 3) := by decide +kernel
theorem dX3_measure_100 : decode cX3_measure 100 = .ok (.iconst 2, 1) := by decide +kernel
theorem dX3_measure_101 : decode cX3_measure 101 = .ok (.invokevirtual 69, 3) := by decide +kernel
theorem dX3_measure_104 : decode cX3_measure 104 = .ok (.imul, 1) := by decide +kernel
theorem dX3_measure_105 : decode cX3_measure 105 = .ok (.bipush 100, 2) := by decide +kernel
theorem dX3_measure_107 : decode cX3_measure 107 = .ok (.invokestatic 87, 3) := by decide +kernel
theorem dX3_measure_110 : decode cX3_measure 110 = .ok (.imul, 1) := by decide +kernel
theorem dX3_measure_111 : decode cX3_measure 111 = .ok (.putfield 90, 3) := by decide +kernel
theorem dX3_measure_114 : decode cX3_measure 114 = .ok (.iconst 1, 1) := by decide +kernel
theorem dX3_measure_115 : decode cX3_measure 115 = .ok (.ireturn, 1) := by decide +kernel
theorem dX3_sum_0 : decode cX3_sum 0 = .ok (.iconst 0, 1) := by decide +kernel
theorem dX3_sum_1 : decode cX3_sum 1 = .ok (.aload_n 0, 1) := by decide +kernel
theorem dX3_sum_2 : decode cX3_sum 2 = .ok (.getfield 72, 3) := by decide +kernel
theorem dX3_sum_5 : decode cX3_sum 5 = .ok (.aload_n 0, 1) := by decide +kernel
theorem dX3_sum_6 : decode cX3_sum 6 = .ok (.getfield 78, 3) := by decide +kernel
theorem dX3_sum_9 : decode cX3_sum 9 = .ok (.iadd, 1) := by decide +kernel
theorem dX3_sum_10 : decode cX3_sum 10 = .ok (.aload_n 0, 1) := by decide +kernel
theorem dX3_sum_11 : decode cX3_sum 11 = .ok (.getfield 84, 3) := by decide +kernel
theorem dX3_sum_14 : decode cX3_sum 14 = .ok (.iadd, 1) := by decide +kernel
theorem dX3_sum_15 : decode cX3_sum 15 = .ok (.aload_n 0, 1) := by decide +kernel
theorem dX3_sum_16 : decode cX3_sum 16 = .ok (.getfield 90, 3) := by decide +kernel
theorem dX3_sum_19 : decode cX3_sum 19 = .ok (.iadd, 1) := by decide +kernel
theorem dX3_sum_20 : decode cX3_sum 20 = .ok (.invokestatic 93, 3) := by decide +kernel
theorem dX3_sum_23 : decode cX3_sum 23 = .ok (.ireturn, 1) := by decide +kernel
set_option maxRecDepth 20000 in
theorem ggX3_worthOf_X3_sum : GoodIn wsX3_worthOf wsX3_sum := goodIn_r _ [13, 1, 2, 3, 4, 5, 6, 7, 8, 14, 15, 16, 17, 18, 19, 20, 21, 22, 23] (by decide +kernel) (by decide +kernel)
set_option maxRecDepth 20000 in
theorem gX3_worthOf_X3_sum : GoodIn wsX3_worthOf (wsV RX3 98 RX3 yX3_sum wsX3_sum) := goodIn_app (goodIn_of _ (by decide +kernel)) ggX3_worthOf_X3_sum
theorem dX3_worthOf_0 : decode cX3_worthOf 0 = .ok (.aload_n 0, 1) := by decide +kernel
theorem dX3_worthOf_1 : decode cX3_worthOf 1 = .ok (.invokevirtual 98, 3) := by decide +kernel
theorem dX3_worthOf_4 : decode cX3_worthOf 4 = .ok (.iconst 0, 1) := by decide +kernel
theorem dX3_worthOf_5 : decode cX3_worthOf 5 = .ok (.aload_n 0, 1) := by decide +kernel
theorem dX3_worthOf_6 : decode cX3_worthOf 6 = .ok (.getfield 72, 3) := by decide +kernel
theorem dX3_worthOf_9 : decode cX3_worthOf 9 = .ok (.aload_n 0, 1) := by decide +kernel
theorem dX3_worthOf_10 : decode cX3_worthOf 10 = .ok (.getfield 78, 3) := by decide +kernel
theorem dX3_worthOf_13 : decode cX3_worthOf 13 = .ok (.iadd, 1) := by decide +kernel
theorem dX3_worthOf_14 : decode cX3_worthOf 14 = .ok (.aload_n 0, 1) := by decide +kernel
theorem dX3_worthOf_15 : decode cX3_worthOf 15 = .ok (.getfield 84, 3) := by decide +kernel
theorem dX3_worthOf_18 : decode cX3_worthOf 18 = .ok (.iadd, 1) := by decide +kernel
theorem dX3_worthOf_19 : decode cX3_worthOf 19 = .ok (.aload_n 0, 1) := by decide +kernel
theorem dX3_worthOf_20 : decode cX3_worthOf 20 = .ok (.getfield 90, 3) := by decide +kernel
theorem dX3_worthOf_23 : decode cX3_worthOf 23 = .ok (.iadd, 1) := by decide +kernel
theorem dX3_worthOf_24 : decode cX3_worthOf 24 = .ok (.iload_n 1, 1) := by decide +kernel
theorem dX3_worthOf_25 : decode cX3_worthOf 25 = .ok (.isub, 1) := by decide +kernel
theorem dX3_worthOf_26 : decode cX3_worthOf 26 = .ok (.invokestatic 93, 3) := by decide +kernel
theorem dX3_worthOf_29 : decode cX3_worthOf 29 = .ok (.isub, 1) := by decide +kernel
theorem dX3_worthOf_30 : decode cX3_worthOf 30 = .ok (.ireturn, 1) := by decide +kernel
set_option maxRecDepth 20000 in
theorem ggX3_styleOf_X1_value : GoodIn wsX3_styleOf wsX1_value := goodIn_r _ [12, 13, 24, 25, 26, 27] (by decide +kernel) (by decide +kernel)
set_option maxRecDepth 20000 in
theorem gX3_styleOf_X1_value_n52 : GoodIn wsX3_styleOf (wsX1_value) := ggX3_styleOf_X1_value
theorem dX3_styleOf_0 : decode cX3_styleOf 0 = .ok (.iload_n 1, 1) := by decide +kernel
theorem dX3_styleOf_1 : decode cX3_styleOf 1 = .ok (.ifCond .ge 5, 3) := by decide +kernel
theorem dX3_styleOf_4 : decode cX3_styleOf 4 = .ok (.iconst 0, 1) := by decide +kernel
theorem dX3_styleOf_5 : decode cX3_styleOf 5 = .ok (.ireturn, 1) := by decide +kernel
theorem dX3_styleOf_6 : decode cX3_styleOf 6 = .ok (.iconst 0, 1) := by decide +kernel
theorem dX3_styleOf_7 : decode cX3_styleOf 7 = .ok (.istore_n 2, 1) := by decide +kernel
theorem dX3_styleOf_8 : decode cX3_styleOf 8 = .ok (.bipush 40, 2) := by decide +kernel
theorem dX3_styleOf_10 : decode cX3_styleOf 10 = .ok (.istore_n 3, 1) := by decide +kernel
theorem dX3_styleOf_11 : decode cX3_styleOf 11 = .ok (.iconst 0, 1) := by decide +kernel
theorem dX3_styleOf_12 : decode cX3_styleOf 12 = .ok (.istore 4, 2) := by decide +kernel
theorem dX3_styleOf_14 : decode cX3_styleOf 14 = .ok (.iconst 0, 1) := by decide +kernel
theorem dX3_styleOf_15 : decode cX3_styleOf 15 = .ok (.istore 5, 2) := by decide +kernel
theorem dX3_styleOf_17 : decode cX3_styleOf 17 = .ok (.iload 5, 2) := by decide +kernel
theorem dX3_styleOf_19 : decode cX3_styleOf 19 = .ok (.iconst 5, 1) := by decide +kernel
theorem dX3_styleOf_20 : decode cX3_styleOf 20 = .ok (.if_icmp .ge 42, 3) := by decide +kernel
theorem dX3_styleOf_23 : decode cX3_styleOf 23 = .ok (.aload_n 0, 1) := by decide +kernel
theorem dX3_styleOf_24 : decode cX3_styleOf 24 = .ok (.getfield 21, 3) := by decide +kernel
theorem dX3_styleOf_27 : decode cX3_styleOf 27 = .ok (.iload_n 1, 1) := by decide +kernel
theorem dX3_styleOf_28 : decode cX3_styleOf 28 = .ok (.iload 5, 2) := by decide +kernel
theorem dX3_styleOf_30 : decode cX3_styleOf 30 = .ok (.invokevirtual 52, 3) := by decide +kernel
theorem dX3_styleOf_33 : decode cX3_styleOf 33 = .ok (.istore 6, 2) := by decide +kernel
theorem dX3_styleOf_35 : decode cX3_styleOf 35 = .ok (.iload_n 2, 1) := by decide +kernel
theorem dX3_styleOf_36 : decode cX3_styleOf 36 = .ok (.iload 6, 2) := by decide +kernel
theorem dX3_styleOf_38 : decode cX3_styleOf 38 = .ok (.iadd, 1) := by decide +kernel
theorem dX3_styleOf_39 : decode cX3_styleOf 39 = .ok (.istore_n 2, 1) := by decide +kernel
theorem dX3_styleOf_40 : decode cX3_styleOf 40 = .ok (.iload_n 3, 1) := by decide +kernel
theorem dX3_styleOf_41 : decode cX3_styleOf 41 = .ok (.iload 6, 2) := by decide +kernel
theorem dX3_styleOf_43 : decode cX3_styleOf 43 = .ok (.invokestatic 102, 3) := by decide +kernel
theorem dX3_styleOf_46 : decode cX3_styleOf 46 = .ok (.istore_n 3, 1) := by decide +kernel
theorem dX3_styleOf_47 : decode cX3_styleOf 47 = .ok (.iload 4, 2) := by decide +kernel
theorem dX3_styleOf_49 : decode cX3_styleOf 49 = .ok (.iload 6, 2) := by decide +kernel
theorem dX3_styleOf_51 : decode cX3_styleOf 51 = .ok (.invokestatic 93, 3) := by decide +kernel
theorem dX3_styleOf_54 : decode cX3_styleOf 54 = .ok (.istore 4, 2) := by decide +kernel
theorem dX3_styleOf_56 : decode cX3_styleOf 56 = .ok (.iinc 5 1, 3) := by decide +kernel
theorem dX3_styleOf_59 : decode cX3_styleOf 59 = .ok (.goto (-42), 3) := by decide +kernel
theorem dX3_styleOf_62 : decode cX3_styleOf 62 = .ok (.bipush 10, 2) := by decide +kernel
theorem dX3_styleOf_64 : decode cX3_styleOf 64 = .ok (.iload_n 2, 1) := by decide +kernel
theorem dX3_styleOf_65 : decode cX3_styleOf 65 = .ok (.iload_n 3, 1) := by decide +kernel
theorem dX3_styleOf_66 : decode cX3_styleOf 66 = .ok (.isub, 1) := by decide +kernel
theorem dX3_styleOf_67 : decode cX3_styleOf 67 = .ok (.iload 4, 2) := by decide +kernel
theorem dX3_styleOf_69 : decode cX3_styleOf 69 = .ok (.isub, 1) := by decide +kernel
theorem dX3_styleOf_70 : decode cX3_styleOf 70 = .ok (.imul, 1) := by decide +kernel
theorem dX3_styleOf_71 : decode cX3_styleOf 71 = .ok (.ireturn, 1) := by decide +kernel
set_option maxRecDepth 20000 in
theorem ggX3_gateOf_X1_value : GoodIn wsX3_gateOf wsX1_value := goodIn_r _ [7, 8, 27, 28, 29, 30] (by decide +kernel) (by decide +kernel)
set_option maxRecDepth 20000 in
theorem gX3_gateOf_X1_value_n52 : GoodIn wsX3_gateOf (wsX1_value) := ggX3_gateOf_X1_value
set_option maxRecDepth 20000 in
theorem ggX3_gateOf_X2_number : GoodIn wsX3_gateOf wsX2_number := goodIn_r _ [12, 13, 14, 15, 10, 16, 31, 32] (by decide +kernel) (by decide +kernel)
set_option maxRecDepth 20000 in
theorem gX3_gateOf_X2_number_n69 : GoodIn wsX3_gateOf (wsX2_number) := ggX3_gateOf_X2_number
theorem dX3_gateOf_0 : decode cX3_gateOf 0 = .ok (.aload_n 0, 1) := by decide +kernel
theorem dX3_gateOf_1 : decode cX3_gateOf 1 = .ok (.getfield 21, 3) := by decide +kernel
theorem dX3_gateOf_4 : decode cX3_gateOf 4 = .ok (.iload_n 1, 1) := by decide +kernel
theorem dX3_gateOf_5 : decode cX3_gateOf 5 = .ok (.iconst 2, 1) := by decide +kernel
theorem dX3_gateOf_6 : decode cX3_gateOf 6 = .ok (.invokevirtual 52, 3) := by decide +kernel
theorem dX3_gateOf_9 : decode cX3_gateOf 9 = .ok (.iconst 1, 1) := by decide +kernel
theorem dX3_gateOf_10 : decode cX3_gateOf 10 = .ok (.if_icmp .ne 7, 3) := by decide +kernel
theorem dX3_gateOf_13 : decode cX3_gateOf 13 = .ok (.iconst 1, 1) := by decide +kernel
theorem dX3_gateOf_14 : decode cX3_gateOf 14 = .ok (.goto 4, 3) := by decide +kernel
theorem dX3_gateOf_17 : decode cX3_gateOf 17 = .ok (.iconst 0, 1) := by decide +kernel
theorem dX3_gateOf_18 : decode cX3_gateOf 18 = .ok (.istore_n 2, 1) := by decide +kernel
theorem dX3_gateOf_19 : decode cX3_gateOf 19 = .ok (.iload_n 2, 1) := by decide +kernel
theorem dX3_gateOf_20 : decode cX3_gateOf 20 = .ok (.ifCond .eq 37, 3) := by decide +kernel
theorem dX3_gateOf_23 : decode cX3_gateOf 23 = .ok (.bipush 100, 2) := by decide +kernel
theorem dX3_gateOf_25 : decode cX3_gateOf 25 = .ok (.aload_n 0, 1) := by decide +kernel
theorem dX3_gateOf_26 : decode cX3_gateOf 26 = .ok (.getfield 21, 3) := by decide +kernel
theorem dX3_gateOf_29 : decode cX3_gateOf 29 = .ok (.iload_n 1, 1) := by decide +kernel
theorem dX3_gateOf_30 : decode cX3_gateOf 30 = .ok (.iconst 0, 1) := by decide +kernel
theorem dX3_gateOf_31 : decode cX3_gateOf 31 = .ok (.invokevirtual 52, 3) := by decide +kernel
theorem dX3_gateOf_34 : decode cX3_gateOf 34 = .ok (.imul, 1) := by decide +kernel
theorem dX3_gateOf_35 : decode cX3_gateOf 35 = .ok (.aload_n 0, 1) := by decide +kernel
theorem dX3_gateOf_36 : decode cX3_gateOf 36 = .ok (.getfield 12, 3) := by decide +kernel
theorem dX3_gateOf_39 : decode cX3_gateOf 39 = .ok (.iconst 4, 1) := by decide +kernel
theorem dX3_gateOf_40 : decode cX3_gateOf 40 = .ok (.invokevirtual 69, 3) := by decide +kernel
theorem dX3_gateOf_43 : decode cX3_gateOf 43 = .ok (.aload_n 0, 1) := by decide +kernel
theorem dX3_gateOf_44 : decode cX3_gateOf 44 = .ok (.getfield 12, 3) := by decide +kernel
theorem dX3_gateOf_47 : decode cX3_gateOf 47 = .ok (.iconst 0, 1) := by decide +kernel
theorem dX3_gateOf_48 : decode cX3_gateOf 48 = .ok (.invokevirtual 69, 3) := by decide +kernel
theorem dX3_gateOf_51 : decode cX3_gateOf 51 = .ok (.imul, 1) := by decide +kernel
theorem dX3_gateOf_52 : decode cX3_gateOf 52 = .ok (.if_icmp .ge 5, 3) := by decide +kernel
theorem dX3_gateOf_55 : decode cX3_gateOf 55 = .ok (.iconst 0, 1) := by decide +kernel
theorem dX3_gateOf_56 : decode cX3_gateOf 56 = .ok (.ireturn, 1) := by decide +kernel
theorem dX3_gateOf_57 : decode cX3_gateOf 57 = .ok (.iconst 2, 1) := by decide +kernel
theorem dX3_gateOf_58 : decode cX3_gateOf 58 = .ok (.aload_n 0, 1) := by decide +kernel
theorem dX3_gateOf_59 : decode cX3_gateOf 59 = .ok (.getfield 12, 3) := by decide +kernel
theorem dX3_gateOf_62 : decode cX3_gateOf 62 = .ok (.iconst 3, 1) := by decide +kernel
theorem dX3_gateOf_63 : decode cX3_gateOf 63 = .ok (.invokevirtual 69, 3) := by decide +kernel
theorem dX3_gateOf_66 : decode cX3_gateOf 66 = .ok (.imul, 1) := by decide +kernel
theorem dX3_gateOf_67 : decode cX3_gateOf 67 = .ok (.aload_n 0, 1) := by decide +kernel
theorem dX3_gateOf_68 : decode cX3_gateOf 68 = .ok (.getfield 29, 3) := by decide +kernel
theorem dX3_gateOf_71 : decode cX3_gateOf 71 = .ok (.aload_n 0, 1) := by decide +kernel
theorem dX3_gateOf_72 : decode cX3_gateOf 72 = .ok (.getfield 21, 3) := by decide +kernel
theorem dX3_gateOf_75 : decode cX3_gateOf 75 = .ok (.iload_n 1, 1) := by decide +kernel
theorem dX3_gateOf_76 : decode cX3_gateOf 76 = .ok (.iconst 1, 1) := by decide +kernel
theorem dX3_gateOf_77 : decode cX3_gateOf 77 = .ok (.invokevirtual 52, 3) := by decide +kernel
theorem dX3_gateOf_80 : decode cX3_gateOf 80 = .ok (.isub, 1) := by decide +kernel
theorem dX3_gateOf_81 : decode cX3_gateOf 81 = .ok (.imul, 1) := by decide +kernel
theorem dX3_gateOf_82 : decode cX3_gateOf 82 = .ok (.ireturn, 1) := by decide +kernel
set_option maxRecDepth 20000 in
theorem ggX3_meanOf_X1_value : GoodIn wsX3_meanOf wsX1_value := goodIn_r _ [6, 7, 26, 27, 28, 29] (by decide +kernel) (by decide +kernel)
set_option maxRecDepth 20000 in
theorem gX3_meanOf_X1_value_n52 : GoodIn wsX3_meanOf (wsX1_value) := ggX3_meanOf_X1_value
set_option maxRecDepth 20000 in
theorem ggX3_meanOf_X3_rounded : GoodIn wsX3_meanOf wsX3_rounded := goodIn_r _ [11, 12, 13, 14, 15] (by decide +kernel) (by decide +kernel)
set_option maxRecDepth 20000 in
theorem gX3_meanOf_X3_rounded : GoodIn wsX3_meanOf (va_wsS RX3 87 yX3_rounded wsX3_rounded) := goodIn_app (goodIn_of _ (by decide +kernel)) ggX3_meanOf_X3_rounded
theorem dX3_meanOf_0 : decode cX3_meanOf 0 = .ok (.iload_n 1, 1) := by decide +kernel
theorem dX3_meanOf_1 : decode cX3_meanOf 1 = .ok (.ifCond .ge 5, 3) := by decide +kernel
theorem dX3_meanOf_4 : decode cX3_meanOf 4 = .ok (.iconst 0, 1) := by decide +kernel
theorem dX3_meanOf_5 : decode cX3_meanOf 5 = .ok (.ireturn, 1) := by decide +kernel
theorem dX3_meanOf_6 : decode cX3_meanOf 6 = .ok (.iconst 0, 1) := by decide +kernel
theorem dX3_meanOf_7 : decode cX3_meanOf 7 = .ok (.istore_n 2, 1) := by decide +kernel
theorem dX3_meanOf_8 : decode cX3_meanOf 8 = .ok (.iconst 0, 1) := by decide +kernel
theorem dX3_meanOf_9 : decode cX3_meanOf 9 = .ok (.istore_n 3, 1) := by decide +kernel
theorem dX3_meanOf_10 : decode cX3_meanOf 10 = .ok (.iconst 0, 1) := by decide +kernel
theorem dX3_meanOf_11 : decode cX3_meanOf 11 = .ok (.istore 4, 2) := by decide +kernel
theorem dX3_meanOf_13 : decode cX3_meanOf 13 = .ok (.iload 4, 2) := by decide +kernel
theorem dX3_meanOf_15 : decode cX3_meanOf 15 = .ok (.aload_n 0, 1) := by decide +kernel
theorem dX3_meanOf_16 : decode cX3_meanOf 16 = .ok (.getfield 25, 3) := by decide +kernel
theorem dX3_meanOf_19 : decode cX3_meanOf 19 = .ok (.arraylength, 1) := by decide +kernel
theorem dX3_meanOf_20 : decode cX3_meanOf 20 = .ok (.if_icmp .ge 52, 3) := by decide +kernel
theorem dX3_meanOf_23 : decode cX3_meanOf 23 = .ok (.aload_n 0, 1) := by decide +kernel
theorem dX3_meanOf_24 : decode cX3_meanOf 24 = .ok (.getfield 21, 3) := by decide +kernel
theorem dX3_meanOf_27 : decode cX3_meanOf 27 = .ok (.iload_n 1, 1) := by decide +kernel
theorem dX3_meanOf_28 : decode cX3_meanOf 28 = .ok (.iload 4, 2) := by decide +kernel
theorem dX3_meanOf_30 : decode cX3_meanOf 30 = .ok (.invokevirtual 52, 3) := by decide +kernel
theorem dX3_meanOf_33 : decode cX3_meanOf 33 = .ok (.istore 5, 2) := by decide +kernel
theorem dX3_meanOf_35 : decode cX3_meanOf 35 = .ok (.iload 5, 2) := by decide +kernel
theorem dX3_meanOf_37 : decode cX3_meanOf 37 = .ok (.sipush (-10000), 3) := by decide +kernel
theorem dX3_meanOf_40 : decode cX3_meanOf 40 = .ok (.if_icmp .eq 26, 3) := by decide +kernel
theorem dX3_meanOf_43 : decode cX3_meanOf 43 = .ok (.iload_n 2, 1) := by decide +kernel
theorem dX3_meanOf_44 : decode cX3_meanOf 44 = .ok (.aload_n 0, 1) := by decide +kernel
theorem dX3_meanOf_45 : decode cX3_meanOf 45 = .ok (.getfield 25, 3) := by decide +kernel
theorem dX3_meanOf_48 : decode cX3_meanOf 48 = .ok (.iload 4, 2) := by decide +kernel
theorem dX3_meanOf_50 : decode cX3_meanOf 50 = .ok (.iaload, 1) := by decide +kernel
theorem dX3_meanOf_51 : decode cX3_meanOf 51 = .ok (.iload 5, 2) := by decide +kernel
theorem dX3_meanOf_53 : decode cX3_meanOf 53 = .ok (.imul, 1) := by decide +kernel
theorem dX3_meanOf_54 : decode cX3_meanOf 54 = .ok (.iadd, 1) := by decide +kernel
theorem dX3_meanOf_55 : decode cX3_meanOf 55 = .ok (.istore_n 2, 1) := by decide +kernel
theorem dX3_meanOf_56 : decode cX3_meanOf 56 = .ok (.iload_n 3, 1) := by decide +kernel
theorem dX3_meanOf_57 : decode cX3_meanOf 57 = .ok (.aload_n 0, 1) := by decide +kernel
theorem dX3_meanOf_58 : decode cX3_meanOf 58 = .ok (.getfield 25, 3) := by decide +kernel
theorem dX3_meanOf_61 : decode cX3_meanOf 61 = .ok (.iload 4, 2) := by decide +kernel
theorem dX3_meanOf_63 : decode cX3_meanOf 63 = .ok (.iaload, 1) := by decide +kernel
theorem dX3_meanOf_64 : decode cX3_meanOf 64 = .ok (.iadd, 1) := by decide +kernel
theorem dX3_meanOf_65 : decode cX3_meanOf 65 = .ok (.istore_n 3, 1) := by decide +kernel
theorem dX3_meanOf_66 : decode cX3_meanOf 66 = .ok (.iinc 4 1, 3) := by decide +kernel
theorem dX3_meanOf_69 : decode cX3_meanOf 69 = .ok (.goto (-56), 3) := by decide +kernel
theorem dX3_meanOf_72 : decode cX3_meanOf 72 = .ok (.iload_n 2, 1) := by decide +kernel
theorem dX3_meanOf_73 : decode cX3_meanOf 73 = .ok (.iload_n 3, 1) := by decide +kernel
theorem dX3_meanOf_74 : decode cX3_meanOf 74 = .ok (.invokestatic 87, 3) := by decide +kernel
theorem dX3_meanOf_77 : decode cX3_meanOf 77 = .ok (.ireturn, 1) := by decide +kernel
theorem dX3_rounded_0 : decode cX3_rounded 0 = .ok (.iload_n 1, 1) := by decide +kernel
theorem dX3_rounded_1 : decode cX3_rounded 1 = .ok (.ifCond .gt 5, 3) := by decide +kernel
theorem dX3_rounded_4 : decode cX3_rounded 4 = .ok (.iconst 0, 1) := by decide +kernel
theorem dX3_rounded_5 : decode cX3_rounded 5 = .ok (.ireturn, 1) := by decide +kernel
theorem dX3_rounded_6 : decode cX3_rounded 6 = .ok (.iconst 2, 1) := by decide +kernel
theorem dX3_rounded_7 : decode cX3_rounded 7 = .ok (.iload_n 0, 1) := by decide +kernel
theorem dX3_rounded_8 : decode cX3_rounded 8 = .ok (.invokestatic 105, 3) := by decide +kernel
theorem dX3_rounded_11 : decode cX3_rounded 11 = .ok (.imul, 1) := by decide +kernel
theorem dX3_rounded_12 : decode cX3_rounded 12 = .ok (.iload_n 1, 1) := by decide +kernel
theorem dX3_rounded_13 : decode cX3_rounded 13 = .ok (.iadd, 1) := by decide +kernel
theorem dX3_rounded_14 : decode cX3_rounded 14 = .ok (.iconst 2, 1) := by decide +kernel
theorem dX3_rounded_15 : decode cX3_rounded 15 = .ok (.iload_n 1, 1) := by decide +kernel
theorem dX3_rounded_16 : decode cX3_rounded 16 = .ok (.imul, 1) := by decide +kernel
theorem dX3_rounded_17 : decode cX3_rounded 17 = .ok (.idiv, 1) := by decide +kernel
theorem dX3_rounded_18 : decode cX3_rounded 18 = .ok (.istore_n 2, 1) := by decide +kernel
theorem dX3_rounded_19 : decode cX3_rounded 19 = .ok (.iload_n 0, 1) := by decide +kernel
theorem dX3_rounded_20 : decode cX3_rounded 20 = .ok (.ifCond .ge 8, 3) := by decide +kernel
theorem dX3_rounded_23 : decode cX3_rounded 23 = .ok (.iload_n 2, 1) := by decide +kernel
theorem dX3_rounded_24 : decode cX3_rounded 24 = .ok (.ineg, 1) := by decide +kernel
theorem dX3_rounded_25 : decode cX3_rounded 25 = .ok (.goto 4, 3) := by decide +kernel
theorem dX3_rounded_28 : decode cX3_rounded 28 = .ok (.iload_n 2, 1) := by decide +kernel
theorem dX3_rounded_29 : decode cX3_rounded 29 = .ok (.ireturn, 1) := by decide +kernel
set_option maxRecDepth 20000 in
theorem ggX3_mayBeRecord_X3_countingOf : GoodIn wsX3_mayBeRecord wsX3_countingOf := goodIn_r _ [6, 7, 21, 22, 23, 24, 25, 26, 27, 28, 29, 30] (by decide +kernel) (by decide +kernel)
set_option maxRecDepth 20000 in
theorem gX3_mayBeRecord_X3_countingOf : GoodIn wsX3_mayBeRecord (wsV RX3 48 RX3 yX3_countingOf wsX3_countingOf) := goodIn_app (goodIn_of _ (by decide +kernel)) ggX3_mayBeRecord_X3_countingOf
set_option maxRecDepth 20000 in
theorem ggX3_mayBeRecord_X3_hasPoints : GoodIn wsX3_mayBeRecord wsX3_hasPoints := goodIn_r _ [11, 2, 3, 4, 5, 6, 7, 12, 13, 14, 15, 1, 16, 17, 18, 19, 20, 21, 22, 23, 24, 25, 26, 27, 28, 29, 30, 31, 32, 33, 34] (by decide +kernel) (by decide +kernel)
set_option maxRecDepth 20000 in
theorem gX3_mayBeRecord_X3_hasPoints : GoodIn wsX3_mayBeRecord (wsV RX3 66 RX3 yX3_hasPoints wsX3_hasPoints) := goodIn_app (goodIn_of _ (by decide +kernel)) ggX3_mayBeRecord_X3_hasPoints
set_option maxRecDepth 20000 in
theorem ggX3_mayBeRecord_X1_value : GoodIn wsX3_mayBeRecord wsX1_value := goodIn_r _ [19, 20, 31, 32, 33, 34] (by decide +kernel) (by decide +kernel)
set_option maxRecDepth 20000 in
theorem gX3_mayBeRecord_X1_value_n52 : GoodIn wsX3_mayBeRecord (wsX1_value) := ggX3_mayBeRecord_X1_value
theorem dX3_mayBeRecord_0 : decode cX3_mayBeRecord 0 = .ok (.aload_n 0, 1) := by decide +kernel
theorem dX3_mayBeRecord_1 : decode cX3_mayBeRecord 1 = .ok (.iconst 2, 1) := by decide +kernel
theorem dX3_mayBeRecord_2 : decode cX3_mayBeRecord 2 = .ok (.iload_n 1, 1) := by decide +kernel
theorem dX3_mayBeRecord_3 : decode cX3_mayBeRecord 3 = .ok (.invokevirtual 48, 3) := by decide +kernel
theorem dX3_mayBeRecord_6 : decode cX3_mayBeRecord 6 = .ok (.istore_n 2, 1) := by decide +kernel
theorem dX3_mayBeRecord_7 : decode cX3_mayBeRecord 7 = .ok (.iload_n 2, 1) := by decide +kernel
theorem dX3_mayBeRecord_8 : decode cX3_mayBeRecord 8 = .ok (.ifCond .lt 11, 3) := by decide +kernel
theorem dX3_mayBeRecord_11 : decode cX3_mayBeRecord 11 = .ok (.aload_n 0, 1) := by decide +kernel
theorem dX3_mayBeRecord_12 : decode cX3_mayBeRecord 12 = .ok (.iload_n 1, 1) := by decide +kernel
theorem dX3_mayBeRecord_13 : decode cX3_mayBeRecord 13 = .ok (.invokevirtual 66, 3) := by decide +kernel
theorem dX3_mayBeRecord_16 : decode cX3_mayBeRecord 16 = .ok (.ifCond .ne 5, 3) := by decide +kernel
theorem dX3_mayBeRecord_19 : decode cX3_mayBeRecord 19 = .ok (.iconst 0, 1) := by decide +kernel
theorem dX3_mayBeRecord_20 : decode cX3_mayBeRecord 20 = .ok (.ireturn, 1) := by decide +kernel
theorem dX3_mayBeRecord_21 : decode cX3_mayBeRecord 21 = .ok (.iconst 0, 1) := by decide +kernel
theorem dX3_mayBeRecord_22 : decode cX3_mayBeRecord 22 = .ok (.istore_n 3, 1) := by decide +kernel
theorem dX3_mayBeRecord_23 : decode cX3_mayBeRecord 23 = .ok (.iload_n 3, 1) := by decide +kernel
theorem dX3_mayBeRecord_24 : decode cX3_mayBeRecord 24 = .ok (.iconst 5, 1) := by decide +kernel
theorem dX3_mayBeRecord_25 : decode cX3_mayBeRecord 25 = .ok (.if_icmp .ge 25, 3) := by decide +kernel
theorem dX3_mayBeRecord_28 : decode cX3_mayBeRecord 28 = .ok (.aload_n 0, 1) := by decide +kernel
theorem dX3_mayBeRecord_29 : decode cX3_mayBeRecord 29 = .ok (.getfield 21, 3) := by decide +kernel
theorem dX3_mayBeRecord_32 : decode cX3_mayBeRecord 32 = .ok (.iload_n 2, 1) := by decide +kernel
theorem dX3_mayBeRecord_33 : decode cX3_mayBeRecord 33 = .ok (.iload_n 3, 1) := by decide +kernel
theorem dX3_mayBeRecord_34 : decode cX3_mayBeRecord 34 = .ok (.invokevirtual 52, 3) := by decide +kernel
theorem dX3_mayBeRecord_37 : decode cX3_mayBeRecord 37 = .ok (.bipush 20, 2) := by decide +kernel
theorem dX3_mayBeRecord_39 : decode cX3_mayBeRecord 39 = .ok (.if_icmp .ge 5, 3) := by decide +kernel
theorem dX3_mayBeRecord_42 : decode cX3_mayBeRecord 42 = .ok (.iconst 0, 1) := by decide +kernel
theorem dX3_mayBeRecord_43 : decode cX3_mayBeRecord 43 = .ok (.ireturn, 1) := by decide +kernel
theorem dX3_mayBeRecord_44 : decode cX3_mayBeRecord 44 = .ok (.iinc 3 1, 3) := by decide +kernel
theorem dX3_mayBeRecord_47 : decode cX3_mayBeRecord 47 = .ok (.goto (-24), 3) := by decide +kernel
theorem dX3_mayBeRecord_50 : decode cX3_mayBeRecord 50 = .ok (.iconst 1, 1) := by decide +kernel
theorem dX3_mayBeRecord_51 : decode cX3_mayBeRecord 51 = .ok (.ireturn, 1) := by decide +kernel
set_option maxRecDepth 20000 in
theorem ggX3_isLonger_X3_lengthOf : GoodIn wsX3_isLonger wsX3_lengthOf := goodIn_r _ [5, 6, 7, 8, 9, 4, 10, 11, 12, 13, 14, 15, 16, 17, 18, 19, 20, 21, 22, 23, 24, 25, 26, 27, 28, 29, 30] (by decide +kernel) (by decide +kernel)
set_option maxRecDepth 20000 in
theorem gX3_isLonger_X3_lengthOf : GoodIn wsX3_isLonger (wsV RX3 108 RX3 yX3_lengthOf wsX3_lengthOf) := goodIn_app (goodIn_of _ (by decide +kernel)) ggX3_isLonger_X3_lengthOf
set_option maxRecDepth 20000 in
theorem ggX3_isLonger_X3_countingOf : GoodIn wsX3_isLonger wsX3_countingOf := goodIn_r _ [10, 11, 17, 18, 19, 20, 21, 22, 23, 24, 25, 26] (by decide +kernel) (by decide +kernel)
set_option maxRecDepth 20000 in
theorem gX3_isLonger_X3_countingOf : GoodIn wsX3_isLonger (wsV RX3 48 RX3 yX3_countingOf wsX3_countingOf) := goodIn_app (goodIn_of _ (by decide +kernel)) ggX3_isLonger_X3_countingOf
theorem dX3_isLonger_0 : decode cX3_isLonger 0 = .ok (.aload_n 0, 1) := by decide +kernel
theorem dX3_isLonger_1 : decode cX3_isLonger 1 = .ok (.iload_n 1, 1) := by decide +kernel
theorem dX3_isLonger_2 : decode cX3_isLonger 2 = .ok (.invokevirtual 108, 3) := by decide +kernel
theorem dX3_isLonger_5 : decode cX3_isLonger 5 = .ok (.aload_n 0, 1) := by decide +kernel
theorem dX3_isLonger_6 : decode cX3_isLonger 6 = .ok (.iload_n 2, 1) := by decide +kernel
theorem dX3_isLonger_7 : decode cX3_isLonger 7 = .ok (.invokevirtual 108, 3) := by decide +kernel
theorem dX3_isLonger_10 : decode cX3_isLonger 10 = .ok (.isub, 1) := by decide +kernel
theorem dX3_isLonger_11 : decode cX3_isLonger 11 = .ok (.istore_n 3, 1) := by decide +kernel
theorem dX3_isLonger_12 : decode cX3_isLonger 12 = .ok (.iload_n 3, 1) := by decide +kernel
theorem dX3_isLonger_13 : decode cX3_isLonger 13 = .ok (.ifCond .gt 22, 3) := by decide +kernel
theorem dX3_isLonger_16 : decode cX3_isLonger 16 = .ok (.iload_n 3, 1) := by decide +kernel
theorem dX3_isLonger_17 : decode cX3_isLonger 17 = .ok (.ifCond .ne 22, 3) := by decide +kernel
theorem dX3_isLonger_20 : decode cX3_isLonger 20 = .ok (.aload_n 0, 1) := by decide +kernel
theorem dX3_isLonger_21 : decode cX3_isLonger 21 = .ok (.iconst 0, 1) := by decide +kernel
theorem dX3_isLonger_22 : decode cX3_isLonger 22 = .ok (.iload_n 1, 1) := by decide +kernel
theorem dX3_isLonger_23 : decode cX3_isLonger 23 = .ok (.invokevirtual 48, 3) := by decide +kernel
theorem dX3_isLonger_26 : decode cX3_isLonger 26 = .ok (.aload_n 0, 1) := by decide +kernel
theorem dX3_isLonger_27 : decode cX3_isLonger 27 = .ok (.iconst 0, 1) := by decide +kernel
theorem dX3_isLonger_28 : decode cX3_isLonger 28 = .ok (.iload_n 2, 1) := by decide +kernel
theorem dX3_isLonger_29 : decode cX3_isLonger 29 = .ok (.invokevirtual 48, 3) := by decide +kernel
theorem dX3_isLonger_32 : decode cX3_isLonger 32 = .ok (.if_icmp .ge 7, 3) := by decide +kernel
theorem dX3_isLonger_35 : decode cX3_isLonger 35 = .ok (.iconst 1, 1) := by decide +kernel
theorem dX3_isLonger_36 : decode cX3_isLonger 36 = .ok (.goto 4, 3) := by decide +kernel
theorem dX3_isLonger_39 : decode cX3_isLonger 39 = .ok (.iconst 0, 1) := by decide +kernel
theorem dX3_isLonger_40 : decode cX3_isLonger 40 = .ok (.ireturn, 1) := by decide +kernel
end
section
set_option maxRecDepth 20000 in
theorem ggX4_init_X3_init : GoodIn wsX4_init wsX3_init := goodIn_r _ [20, 21, 2, 3, 22, 23, 24, 25, 26, 27, 28, 29, 4, 30, 31, 32, 33, 34, 35, 36, 37, 38, 39, 40, 41, 42, 43, 44, 45, 46, 47, 48, 86, 87, 69, 70, 71, 72, 73, 74, 75, 76, 77, 78, 88, 89, 90, 91] (by decide +kernel) (by decide +kernel)
set_option maxRecDepth 20000 in
theorem gX4_init_X3_init_n15 : GoodIn wsX4_init (wsX3_init) := ggX4_init_X3_init
set_option maxRecDepth 20000 in
theorem ggX4_init_X0_init : GoodIn wsX4_init wsX0_init := goodIn_r _ [50, 51, 2, 3, 4, 52, 53, 54, 55, 56, 57, 79, 80, 81, 82, 83, 84, 85] (by decide +kernel) (by decide +kernel)
set_option maxRecDepth 20000 in
theorem gX4_init_X0_init_n22 : GoodIn wsX4_init (wsX0_init) := ggX4_init_X0_init
theorem dX4_init_0 : decode cX4_init 0 = .ok (.aload_n 0, 1) := by decide +kernel
theorem dX4_init_1 : decode cX4_init 1 = .ok (.invokespecial 1, 3) := by decide +kernel
theorem dX4_init_4 : decode cX4_init 4 = .ok (.aload_n 0, 1) := by decide +kernel
theorem dX4_init_5 : decode cX4_init 5 = .ok (.bipush 60, 2) := by decide +kernel
theorem dX4_init_7 : decode cX4_init 7 = .ok (.newarray .int, 2) := by decide +kernel
theorem dX4_init_9 : decode cX4_init 9 = .ok (.putfield 9, 3) := by decide +kernel
theorem dX4_init_12 : decode cX4_init 12 = .ok (.aload_n 0, 1) := by decide +kernel
theorem dX4_init_13 : decode cX4_init 13 = .ok (.new 13, 3) := by decide +kernel
theorem dX4_init_16 : decode cX4_init 16 = .ok (.dup, 1) := by decide +kernel
theorem dX4_init_17 : decode cX4_init 17 = .ok (.invokespecial 15, 3) := by decide +kernel
theorem dX4_init_20 : decode cX4_init 20 = .ok (.putfield 16, 3) := by decide +kernel
theorem dX4_init_23 : decode cX4_init 23 = .ok (.aload_n 0, 1) := by decide +kernel
theorem dX4_init_24 : decode cX4_init 24 = .ok (.new 20, 3) := by decide +kernel
theorem dX4_init_27 : decode cX4_init 27 = .ok (.dup, 1) := by decide +kernel
theorem dX4_init_28 : decode cX4_init 28 = .ok (.invokespecial 22, 3) := by decide +kernel
theorem dX4_init_31 : decode cX4_init 31 = .ok (.putfield 23, 3) := by decide +kernel
theorem dX4_init_34 : decode cX4_init 34 = .ok (.aload_n 0, 1) := by decide +kernel
theorem dX4_init_35 : decode cX4_init 35 = .ok (.new 20, 3) := by decide +kernel
theorem dX4_init_38 : decode cX4_init 38 = .ok (.dup, 1) := by decide +kernel
theorem dX4_init_39 : decode cX4_init 39 = .ok (.invokespecial 22, 3) := by decide +kernel
theorem dX4_init_42 : decode cX4_init 42 = .ok (.putfield 27, 3) := by decide +kernel
theorem dX4_init_45 : decode cX4_init 45 = .ok (.aload_n 0, 1) := by decide +kernel
theorem dX4_init_46 : decode cX4_init 46 = .ok (.bipush 24, 2) := by decide +kernel
theorem dX4_init_48 : decode cX4_init 48 = .ok (.newarray .int, 2) := by decide +kernel
theorem dX4_init_50 : decode cX4_init 50 = .ok (.putfield 30, 3) := by decide +kernel
theorem dX4_init_53 : decode cX4_init 53 = .ok (.aload_n 0, 1) := by decide +kernel
theorem dX4_init_54 : decode cX4_init 54 = .ok (.bipush 24, 2) := by decide +kernel
theorem dX4_init_56 : decode cX4_init 56 = .ok (.newarray .int, 2) := by decide +kernel
theorem dX4_init_58 : decode cX4_init 58 = .ok (.putfield 33, 3) := by decide +kernel
theorem dX4_init_61 : decode cX4_init 61 = .ok (.aload_n 0, 1) := by decide +kernel
theorem dX4_init_62 : decode cX4_init 62 = .ok (.iconst (-1), 1) := by decide +kernel
theorem dX4_init_63 : decode cX4_init 63 = .ok (.putfield 36, 3) := by decide +kernel
theorem dX4_init_66 : decode cX4_init 66 = .ok (.aload_n 0, 1) := by decide +kernel
theorem dX4_init_67 : decode cX4_init 67 = .ok (.iconst (-1), 1) := by decide +kernel
theorem dX4_init_68 : decode cX4_init 68 = .ok (.putfield 40, 3) := by decide +kernel
theorem dX4_init_71 : decode cX4_init 71 = .ok (.return_, 1) := by decide +kernel
set_option maxRecDepth 20000 in
theorem ggX4_feed_X4_tapeInt : GoodIn wsX4_feed wsX4_tapeInt := goodIn_r _ [6, 1, 7, 8, 9, 10, 11, 12, 13, 14, 15, 16, 17, 18] (by decide +kernel) (by decide +kernel)
set_option maxRecDepth 20000 in
theorem gX4_feed_X4_tapeInt : GoodIn wsX4_feed (wsV RX4 46 RX4 yX4_tapeInt wsX4_tapeInt) := goodIn_app (goodIn_of _ (by decide +kernel)) ggX4_feed_X4_tapeInt
theorem dX4_feed_0 : decode cX4_feed 0 = .ok (.aload_n 0, 1) := by decide +kernel
theorem dX4_feed_1 : decode cX4_feed 1 = .ok (.getfield 43, 3) := by decide +kernel
theorem dX4_feed_4 : decode cX4_feed 4 = .ok (.bipush 20, 2) := by decide +kernel
theorem dX4_feed_6 : decode cX4_feed 6 = .ok (.iadd, 1) := by decide +kernel
theorem dX4_feed_7 : decode cX4_feed 7 = .ok (.bipush 60, 2) := by decide +kernel
theorem dX4_feed_9 : decode cX4_feed 9 = .ok (.if_icmp .le 7, 3) := by decide +kernel
theorem dX4_feed_12 : decode cX4_feed 12 = .ok (.sipush (-10000), 3) := by decide +kernel
theorem dX4_feed_15 : decode cX4_feed 15 = .ok (.ireturn, 1) := by decide +kernel
theorem dX4_feed_16 : decode cX4_feed 16 = .ok (.aload_n 0, 1) := by decide +kernel
theorem dX4_feed_17 : decode cX4_feed 17 = .ok (.iload_n 1, 1) := by decide +kernel
theorem dX4_feed_18 : decode cX4_feed 18 = .ok (.invokevirtual 46, 3) := by decide +kernel
theorem dX4_feed_21 : decode cX4_feed 21 = .ok (.aload_n 0, 1) := by decide +kernel
theorem dX4_feed_22 : decode cX4_feed 22 = .ok (.iload_n 2, 1) := by decide +kernel
theorem dX4_feed_23 : decode cX4_feed 23 = .ok (.invokevirtual 46, 3) := by decide +kernel
theorem dX4_feed_26 : decode cX4_feed 26 = .ok (.aload_n 0, 1) := by decide +kernel
theorem dX4_feed_27 : decode cX4_feed 27 = .ok (.iload_n 3, 1) := by decide +kernel
theorem dX4_feed_28 : decode cX4_feed 28 = .ok (.invokevirtual 46, 3) := by decide +kernel
theorem dX4_feed_31 : decode cX4_feed 31 = .ok (.aload_n 0, 1) := by decide +kernel
theorem dX4_feed_32 : decode cX4_feed 32 = .ok (.iload 4, 2) := by decide +kernel
theorem dX4_feed_34 : decode cX4_feed 34 = .ok (.invokevirtual 46, 3) := by decide +kernel
theorem dX4_feed_37 : decode cX4_feed 37 = .ok (.aload_n 0, 1) := by decide +kernel
theorem dX4_feed_38 : decode cX4_feed 38 = .ok (.iload 5, 2) := by decide +kernel
theorem dX4_feed_40 : decode cX4_feed 40 = .ok (.invokevirtual 46, 3) := by decide +kernel
theorem dX4_feed_43 : decode cX4_feed 43 = .ok (.aload_n 0, 1) := by decide +kernel
theorem dX4_feed_44 : decode cX4_feed 44 = .ok (.getfield 43, 3) := by decide +kernel
theorem dX4_feed_47 : decode cX4_feed 47 = .ok (.ireturn, 1) := by decide +kernel
set_option maxRecDepth 20000 in
theorem ggX4_rules_X2_read : GoodIn wsX4_rules wsX2_read := goodIn_r _ [7, 8, 9, 10, 11, 12, 13, 14, 15, 16, 5, 17, 18, 19, 20, 21, 22, 23, 24, 25, 26, 48, 49] (by decide +kernel) (by decide +kernel)
set_option maxRecDepth 20000 in
theorem gX4_rules_X2_read_n54 : GoodIn wsX4_rules (wsX2_read) := ggX4_rules_X2_read
theorem dX4_rules_0 : decode cX4_rules 0 = .ok (.iload_n 1, 1) := by decide +kernel
theorem dX4_rules_1 : decode cX4_rules 1 = .ok (.ifCond .lt 11, 3) := by decide +kernel
theorem dX4_rules_4 : decode cX4_rules 4 = .ok (.iload_n 1, 1) := by decide +kernel
theorem dX4_rules_5 : decode cX4_rules 5 = .ok (.aload_n 0, 1) := by decide +kernel
theorem dX4_rules_6 : decode cX4_rules 6 = .ok (.getfield 43, 3) := by decide +kernel
theorem dX4_rules_9 : decode cX4_rules 9 = .ok (.if_icmp .le 7, 3) := by decide +kernel
theorem dX4_rules_12 : decode cX4_rules 12 = .ok (.sipush (-10000), 3) := by decide +kernel
theorem dX4_rules_15 : decode cX4_rules 15 = .ok (.ireturn, 1) := by decide +kernel
theorem dX4_rules_16 : decode cX4_rules 16 = .ok (.aload_n 0, 1) := by decide +kernel
theorem dX4_rules_17 : decode cX4_rules 17 = .ok (.iconst 0, 1) := by decide +kernel
theorem dX4_rules_18 : decode cX4_rules 18 = .ok (.putfield 43, 3) := by decide +kernel
theorem dX4_rules_21 : decode cX4_rules 21 = .ok (.aload_n 0, 1) := by decide +kernel
theorem dX4_rules_22 : decode cX4_rules 22 = .ok (.getfield 16, 3) := by decide +kernel
theorem dX4_rules_25 : decode cX4_rules 25 = .ok (.getfield 50, 3) := by decide +kernel
theorem dX4_rules_28 : decode cX4_rules 28 = .ok (.aload_n 0, 1) := by decide +kernel
theorem dX4_rules_29 : decode cX4_rules 29 = .ok (.getfield 9, 3) := by decide +kernel
theorem dX4_rules_32 : decode cX4_rules 32 = .ok (.iload_n 1, 1) := by decide +kernel
theorem dX4_rules_33 : decode cX4_rules 33 = .ok (.invokevirtual 54, 3) := by decide +kernel
theorem dX4_rules_36 : decode cX4_rules 36 = .ok (.ireturn, 1) := by decide +kernel
set_option maxRecDepth 20000 in
theorem ggX4_rule_X2_isLetter : GoodIn wsX4_rule wsX2_isLetter := goodIn_r _ [4] (by decide +kernel) (by decide +kernel)
set_option maxRecDepth 20000 in
theorem gX4_rule_X2_isLetter_n60 : GoodIn wsX4_rule (wsX2_isLetter) := ggX4_rule_X2_isLetter
set_option maxRecDepth 20000 in
theorem ggX4_rule_X2_number : GoodIn wsX4_rule wsX2_number := goodIn_r _ [7, 8, 9, 2, 3, 4, 31, 32] (by decide +kernel) (by decide +kernel)
set_option maxRecDepth 20000 in
theorem gX4_rule_X2_number_n64 : GoodIn wsX4_rule (wsX2_number) := ggX4_rule_X2_number
theorem dX4_rule_0 : decode cX4_rule 0 = .ok (.iload_n 1, 1) := by decide +kernel
theorem dX4_rule_1 : decode cX4_rule 1 = .ok (.invokestatic 60, 3) := by decide +kernel
theorem dX4_rule_4 : decode cX4_rule 4 = .ok (.ifCond .eq 17, 3) := by decide +kernel
theorem dX4_rule_7 : decode cX4_rule 7 = .ok (.aload_n 0, 1) := by decide +kernel
theorem dX4_rule_8 : decode cX4_rule 8 = .ok (.getfield 16, 3) := by decide +kernel
theorem dX4_rule_11 : decode cX4_rule 11 = .ok (.getfield 50, 3) := by decide +kernel
theorem dX4_rule_14 : decode cX4_rule 14 = .ok (.iload_n 1, 1) := by decide +kernel
theorem dX4_rule_15 : decode cX4_rule 15 = .ok (.invokevirtual 64, 3) := by decide +kernel
theorem dX4_rule_18 : decode cX4_rule 18 = .ok (.goto 6, 3) := by decide +kernel
theorem dX4_rule_21 : decode cX4_rule 21 = .ok (.sipush (-10000), 3) := by decide +kernel
theorem dX4_rule_24 : decode cX4_rule 24 = .ok (.ireturn, 1) := by decide +kernel
set_option maxRecDepth 20000 in
theorem ggX4_jumper_X4_isTeam : GoodIn wsX4_jumper wsX4_isTeam := goodIn_r _ [7] (by decide +kernel) (by decide +kernel)
set_option maxRecDepth 20000 in
theorem gX4_jumper_X4_isTeam : GoodIn wsX4_jumper (wsV RX4 68 RX4 yX4_isTeam wsX4_isTeam) := goodIn_app (goodIn_of _ (by decide +kernel)) ggX4_jumper_X4_isTeam
theorem dX4_jumper_0 : decode cX4_jumper 0 = .ok (.aload_n 0, 1) := by decide +kernel
theorem dX4_jumper_1 : decode cX4_jumper 1 = .ok (.iload_n 1, 1) := by decide +kernel
theorem dX4_jumper_2 : decode cX4_jumper 2 = .ok (.invokevirtual 68, 3) := by decide +kernel
theorem dX4_jumper_5 : decode cX4_jumper 5 = .ok (.ifCond .eq 19, 3) := by decide +kernel
theorem dX4_jumper_8 : decode cX4_jumper 8 = .ok (.aload_n 0, 1) := by decide +kernel
theorem dX4_jumper_9 : decode cX4_jumper 9 = .ok (.getfield 71, 3) := by decide +kernel
theorem dX4_jumper_12 : decode cX4_jumper 12 = .ok (.ifCond .lt 12, 3) := by decide +kernel
theorem dX4_jumper_15 : decode cX4_jumper 15 = .ok (.aload_n 0, 1) := by decide +kernel
theorem dX4_jumper_16 : decode cX4_jumper 16 = .ok (.getfield 71, 3) := by decide +kernel
theorem dX4_jumper_19 : decode cX4_jumper 19 = .ok (.bipush 24, 2) := by decide +kernel
theorem dX4_jumper_21 : decode cX4_jumper 21 = .ok (.if_icmp .lt 7, 3) := by decide +kernel
theorem dX4_jumper_24 : decode cX4_jumper 24 = .ok (.sipush (-10000), 3) := by decide +kernel
theorem dX4_jumper_27 : decode cX4_jumper 27 = .ok (.ireturn, 1) := by decide +kernel
theorem dX4_jumper_28 : decode cX4_jumper 28 = .ok (.aload_n 0, 1) := by decide +kernel
theorem dX4_jumper_29 : decode cX4_jumper 29 = .ok (.getfield 71, 3) := by decide +kernel
theorem dX4_jumper_32 : decode cX4_jumper 32 = .ok (.istore_n 2, 1) := by decide +kernel
theorem dX4_jumper_33 : decode cX4_jumper 33 = .ok (.aload_n 0, 1) := by decide +kernel
theorem dX4_jumper_34 : decode cX4_jumper 34 = .ok (.getfield 30, 3) := by decide +kernel
theorem dX4_jumper_37 : decode cX4_jumper 37 = .ok (.iload_n 2, 1) := by decide +kernel
theorem dX4_jumper_38 : decode cX4_jumper 38 = .ok (.iload_n 1, 1) := by decide +kernel
theorem dX4_jumper_39 : decode cX4_jumper 39 = .ok (.iastore, 1) := by decide +kernel
theorem dX4_jumper_40 : decode cX4_jumper 40 = .ok (.aload_n 0, 1) := by decide +kernel
theorem dX4_jumper_41 : decode cX4_jumper 41 = .ok (.iload_n 2, 1) := by decide +kernel
theorem dX4_jumper_42 : decode cX4_jumper 42 = .ok (.iconst 1, 1) := by decide +kernel
theorem dX4_jumper_43 : decode cX4_jumper 43 = .ok (.iadd, 1) := by decide +kernel
theorem dX4_jumper_44 : decode cX4_jumper 44 = .ok (.putfield 71, 3) := by decide +kernel
theorem dX4_jumper_47 : decode cX4_jumper 47 = .ok (.iload_n 2, 1) := by decide +kernel
theorem dX4_jumper_48 : decode cX4_jumper 48 = .ok (.ireturn, 1) := by decide +kernel
set_option maxRecDepth 20000 in
theorem ggX4_sensor_X4_isSensor : GoodIn wsX4_sensor wsX4_isSensor := goodIn_r _ [6] (by decide +kernel) (by decide +kernel)
set_option maxRecDepth 20000 in
theorem gX4_sensor_X4_isSensor : GoodIn wsX4_sensor (wsV RX4 74 RX4 yX4_isSensor wsX4_isSensor) := goodIn_app (goodIn_of _ (by decide +kernel)) ggX4_sensor_X4_isSensor
theorem dX4_sensor_0 : decode cX4_sensor 0 = .ok (.aload_n 0, 1) := by decide +kernel
theorem dX4_sensor_1 : decode cX4_sensor 1 = .ok (.iload_n 1, 1) := by decide +kernel
theorem dX4_sensor_2 : decode cX4_sensor 2 = .ok (.invokevirtual 74, 3) := by decide +kernel
theorem dX4_sensor_5 : decode cX4_sensor 5 = .ok (.ifCond .eq 13, 3) := by decide +kernel
theorem dX4_sensor_8 : decode cX4_sensor 8 = .ok (.iload_n 2, 1) := by decide +kernel
theorem dX4_sensor_9 : decode cX4_sensor 9 = .ok (.ifCond .lt 9, 3) := by decide +kernel
theorem dX4_sensor_12 : decode cX4_sensor 12 = .ok (.iload_n 2, 1) := by decide +kernel
theorem dX4_sensor_13 : decode cX4_sensor 13 = .ok (.bipush 9, 2) := by decide +kernel
theorem dX4_sensor_15 : decode cX4_sensor 15 = .ok (.if_icmp .le 5, 3) := by decide +kernel
theorem dX4_sensor_18 : decode cX4_sensor 18 = .ok (.iconst 0, 1) := by decide +kernel
theorem dX4_sensor_19 : decode cX4_sensor 19 = .ok (.ireturn, 1) := by decide +kernel
theorem dX4_sensor_20 : decode cX4_sensor 20 = .ok (.aload_n 0, 1) := by decide +kernel
theorem dX4_sensor_21 : decode cX4_sensor 21 = .ok (.getfield 16, 3) := by decide +kernel
theorem dX4_sensor_24 : decode cX4_sensor 24 = .ok (.getfield 77, 3) := by decide +kernel
theorem dX4_sensor_27 : decode cX4_sensor 27 = .ok (.iload_n 1, 1) := by decide +kernel
theorem dX4_sensor_28 : decode cX4_sensor 28 = .ok (.iload_n 2, 1) := by decide +kernel
theorem dX4_sensor_29 : decode cX4_sensor 29 = .ok (.iastore, 1) := by decide +kernel
theorem dX4_sensor_30 : decode cX4_sensor 30 = .ok (.iconst 1, 1) := by decide +kernel
theorem dX4_sensor_31 : decode cX4_sensor 31 = .ok (.ireturn, 1) := by decide +kernel
set_option maxRecDepth 20000 in
theorem ggX4_base_X4_isGate : GoodIn wsX4_base wsX4_isGate := goodIn_r _ [6] (by decide +kernel) (by decide +kernel)
set_option maxRecDepth 20000 in
theorem gX4_base_X4_isGate : GoodIn wsX4_base (wsV RX4 80 RX4 yX4_isGate wsX4_isGate) := goodIn_app (goodIn_of _ (by decide +kernel)) ggX4_base_X4_isGate
theorem dX4_base_0 : decode cX4_base 0 = .ok (.aload_n 0, 1) := by decide +kernel
theorem dX4_base_1 : decode cX4_base 1 = .ok (.iload_n 1, 1) := by decide +kernel
theorem dX4_base_2 : decode cX4_base 2 = .ok (.invokevirtual 80, 3) := by decide +kernel
theorem dX4_base_5 : decode cX4_base 5 = .ok (.ifCond .ne 5, 3) := by decide +kernel
theorem dX4_base_8 : decode cX4_base 8 = .ok (.iconst 0, 1) := by decide +kernel
theorem dX4_base_9 : decode cX4_base 9 = .ok (.ireturn, 1) := by decide +kernel
theorem dX4_base_10 : decode cX4_base 10 = .ok (.aload_n 0, 1) := by decide +kernel
theorem dX4_base_11 : decode cX4_base 11 = .ok (.getfield 16, 3) := by decide +kernel
theorem dX4_base_14 : decode cX4_base 14 = .ok (.iload_n 1, 1) := by decide +kernel
theorem dX4_base_15 : decode cX4_base 15 = .ok (.putfield 83, 3) := by decide +kernel
theorem dX4_base_18 : decode cX4_base 18 = .ok (.iconst 1, 1) := by decide +kernel
theorem dX4_base_19 : decode cX4_base 19 = .ok (.ireturn, 1) := by decide +kernel
set_option maxRecDepth 20000 in
theorem ggX4_reading_X4_isJumper : GoodIn wsX4_reading wsX4_isJumper := goodIn_r _ [6, 7, 27, 28, 29, 30, 31, 32, 33, 34, 35, 36, 37] (by decide +kernel) (by decide +kernel)
set_option maxRecDepth 20000 in
theorem gX4_reading_X4_isJumper : GoodIn wsX4_reading (wsV RX4 86 RX4 yX4_isJumper wsX4_isJumper) := goodIn_app (goodIn_of _ (by decide +kernel)) ggX4_reading_X4_isJumper
set_option maxRecDepth 20000 in
theorem ggX4_reading_X4_isRound : GoodIn wsX4_reading wsX4_isRound := goodIn_r _ [11] (by decide +kernel) (by decide +kernel)
set_option maxRecDepth 20000 in
theorem gX4_reading_X4_isRound : GoodIn wsX4_reading (wsV RX4 89 RX4 yX4_isRound wsX4_isRound) := goodIn_app (goodIn_of _ (by decide +kernel)) ggX4_reading_X4_isRound
set_option maxRecDepth 20000 in
theorem ggX4_reading_X4_isGate : GoodIn wsX4_reading wsX4_isGate := goodIn_r _ [15] (by decide +kernel) (by decide +kernel)
set_option maxRecDepth 20000 in
theorem gX4_reading_X4_isGate : GoodIn wsX4_reading (wsV RX4 80 RX4 yX4_isGate wsX4_isGate) := goodIn_app (goodIn_of _ (by decide +kernel)) ggX4_reading_X4_isGate
set_option maxRecDepth 20000 in
theorem ggX4_reading_X4_jumpOf : GoodIn wsX4_reading wsX4_jumpOf := goodIn_r _ [18] (by decide +kernel) (by decide +kernel)
set_option maxRecDepth 20000 in
theorem gX4_reading_X4_jumpOf : GoodIn wsX4_reading (va_wsS RX4 98 yX4_jumpOf wsX4_jumpOf) := goodIn_app (goodIn_of _ (by decide +kernel)) ggX4_reading_X4_jumpOf
set_option maxRecDepth 20000 in
theorem ggX4_reading_X1_add : GoodIn wsX4_reading wsX1_add := goodIn_r _ [22, 23, 24, 25, 26, 48, 49, 50, 51] (by decide +kernel) (by decide +kernel)
set_option maxRecDepth 20000 in
theorem gX4_reading_X1_add_n102 : GoodIn wsX4_reading (wsX1_add) := ggX4_reading_X1_add
theorem dX4_reading_0 : decode cX4_reading 0 = .ok (.aload_n 0, 1) := by decide +kernel
theorem dX4_reading_1 : decode cX4_reading 1 = .ok (.iload_n 1, 1) := by decide +kernel
theorem dX4_reading_2 : decode cX4_reading 2 = .ok (.invokevirtual 86, 3) := by decide +kernel
theorem dX4_reading_5 : decode cX4_reading 5 = .ok (.ifCond .eq 31, 3) := by decide +kernel
theorem dX4_reading_8 : decode cX4_reading 8 = .ok (.aload_n 0, 1) := by decide +kernel
theorem dX4_reading_9 : decode cX4_reading 9 = .ok (.iload_n 2, 1) := by decide +kernel
theorem dX4_reading_10 : decode cX4_reading 10 = .ok (.invokevirtual 89, 3) := by decide +kernel
theorem dX4_reading_13 : decode cX4_reading 13 = .ok (.ifCond .eq 23, 3) := by decide +kernel
theorem dX4_reading_16 : decode cX4_reading 16 = .ok (.iload_n 3, 1) := by decide +kernel
theorem dX4_reading_17 : decode cX4_reading 17 = .ok (.ifCond .lt 19, 3) := by decide +kernel
theorem dX4_reading_20 : decode cX4_reading 20 = .ok (.iload_n 3, 1) := by decide +kernel
theorem dX4_reading_21 : decode cX4_reading 21 = .ok (.sipush 600, 3) := by decide +kernel
theorem dX4_reading_24 : decode cX4_reading 24 = .ok (.if_icmp .gt 12, 3) := by decide +kernel
theorem dX4_reading_27 : decode cX4_reading 27 = .ok (.aload_n 0, 1) := by decide +kernel
theorem dX4_reading_28 : decode cX4_reading 28 = .ok (.iload 4, 2) := by decide +kernel
theorem dX4_reading_30 : decode cX4_reading 30 = .ok (.invokevirtual 80, 3) := by decide +kernel
theorem dX4_reading_33 : decode cX4_reading 33 = .ok (.ifCond .ne 7, 3) := by decide +kernel
theorem dX4_reading_36 : decode cX4_reading 36 = .ok (.sipush (-10000), 3) := by decide +kernel
theorem dX4_reading_39 : decode cX4_reading 39 = .ok (.ireturn, 1) := by decide +kernel
theorem dX4_reading_40 : decode cX4_reading 40 = .ok (.aload_n 0, 1) := by decide +kernel
theorem dX4_reading_41 : decode cX4_reading 41 = .ok (.getfield 16, 3) := by decide +kernel
theorem dX4_reading_44 : decode cX4_reading 44 = .ok (.getfield 92, 3) := by decide +kernel
theorem dX4_reading_47 : decode cX4_reading 47 = .ok (.iconst 0, 1) := by decide +kernel
theorem dX4_reading_48 : decode cX4_reading 48 = .ok (.iload_n 1, 1) := by decide +kernel
theorem dX4_reading_49 : decode cX4_reading 49 = .ok (.iload_n 2, 1) := by decide +kernel
theorem dX4_reading_50 : decode cX4_reading 50 = .ok (.invokestatic 98, 3) := by decide +kernel
theorem dX4_reading_53 : decode cX4_reading 53 = .ok (.iload_n 3, 1) := by decide +kernel
theorem dX4_reading_54 : decode cX4_reading 54 = .ok (.iload 4, 2) := by decide +kernel
theorem dX4_reading_56 : decode cX4_reading 56 = .ok (.iload 5, 2) := by decide +kernel
theorem dX4_reading_58 : decode cX4_reading 58 = .ok (.ifCond .eq 7, 3) := by decide +kernel
theorem dX4_reading_61 : decode cX4_reading 61 = .ok (.iconst 1, 1) := by decide +kernel
theorem dX4_reading_62 : decode cX4_reading 62 = .ok (.goto 4, 3) := by decide +kernel
theorem dX4_reading_65 : decode cX4_reading 65 = .ok (.iconst 0, 1) := by decide +kernel
theorem dX4_reading_66 : decode cX4_reading 66 = .ok (.iconst 0, 1) := by decide +kernel
theorem dX4_reading_67 : decode cX4_reading 67 = .ok (.iconst 0, 1) := by decide +kernel
theorem dX4_reading_68 : decode cX4_reading 68 = .ok (.invokevirtual 102, 3) := by decide +kernel
theorem dX4_reading_71 : decode cX4_reading 71 = .ok (.ireturn, 1) := by decide +kernel
set_option maxRecDepth 20000 in
theorem ggX4_wind_X4_isWind : GoodIn wsX4_wind wsX4_isWind := goodIn_r _ [5] (by decide +kernel) (by decide +kernel)
set_option maxRecDepth 20000 in
theorem gX4_wind_X4_isWind : GoodIn wsX4_wind (wsV RX4 106 RX4 yX4_isWind wsX4_isWind) := goodIn_app (goodIn_of _ (by decide +kernel)) ggX4_wind_X4_isWind
set_option maxRecDepth 20000 in
theorem ggX4_wind_X4_addToJump : GoodIn wsX4_wind wsX4_addToJump := goodIn_r _ [9, 10, 11, 12, 13, 4, 14, 15, 16, 17, 18, 19, 20, 21, 22, 23, 24, 25, 26, 27, 28, 29, 30, 31, 32, 33, 34, 35, 36, 37, 38, 39, 40, 41, 42, 43, 44, 45, 46, 47, 48, 49, 50, 51] (by decide +kernel) (by decide +kernel)
set_option maxRecDepth 20000 in
theorem gX4_wind_X4_addToJump : GoodIn wsX4_wind (wsV RX4 109 RX4 yX4_addToJump wsX4_addToJump) := goodIn_app (goodIn_of _ (by decide +kernel)) ggX4_wind_X4_addToJump
theorem dX4_wind_0 : decode cX4_wind 0 = .ok (.aload_n 0, 1) := by decide +kernel
theorem dX4_wind_1 : decode cX4_wind 1 = .ok (.iload_n 2, 1) := by decide +kernel
theorem dX4_wind_2 : decode cX4_wind 2 = .ok (.invokevirtual 106, 3) := by decide +kernel
theorem dX4_wind_5 : decode cX4_wind 5 = .ok (.ifCond .eq 38, 3) := by decide +kernel
theorem dX4_wind_8 : decode cX4_wind 8 = .ok (.aload_n 0, 1) := by decide +kernel
theorem dX4_wind_9 : decode cX4_wind 9 = .ok (.iload_n 3, 1) := by decide +kernel
theorem dX4_wind_10 : decode cX4_wind 10 = .ok (.invokevirtual 106, 3) := by decide +kernel
theorem dX4_wind_13 : decode cX4_wind 13 = .ok (.ifCond .eq 30, 3) := by decide +kernel
theorem dX4_wind_16 : decode cX4_wind 16 = .ok (.aload_n 0, 1) := by decide +kernel
theorem dX4_wind_17 : decode cX4_wind 17 = .ok (.iload 4, 2) := by decide +kernel
theorem dX4_wind_19 : decode cX4_wind 19 = .ok (.invokevirtual 106, 3) := by decide +kernel
theorem dX4_wind_22 : decode cX4_wind 22 = .ok (.ifCond .eq 21, 3) := by decide +kernel
theorem dX4_wind_25 : decode cX4_wind 25 = .ok (.aload_n 0, 1) := by decide +kernel
theorem dX4_wind_26 : decode cX4_wind 26 = .ok (.iload 5, 2) := by decide +kernel
theorem dX4_wind_28 : decode cX4_wind 28 = .ok (.invokevirtual 106, 3) := by decide +kernel
theorem dX4_wind_31 : decode cX4_wind 31 = .ok (.ifCond .eq 12, 3) := by decide +kernel
theorem dX4_wind_34 : decode cX4_wind 34 = .ok (.aload_n 0, 1) := by decide +kernel
theorem dX4_wind_35 : decode cX4_wind 35 = .ok (.iload 6, 2) := by decide +kernel
theorem dX4_wind_37 : decode cX4_wind 37 = .ok (.invokevirtual 106, 3) := by decide +kernel
theorem dX4_wind_40 : decode cX4_wind 40 = .ok (.ifCond .ne 7, 3) := by decide +kernel
theorem dX4_wind_43 : decode cX4_wind 43 = .ok (.sipush (-10000), 3) := by decide +kernel
theorem dX4_wind_46 : decode cX4_wind 46 = .ok (.ireturn, 1) := by decide +kernel
theorem dX4_wind_47 : decode cX4_wind 47 = .ok (.aload_n 0, 1) := by decide +kernel
theorem dX4_wind_48 : decode cX4_wind 48 = .ok (.iconst 1, 1) := by decide +kernel
theorem dX4_wind_49 : decode cX4_wind 49 = .ok (.iload_n 1, 1) := by decide +kernel
theorem dX4_wind_50 : decode cX4_wind 50 = .ok (.iload_n 2, 1) := by decide +kernel
theorem dX4_wind_51 : decode cX4_wind 51 = .ok (.iload_n 3, 1) := by decide +kernel
theorem dX4_wind_52 : decode cX4_wind 52 = .ok (.iload 4, 2) := by decide +kernel
theorem dX4_wind_54 : decode cX4_wind 54 = .ok (.iload 5, 2) := by decide +kernel
theorem dX4_wind_56 : decode cX4_wind 56 = .ok (.iload 6, 2) := by decide +kernel
theorem dX4_wind_58 : decode cX4_wind 58 = .ok (.invokevirtual 109, 3) := by decide +kernel
theorem dX4_wind_61 : decode cX4_wind 61 = .ok (.ireturn, 1) := by decide +kernel
set_option maxRecDepth 20000 in
theorem ggX4_style_X4_isMark : GoodIn wsX4_style wsX4_isMark := goodIn_r _ [5] (by decide +kernel) (by decide +kernel)
set_option maxRecDepth 20000 in
theorem gX4_style_X4_isMark : GoodIn wsX4_style (wsV RX4 112 RX4 yX4_isMark wsX4_isMark) := goodIn_app (goodIn_of _ (by decide +kernel)) ggX4_style_X4_isMark
set_option maxRecDepth 20000 in
theorem ggX4_style_X4_addToJump : GoodIn wsX4_style wsX4_addToJump := goodIn_r _ [9, 10, 11, 12, 13, 4, 14, 15, 16, 17, 18, 19, 20, 21, 22, 23, 24, 25, 26, 27, 28, 29, 30, 31, 32, 33, 34, 35, 36, 37, 38, 39, 40, 41, 42, 43, 44, 45, 46, 47, 48, 49, 50, 51] (by decide +kernel) (by decide +kernel)
set_option maxRecDepth 20000 in
theorem gX4_style_X4_addToJump : GoodIn wsX4_style (wsV RX4 109 RX4 yX4_addToJump wsX4_addToJump) := goodIn_app (goodIn_of _ (by decide +kernel)) ggX4_style_X4_addToJump
theorem dX4_style_0 : decode cX4_style 0 = .ok (.aload_n 0, 1) := by decide +kernel
theorem dX4_style_1 : decode cX4_style 1 = .ok (.iload_n 2, 1) := by decide +kernel
theorem dX4_style_2 : decode cX4_style 2 = .ok (.invokevirtual 112, 3) := by decide +kernel
theorem dX4_style_5 : decode cX4_style 5 = .ok (.ifCond .eq 38, 3) := by decide +kernel
theorem dX4_style_8 : decode cX4_style 8 = .ok (.aload_n 0, 1) := by decide +kernel
theorem dX4_style_9 : decode cX4_style 9 = .ok (.iload_n 3, 1) := by decide +kernel
theorem dX4_style_10 : decode cX4_style 10 = .ok (.invokevirtual 112, 3) := by decide +kernel
theorem dX4_style_13 : decode cX4_style 13 = .ok (.ifCond .eq 30, 3) := by decide +kernel
theorem dX4_style_16 : decode cX4_style 16 = .ok (.aload_n 0, 1) := by decide +kernel
theorem dX4_style_17 : decode cX4_style 17 = .ok (.iload 4, 2) := by decide +kernel
theorem dX4_style_19 : decode cX4_style 19 = .ok (.invokevirtual 112, 3) := by decide +kernel
theorem dX4_style_22 : decode cX4_style 22 = .ok (.ifCond .eq 21, 3) := by decide +kernel
theorem dX4_style_25 : decode cX4_style 25 = .ok (.aload_n 0, 1) := by decide +kernel
theorem dX4_style_26 : decode cX4_style 26 = .ok (.iload 5, 2) := by decide +kernel
theorem dX4_style_28 : decode cX4_style 28 = .ok (.invokevirtual 112, 3) := by decide +kernel
theorem dX4_style_31 : decode cX4_style 31 = .ok (.ifCond .eq 12, 3) := by decide +kernel
theorem dX4_style_34 : decode cX4_style 34 = .ok (.aload_n 0, 1) := by decide +kernel
theorem dX4_style_35 : decode cX4_style 35 = .ok (.iload 6, 2) := by decide +kernel
theorem dX4_style_37 : decode cX4_style 37 = .ok (.invokevirtual 112, 3) := by decide +kernel
theorem dX4_style_40 : decode cX4_style 40 = .ok (.ifCond .ne 7, 3) := by decide +kernel
theorem dX4_style_43 : decode cX4_style 43 = .ok (.sipush (-10000), 3) := by decide +kernel
theorem dX4_style_46 : decode cX4_style 46 = .ok (.ireturn, 1) := by decide +kernel
theorem dX4_style_47 : decode cX4_style 47 = .ok (.aload_n 0, 1) := by decide +kernel
theorem dX4_style_48 : decode cX4_style 48 = .ok (.iconst 2, 1) := by decide +kernel
theorem dX4_style_49 : decode cX4_style 49 = .ok (.iload_n 1, 1) := by decide +kernel
theorem dX4_style_50 : decode cX4_style 50 = .ok (.iload_n 2, 1) := by decide +kernel
theorem dX4_style_51 : decode cX4_style 51 = .ok (.iload_n 3, 1) := by decide +kernel
theorem dX4_style_52 : decode cX4_style 52 = .ok (.iload 4, 2) := by decide +kernel
theorem dX4_style_54 : decode cX4_style 54 = .ok (.iload 5, 2) := by decide +kernel
theorem dX4_style_56 : decode cX4_style 56 = .ok (.iload 6, 2) := by decide +kernel
theorem dX4_style_58 : decode cX4_style 58 = .ok (.invokevirtual 109, 3) := by decide +kernel
theorem dX4_style_61 : decode cX4_style 61 = .ok (.ireturn, 1) := by decide +kernel
set_option maxRecDepth 20000 in
theorem ggX4_strike_X4_isJumper : GoodIn wsX4_strike wsX4_isJumper := goodIn_r _ [6, 7, 43, 44, 45, 46, 47, 48, 49, 50, 51, 52, 53] (by decide +kernel) (by decide +kernel)
set_option maxRecDepth 20000 in
theorem gX4_strike_X4_isJumper : GoodIn wsX4_strike (wsV RX4 86 RX4 yX4_isJumper wsX4_isJumper) := goodIn_app (goodIn_of _ (by decide +kernel)) ggX4_strike_X4_isJumper
set_option maxRecDepth 20000 in
theorem ggX4_strike_X4_isRound : GoodIn wsX4_strike wsX4_isRound := goodIn_r _ [11] (by decide +kernel) (by decide +kernel)
set_option maxRecDepth 20000 in
theorem gX4_strike_X4_isRound : GoodIn wsX4_strike (wsV RX4 89 RX4 yX4_isRound wsX4_isRound) := goodIn_app (goodIn_of _ (by decide +kernel)) ggX4_strike_X4_isRound
set_option maxRecDepth 20000 in
theorem ggX4_strike_X4_jumpOf : GoodIn wsX4_strike wsX4_jumpOf := goodIn_r _ [14] (by decide +kernel) (by decide +kernel)
set_option maxRecDepth 20000 in
theorem gX4_strike_X4_jumpOf : GoodIn wsX4_strike (va_wsS RX4 98 yX4_jumpOf wsX4_jumpOf) := goodIn_app (goodIn_of _ (by decide +kernel)) ggX4_strike_X4_jumpOf
set_option maxRecDepth 20000 in
theorem ggX4_strike_X3_know : GoodIn wsX4_strike wsX3_know := goodIn_r _ [18, 19, 20, 21, 22, 23, 24, 54, 55, 56, 57, 58, 59, 60, 61, 62, 63, 64, 65, 66, 67] (by decide +kernel) (by decide +kernel)
set_option maxRecDepth 20000 in
theorem gX4_strike_X3_know_n118 : GoodIn wsX4_strike (wsX3_know) := ggX4_strike_X3_know
set_option maxRecDepth 20000 in
theorem ggX4_strike_X3_isStruck : GoodIn wsX4_strike wsX3_isStruck := goodIn_r _ [27, 20, 28, 29, 30, 16, 31, 19, 32, 33, 34, 35, 36, 54, 55, 56, 57, 58, 59, 60, 61, 62, 63, 64, 65, 66, 67] (by decide +kernel) (by decide +kernel)
set_option maxRecDepth 20000 in
theorem gX4_strike_X3_isStruck_n121 : GoodIn wsX4_strike (wsX3_isStruck) := ggX4_strike_X3_isStruck
set_option maxRecDepth 20000 in
theorem ggX4_strike_X1_add : GoodIn wsX4_strike wsX1_add := goodIn_r _ [39, 40, 41, 42, 36, 64, 65, 66, 67] (by decide +kernel) (by decide +kernel)
set_option maxRecDepth 20000 in
theorem gX4_strike_X1_add_n102 : GoodIn wsX4_strike (wsX1_add) := ggX4_strike_X1_add
theorem dX4_strike_0 : decode cX4_strike 0 = .ok (.aload_n 0, 1) := by decide +kernel
theorem dX4_strike_1 : decode cX4_strike 1 = .ok (.iload_n 1, 1) := by decide +kernel
theorem dX4_strike_2 : decode cX4_strike 2 = .ok (.invokevirtual 86, 3) := by decide +kernel
theorem dX4_strike_5 : decode cX4_strike 5 = .ok (.ifCond .eq 11, 3) := by decide +kernel
theorem dX4_strike_8 : decode cX4_strike 8 = .ok (.aload_n 0, 1) := by decide +kernel
theorem dX4_strike_9 : decode cX4_strike 9 = .ok (.iload_n 2, 1) := by decide +kernel
theorem dX4_strike_10 : decode cX4_strike 10 = .ok (.invokevirtual 89, 3) := by decide +kernel
theorem dX4_strike_13 : decode cX4_strike 13 = .ok (.ifCond .ne 7, 3) := by decide +kernel
theorem dX4_strike_16 : decode cX4_strike 16 = .ok (.sipush (-10000), 3) := by decide +kernel
theorem dX4_strike_19 : decode cX4_strike 19 = .ok (.ireturn, 1) := by decide +kernel
theorem dX4_strike_20 : decode cX4_strike 20 = .ok (.iload_n 1, 1) := by decide +kernel
theorem dX4_strike_21 : decode cX4_strike 21 = .ok (.iload_n 2, 1) := by decide +kernel
theorem dX4_strike_22 : decode cX4_strike 22 = .ok (.invokestatic 98, 3) := by decide +kernel
theorem dX4_strike_25 : decode cX4_strike 25 = .ok (.istore 4, 2) := by decide +kernel
theorem dX4_strike_27 : decode cX4_strike 27 = .ok (.aload_n 0, 1) := by decide +kernel
theorem dX4_strike_28 : decode cX4_strike 28 = .ok (.getfield 16, 3) := by decide +kernel
theorem dX4_strike_31 : decode cX4_strike 31 = .ok (.aload_n 0, 1) := by decide +kernel
theorem dX4_strike_32 : decode cX4_strike 32 = .ok (.getfield 16, 3) := by decide +kernel
theorem dX4_strike_35 : decode cX4_strike 35 = .ok (.getfield 92, 3) := by decide +kernel
theorem dX4_strike_38 : decode cX4_strike 38 = .ok (.getfield 115, 3) := by decide +kernel
theorem dX4_strike_41 : decode cX4_strike 41 = .ok (.invokevirtual 118, 3) := by decide +kernel
theorem dX4_strike_44 : decode cX4_strike 44 = .ok (.aload_n 0, 1) := by decide +kernel
theorem dX4_strike_45 : decode cX4_strike 45 = .ok (.getfield 16, 3) := by decide +kernel
theorem dX4_strike_48 : decode cX4_strike 48 = .ok (.iload 4, 2) := by decide +kernel
theorem dX4_strike_50 : decode cX4_strike 50 = .ok (.invokevirtual 121, 3) := by decide +kernel
theorem dX4_strike_53 : decode cX4_strike 53 = .ok (.iload_n 3, 1) := by decide +kernel
theorem dX4_strike_54 : decode cX4_strike 54 = .ok (.if_icmp .ne 7, 3) := by decide +kernel
theorem dX4_strike_57 : decode cX4_strike 57 = .ok (.sipush (-10000), 3) := by decide +kernel
theorem dX4_strike_60 : decode cX4_strike 60 = .ok (.ireturn, 1) := by decide +kernel
theorem dX4_strike_61 : decode cX4_strike 61 = .ok (.aload_n 0, 1) := by decide +kernel
theorem dX4_strike_62 : decode cX4_strike 62 = .ok (.getfield 16, 3) := by decide +kernel
theorem dX4_strike_65 : decode cX4_strike 65 = .ok (.getfield 92, 3) := by decide +kernel
theorem dX4_strike_68 : decode cX4_strike 68 = .ok (.iconst 3, 1) := by decide +kernel
theorem dX4_strike_69 : decode cX4_strike 69 = .ok (.iload 4, 2) := by decide +kernel
theorem dX4_strike_71 : decode cX4_strike 71 = .ok (.iload_n 3, 1) := by decide +kernel
theorem dX4_strike_72 : decode cX4_strike 72 = .ok (.ifCond .eq 7, 3) := by decide +kernel
theorem dX4_strike_75 : decode cX4_strike 75 = .ok (.iconst 1, 1) := by decide +kernel
theorem dX4_strike_76 : decode cX4_strike 76 = .ok (.goto 4, 3) := by decide +kernel
theorem dX4_strike_79 : decode cX4_strike 79 = .ok (.iconst 0, 1) := by decide +kernel
theorem dX4_strike_80 : decode cX4_strike 80 = .ok (.iconst 0, 1) := by decide +kernel
theorem dX4_strike_81 : decode cX4_strike 81 = .ok (.iconst 0, 1) := by decide +kernel
theorem dX4_strike_82 : decode cX4_strike 82 = .ok (.iconst 0, 1) := by decide +kernel
theorem dX4_strike_83 : decode cX4_strike 83 = .ok (.iconst 0, 1) := by decide +kernel
theorem dX4_strike_84 : decode cX4_strike 84 = .ok (.invokevirtual 102, 3) := by decide +kernel
theorem dX4_strike_87 : decode cX4_strike 87 = .ok (.ireturn, 1) := by decide +kernel
set_option maxRecDepth 20000 in
theorem ggX4_points_X4_isKnowing : GoodIn wsX4_points wsX4_isKnowing := goodIn_r _ [6, 1, 101, 102, 103, 104, 105, 106, 107, 108, 109, 110, 111, 112, 113, 114, 115, 116, 117, 118, 119, 120, 121, 122, 123, 124, 125] (by decide +kernel) (by decide +kernel)
set_option maxRecDepth 20000 in
theorem gX4_points_X4_isKnowing : GoodIn wsX4_points (wsV RX4 124 RX4 yX4_isKnowing wsX4_isKnowing) := goodIn_app (goodIn_of _ (by decide +kernel)) ggX4_points_X4_isKnowing
set_option maxRecDepth 20000 in
theorem ggX4_points_X4_isJumper : GoodIn wsX4_points wsX4_isJumper := goodIn_r _ [10, 11, 101, 102, 103, 104, 105, 106, 107, 108, 109, 110, 111] (by decide +kernel) (by decide +kernel)
set_option maxRecDepth 20000 in
theorem gX4_points_X4_isJumper : GoodIn wsX4_points (wsV RX4 86 RX4 yX4_isJumper wsX4_isJumper) := goodIn_app (goodIn_of _ (by decide +kernel)) ggX4_points_X4_isJumper
set_option maxRecDepth 20000 in
theorem ggX4_points_X4_isRound : GoodIn wsX4_points wsX4_isRound := goodIn_r _ [15] (by decide +kernel) (by decide +kernel)
set_option maxRecDepth 20000 in
theorem gX4_points_X4_isRound : GoodIn wsX4_points (wsV RX4 89 RX4 yX4_isRound wsX4_isRound) := goodIn_app (goodIn_of _ (by decide +kernel)) ggX4_points_X4_isRound
set_option maxRecDepth 20000 in
theorem ggX4_points_X3_know : GoodIn wsX4_points wsX3_know := goodIn_r _ [19, 20, 21, 22, 23, 24, 25, 112, 113, 114, 115, 116, 117, 118, 119, 120, 121, 122, 123, 124, 125] (by decide +kernel) (by decide +kernel)
set_option maxRecDepth 20000 in
theorem gX4_points_X3_know_n118 : GoodIn wsX4_points (wsX3_know) := ggX4_points_X3_know
set_option maxRecDepth 20000 in
theorem ggX4_points_X4_jumpOf : GoodIn wsX4_points wsX4_jumpOf := goodIn_r _ [28] (by decide +kernel) (by decide +kernel)
set_option maxRecDepth 20000 in
theorem gX4_points_X4_jumpOf : GoodIn wsX4_points (va_wsS RX4 98 yX4_jumpOf wsX4_jumpOf) := goodIn_app (goodIn_of _ (by decide +kernel)) ggX4_points_X4_jumpOf
set_option maxRecDepth 20000 in
theorem ggX4_points_X3_measure : GoodIn wsX4_points wsX3_measure := goodIn_r _ [31, 32, 33, 21, 34, 35, 36, 37, 38, 39, 40, 17, 41, 20, 42, 43, 44, 45, 46, 47, 48, 49, 50, 51, 52, 53, 54, 55, 56, 57, 58, 59, 60, 61, 62, 63, 64, 65, 66, 67, 68, 69, 70, 71, 72, 73, 74, 75, 76, 77, 78, 79, 80, 81, 82, 83, 84, 85, 86, 87, 88, 89, 112, 113, 114, 115, 116, 117, 118, 119, 120, 121, 122, 123, 124, 125, 126, 127] (by decide +kernel) (by decide +kernel)
set_option maxRecDepth 20000 in
theorem gX4_points_X3_measure_n127 : GoodIn wsX4_points (wsX3_measure) := ggX4_points_X3_measure
set_option maxRecDepth 20000 in
theorem ggX4_points_X4_partOfPoints : GoodIn wsX4_points wsX4_partOfPoints := goodIn_r _ [93, 1, 94, 17, 95, 96, 34, 35, 36, 37, 82, 83, 57, 84, 97, 98, 99, 100, 101, 102, 103, 104, 105, 106, 107, 108, 109, 110, 111, 112, 113, 114, 115, 116, 117, 118, 119, 120, 121] (by decide +kernel) (by decide +kernel)
set_option maxRecDepth 20000 in
theorem gX4_points_X4_partOfPoints : GoodIn wsX4_points (wsV RX4 133 RX4 yX4_partOfPoints wsX4_partOfPoints) := goodIn_app (goodIn_of _ (by decide +kernel)) ggX4_points_X4_partOfPoints
theorem dX4_points_0 : decode cX4_points 0 = .ok (.aload_n 0, 1) := by decide +kernel
theorem dX4_points_1 : decode cX4_points 1 = .ok (.iload_n 1, 1) := by decide +kernel
theorem dX4_points_2 : decode cX4_points 2 = .ok (.invokevirtual 124, 3) := by decide +kernel
theorem dX4_points_5 : decode cX4_points 5 = .ok (.ifCond .eq 31, 3) := by decide +kernel
theorem dX4_points_8 : decode cX4_points 8 = .ok (.aload_n 0, 1) := by decide +kernel
theorem dX4_points_9 : decode cX4_points 9 = .ok (.iload_n 2, 1) := by decide +kernel
theorem dX4_points_10 : decode cX4_points 10 = .ok (.invokevirtual 86, 3) := by decide +kernel
theorem dX4_points_13 : decode cX4_points 13 = .ok (.ifCond .eq 23, 3) := by decide +kernel
theorem dX4_points_16 : decode cX4_points 16 = .ok (.aload_n 0, 1) := by decide +kernel
theorem dX4_points_17 : decode cX4_points 17 = .ok (.iload_n 3, 1) := by decide +kernel
theorem dX4_points_18 : decode cX4_points 18 = .ok (.invokevirtual 89, 3) := by decide +kernel
theorem dX4_points_21 : decode cX4_points 21 = .ok (.ifCond .eq 15, 3) := by decide +kernel
theorem dX4_points_24 : decode cX4_points 24 = .ok (.iload 4, 2) := by decide +kernel
theorem dX4_points_26 : decode cX4_points 26 = .ok (.ifCond .lt 10, 3) := by decide +kernel
theorem dX4_points_29 : decode cX4_points 29 = .ok (.iload 4, 2) := by decide +kernel
theorem dX4_points_31 : decode cX4_points 31 = .ok (.bipush 7, 2) := by decide +kernel
theorem dX4_points_33 : decode cX4_points 33 = .ok (.if_icmp .le 7, 3) := by decide +kernel
theorem dX4_points_36 : decode cX4_points 36 = .ok (.sipush (-10000), 3) := by decide +kernel
theorem dX4_points_39 : decode cX4_points 39 = .ok (.ireturn, 1) := by decide +kernel
theorem dX4_points_40 : decode cX4_points 40 = .ok (.aload_n 0, 1) := by decide +kernel
theorem dX4_points_41 : decode cX4_points 41 = .ok (.getfield 16, 3) := by decide +kernel
theorem dX4_points_44 : decode cX4_points 44 = .ok (.iload_n 1, 1) := by decide +kernel
theorem dX4_points_45 : decode cX4_points 45 = .ok (.invokevirtual 118, 3) := by decide +kernel
theorem dX4_points_48 : decode cX4_points 48 = .ok (.aload_n 0, 1) := by decide +kernel
theorem dX4_points_49 : decode cX4_points 49 = .ok (.getfield 16, 3) := by decide +kernel
theorem dX4_points_52 : decode cX4_points 52 = .ok (.iload_n 2, 1) := by decide +kernel
theorem dX4_points_53 : decode cX4_points 53 = .ok (.iload_n 3, 1) := by decide +kernel
theorem dX4_points_54 : decode cX4_points 54 = .ok (.invokestatic 98, 3) := by decide +kernel
theorem dX4_points_57 : decode cX4_points 57 = .ok (.invokevirtual 127, 3) := by decide +kernel
theorem dX4_points_60 : decode cX4_points 60 = .ok (.istore 5, 2) := by decide +kernel
theorem dX4_points_62 : decode cX4_points 62 = .ok (.iload 4, 2) := by decide +kernel
theorem dX4_points_64 : decode cX4_points 64 = .ok (.bipush 7, 2) := by decide +kernel
theorem dX4_points_66 : decode cX4_points 66 = .ok (.if_icmp .ne 11, 3) := by decide +kernel
theorem dX4_points_69 : decode cX4_points 69 = .ok (.aload_n 0, 1) := by decide +kernel
theorem dX4_points_70 : decode cX4_points 70 = .ok (.getfield 16, 3) := by decide +kernel
theorem dX4_points_73 : decode cX4_points 73 = .ok (.getfield 130, 3) := by decide +kernel
theorem dX4_points_76 : decode cX4_points 76 = .ok (.ireturn, 1) := by decide +kernel
theorem dX4_points_77 : decode cX4_points 77 = .ok (.iload 5, 2) := by decide +kernel
theorem dX4_points_79 : decode cX4_points 79 = .ok (.ifCond .eq 12, 3) := by decide +kernel
theorem dX4_points_82 : decode cX4_points 82 = .ok (.aload_n 0, 1) := by decide +kernel
theorem dX4_points_83 : decode cX4_points 83 = .ok (.iload 4, 2) := by decide +kernel
theorem dX4_points_85 : decode cX4_points 85 = .ok (.invokevirtual 133, 3) := by decide +kernel
theorem dX4_points_88 : decode cX4_points 88 = .ok (.goto 6, 3) := by decide +kernel
theorem dX4_points_91 : decode cX4_points 91 = .ok (.sipush (-10000), 3) := by decide +kernel
theorem dX4_points_94 : decode cX4_points 94 = .ok (.ireturn, 1) := by decide +kernel
set_option maxRecDepth 20000 in
theorem ggX4_told_X4_isJumper : GoodIn wsX4_told wsX4_isJumper := goodIn_r _ [10, 5, 125, 126, 127, 128, 129, 130, 131, 132, 133, 134, 135] (by decide +kernel) (by decide +kernel)
set_option maxRecDepth 20000 in
theorem gX4_told_X4_isJumper : GoodIn wsX4_told (wsV RX4 86 RX4 yX4_isJumper wsX4_isJumper) := goodIn_app (goodIn_of _ (by decide +kernel)) ggX4_told_X4_isJumper
set_option maxRecDepth 20000 in
theorem ggX4_told_X4_isKnowing : GoodIn wsX4_told wsX4_isKnowing := goodIn_r _ [14, 4, 125, 126, 127, 128, 129, 130, 131, 132, 133, 134, 135, 136, 137, 138, 139, 140, 141, 142, 143, 144, 145, 146, 147, 148, 149] (by decide +kernel) (by decide +kernel)
set_option maxRecDepth 20000 in
theorem gX4_told_X4_isKnowing : GoodIn wsX4_told (wsV RX4 124 RX4 yX4_isKnowing wsX4_isKnowing) := goodIn_app (goodIn_of _ (by decide +kernel)) ggX4_told_X4_isKnowing
set_option maxRecDepth 20000 in
theorem ggX4_told_X0_draw : GoodIn wsX4_told wsX0_draw := goodIn_r _ [18, 19, 20, 21, 22, 23, 24, 25, 26, 27, 28, 29, 30, 31, 32, 33, 34, 35, 36, 37, 38, 39, 40, 41, 42, 43, 44, 45, 46, 47, 48, 49, 50, 51, 52, 53, 54, 55, 56, 57, 58, 59, 60, 61, 62, 63, 64, 65, 66, 67, 68, 69, 70, 71, 72, 73, 74, 75, 76, 77, 78, 79, 80, 81, 82, 83, 84, 85, 86, 87, 88, 89, 90, 91, 92, 93, 94, 95, 96, 97, 98, 99, 100, 16, 101, 102, 103, 104, 105, 106, 107, 108, 109, 110, 111, 150, 151, 152, 153, 154, 155, 156, 136, 137, 138, 139, 140, 141, 142, 143, 144, 145, 146, 147, 148, 149, 157, 158] (by decide +kernel) (by decide +kernel)
set_option maxRecDepth 20000 in
theorem gX4_told_X0_draw_n136 : GoodIn wsX4_told (wsX0_draw) := ggX4_told_X0_draw
set_option maxRecDepth 20000 in
theorem ggX4_told_X0_isThrough : GoodIn wsX4_told wsX0_isThrough := goodIn_r _ [114, 22, 150, 151, 152, 153, 154, 155, 156] (by decide +kernel) (by decide +kernel)
set_option maxRecDepth 20000 in
theorem gX4_told_X0_isThrough_n140 : GoodIn wsX4_told (wsX0_isThrough) := ggX4_told_X0_isThrough
set_option maxRecDepth 20000 in
theorem ggX4_told_X0_isListed : GoodIn wsX4_told wsX0_isListed := goodIn_r _ [117, 118, 119, 120, 16, 121, 106, 150, 151, 152, 153, 154, 155, 156] (by decide +kernel) (by decide +kernel)
set_option maxRecDepth 20000 in
theorem gX4_told_X0_isListed_n143 : GoodIn wsX4_told (wsX0_isListed) := ggX4_told_X0_isListed
set_option maxRecDepth 20000 in
theorem ggX4_told_X0_totalOf : GoodIn wsX4_told wsX0_totalOf := goodIn_r _ [124, 23, 150, 151, 152, 153, 154, 155, 156] (by decide +kernel) (by decide +kernel)
set_option maxRecDepth 20000 in
theorem gX4_told_X0_totalOf_n146 : GoodIn wsX4_told (wsX0_totalOf) := ggX4_told_X0_totalOf
set_option maxRecDepth 20000 in
theorem ggX4_told_X0_placeOf : GoodIn wsX4_told wsX0_placeOf := goodIn_r _ [121, 106, 150, 151, 152, 153, 154, 155, 156] (by decide +kernel) (by decide +kernel)
set_option maxRecDepth 20000 in
theorem gX4_told_X0_placeOf_n149 : GoodIn wsX4_told (wsX0_placeOf) := ggX4_told_X0_placeOf
theorem dX4_told_0 : decode cX4_told 0 = .ok (.aload_n 0, 1) := by decide +kernel
theorem dX4_told_1 : decode cX4_told 1 = .ok (.iload_n 2, 1) := by decide +kernel
theorem dX4_told_2 : decode cX4_told 2 = .ok (.invokevirtual 86, 3) := by decide +kernel
theorem dX4_told_5 : decode cX4_told 5 = .ok (.ifCond .ne 7, 3) := by decide +kernel
theorem dX4_told_8 : decode cX4_told 8 = .ok (.sipush (-10000), 3) := by decide +kernel
theorem dX4_told_11 : decode cX4_told 11 = .ok (.ireturn, 1) := by decide +kernel
theorem dX4_told_12 : decode cX4_told 12 = .ok (.iload_n 3, 1) := by decide +kernel
theorem dX4_told_13 : decode cX4_told 13 = .ok (.iconst 3, 1) := by decide +kernel
theorem dX4_told_14 : decode cX4_told 14 = .ok (.if_icmp .ne 10, 3) := by decide +kernel
theorem dX4_told_17 : decode cX4_told 17 = .ok (.aload_n 0, 1) := by decide +kernel
theorem dX4_told_18 : decode cX4_told 18 = .ok (.getfield 30, 3) := by decide +kernel
theorem dX4_told_21 : decode cX4_told 21 = .ok (.iload_n 2, 1) := by decide +kernel
theorem dX4_told_22 : decode cX4_told 22 = .ok (.iaload, 1) := by decide +kernel
theorem dX4_told_23 : decode cX4_told 23 = .ok (.ireturn, 1) := by decide +kernel
theorem dX4_told_24 : decode cX4_told 24 = .ok (.iload_n 3, 1) := by decide +kernel
theorem dX4_told_25 : decode cX4_told 25 = .ok (.iconst 4, 1) := by decide +kernel
theorem dX4_told_26 : decode cX4_told 26 = .ok (.if_icmp .ne 10, 3) := by decide +kernel
theorem dX4_told_29 : decode cX4_told 29 = .ok (.aload_n 0, 1) := by decide +kernel
theorem dX4_told_30 : decode cX4_told 30 = .ok (.getfield 33, 3) := by decide +kernel
theorem dX4_told_33 : decode cX4_told 33 = .ok (.iload_n 2, 1) := by decide +kernel
theorem dX4_told_34 : decode cX4_told 34 = .ok (.iaload, 1) := by decide +kernel
theorem dX4_told_35 : decode cX4_told 35 = .ok (.ireturn, 1) := by decide +kernel
theorem dX4_told_36 : decode cX4_told 36 = .ok (.aload_n 0, 1) := by decide +kernel
theorem dX4_told_37 : decode cX4_told 37 = .ok (.iload_n 1, 1) := by decide +kernel
theorem dX4_told_38 : decode cX4_told 38 = .ok (.invokevirtual 124, 3) := by decide +kernel
theorem dX4_told_41 : decode cX4_told 41 = .ok (.ifCond .eq 12, 3) := by decide +kernel
theorem dX4_told_44 : decode cX4_told 44 = .ok (.iload_n 3, 1) := by decide +kernel
theorem dX4_told_45 : decode cX4_told 45 = .ok (.ifCond .lt 8, 3) := by decide +kernel
theorem dX4_told_48 : decode cX4_told 48 = .ok (.iload_n 3, 1) := by decide +kernel
theorem dX4_told_49 : decode cX4_told 49 = .ok (.iconst 2, 1) := by decide +kernel
theorem dX4_told_50 : decode cX4_told 50 = .ok (.if_icmp .le 7, 3) := by decide +kernel
theorem dX4_told_53 : decode cX4_told 53 = .ok (.sipush (-10000), 3) := by decide +kernel
theorem dX4_told_56 : decode cX4_told 56 = .ok (.ireturn, 1) := by decide +kernel
theorem dX4_told_57 : decode cX4_told 57 = .ok (.aload_n 0, 1) := by decide +kernel
theorem dX4_told_58 : decode cX4_told 58 = .ok (.getfield 23, 3) := by decide +kernel
theorem dX4_told_61 : decode cX4_told 61 = .ok (.aload_n 0, 1) := by decide +kernel
theorem dX4_told_62 : decode cX4_told 62 = .ok (.getfield 16, 3) := by decide +kernel
theorem dX4_told_65 : decode cX4_told 65 = .ok (.iload_n 1, 1) := by decide +kernel
theorem dX4_told_66 : decode cX4_told 66 = .ok (.aload_n 0, 1) := by decide +kernel
theorem dX4_told_67 : decode cX4_told 67 = .ok (.getfield 71, 3) := by decide +kernel
theorem dX4_told_70 : decode cX4_told 70 = .ok (.invokevirtual 136, 3) := by decide +kernel
theorem dX4_told_73 : decode cX4_told 73 = .ok (.iload_n 3, 1) := by decide +kernel
theorem dX4_told_74 : decode cX4_told 74 = .ok (.ifCond .ne 20, 3) := by decide +kernel
theorem dX4_told_77 : decode cX4_told 77 = .ok (.aload_n 0, 1) := by decide +kernel
theorem dX4_told_78 : decode cX4_told 78 = .ok (.getfield 23, 3) := by decide +kernel
theorem dX4_told_81 : decode cX4_told 81 = .ok (.iload_n 2, 1) := by decide +kernel
theorem dX4_told_82 : decode cX4_told 82 = .ok (.invokevirtual 140, 3) := by decide +kernel
theorem dX4_told_85 : decode cX4_told 85 = .ok (.ifCond .eq 7, 3) := by decide +kernel
theorem dX4_told_88 : decode cX4_told 88 = .ok (.iconst 1, 1) := by decide +kernel
theorem dX4_told_89 : decode cX4_told 89 = .ok (.goto 4, 3) := by decide +kernel
theorem dX4_told_92 : decode cX4_told 92 = .ok (.iconst 0, 1) := by decide +kernel
theorem dX4_told_93 : decode cX4_told 93 = .ok (.ireturn, 1) := by decide +kernel
theorem dX4_told_94 : decode cX4_told 94 = .ok (.aload_n 0, 1) := by decide +kernel
theorem dX4_told_95 : decode cX4_told 95 = .ok (.getfield 23, 3) := by decide +kernel
theorem dX4_told_98 : decode cX4_told 98 = .ok (.iload_n 2, 1) := by decide +kernel
theorem dX4_told_99 : decode cX4_told 99 = .ok (.invokevirtual 143, 3) := by decide +kernel
theorem dX4_told_102 : decode cX4_told 102 = .ok (.ifCond .ne 7, 3) := by decide +kernel
theorem dX4_told_105 : decode cX4_told 105 = .ok (.sipush (-10000), 3) := by decide +kernel
theorem dX4_told_108 : decode cX4_told 108 = .ok (.ireturn, 1) := by decide +kernel
theorem dX4_told_109 : decode cX4_told 109 = .ok (.iload_n 3, 1) := by decide +kernel
theorem dX4_told_110 : decode cX4_told 110 = .ok (.iconst 1, 1) := by decide +kernel
theorem dX4_told_111 : decode cX4_told 111 = .ok (.if_icmp .ne 14, 3) := by decide +kernel
theorem dX4_told_114 : decode cX4_told 114 = .ok (.aload_n 0, 1) := by decide +kernel
theorem dX4_told_115 : decode cX4_told 115 = .ok (.getfield 23, 3) := by decide +kernel
theorem dX4_told_118 : decode cX4_told 118 = .ok (.iload_n 2, 1) := by decide +kernel
theorem dX4_told_119 : decode cX4_told 119 = .ok (.invokevirtual 146, 3) := by decide +kernel
theorem dX4_told_122 : decode cX4_told 122 = .ok (.goto 11, 3) := by decide +kernel
theorem dX4_told_125 : decode cX4_told 125 = .ok (.aload_n 0, 1) := by decide +kernel
theorem dX4_told_126 : decode cX4_told 126 = .ok (.getfield 23, 3) := by decide +kernel
theorem dX4_told_129 : decode cX4_told 129 = .ok (.iload_n 2, 1) := by decide +kernel
theorem dX4_told_130 : decode cX4_told 130 = .ok (.invokevirtual 149, 3) := by decide +kernel
theorem dX4_told_133 : decode cX4_told 133 = .ok (.ireturn, 1) := by decide +kernel
set_option maxRecDepth 20000 in
theorem ggX4_list_X4_isKnowing : GoodIn wsX4_list wsX4_isKnowing := goodIn_r _ [8, 2, 112, 113, 114, 115, 116, 117, 118, 119, 120, 121, 122, 123, 124, 125, 126, 127, 128, 129, 130, 131, 132, 133, 134, 135, 136] (by decide +kernel) (by decide +kernel)
set_option maxRecDepth 20000 in
theorem gX4_list_X4_isKnowing : GoodIn wsX4_list (wsV RX4 124 RX4 yX4_isKnowing wsX4_isKnowing) := goodIn_app (goodIn_of _ (by decide +kernel)) ggX4_list_X4_isKnowing
set_option maxRecDepth 20000 in
theorem ggX4_list_X0_draw : GoodIn wsX4_list wsX0_draw := goodIn_r _ [12, 13, 14, 15, 16, 17, 18, 19, 20, 21, 22, 23, 24, 25, 26, 27, 28, 29, 30, 31, 32, 33, 34, 35, 36, 37, 38, 39, 40, 41, 42, 43, 44, 45, 46, 47, 48, 49, 50, 51, 52, 53, 54, 55, 56, 57, 58, 59, 60, 61, 62, 63, 64, 65, 66, 67, 68, 69, 70, 71, 72, 73, 74, 75, 76, 77, 78, 79, 80, 81, 82, 83, 84, 85, 86, 87, 88, 89, 90, 91, 92, 93, 94, 10, 95, 96, 97, 98, 99, 100, 101, 102, 103, 104, 105, 137, 138, 139, 140, 141, 142, 143, 123, 124, 125, 126, 127, 128, 129, 130, 131, 132, 133, 134, 135, 136, 144, 145] (by decide +kernel) (by decide +kernel)
set_option maxRecDepth 20000 in
theorem gX4_list_X0_draw_n136 : GoodIn wsX4_list (wsX0_draw) := ggX4_list_X0_draw
set_option maxRecDepth 20000 in
theorem ggX4_list_X0_isPosition : GoodIn wsX4_list wsX0_isPosition := goodIn_r _ [108, 13, 137, 138, 139, 140, 141, 142, 143] (by decide +kernel) (by decide +kernel)
set_option maxRecDepth 20000 in
theorem gX4_list_X0_isPosition_n152 : GoodIn wsX4_list (wsX0_isPosition) := ggX4_list_X0_isPosition
set_option maxRecDepth 20000 in
theorem ggX4_list_X0_jumperAt : GoodIn wsX4_list wsX0_jumperAt := goodIn_r _ [111, 101, 137, 138, 139, 140, 141, 142, 143] (by decide +kernel) (by decide +kernel)
set_option maxRecDepth 20000 in
theorem gX4_list_X0_jumperAt_n155 : GoodIn wsX4_list (wsX0_jumperAt) := ggX4_list_X0_jumperAt
theorem dX4_list_0 : decode cX4_list 0 = .ok (.aload_n 0, 1) := by decide +kernel
theorem dX4_list_1 : decode cX4_list 1 = .ok (.iload_n 1, 1) := by decide +kernel
theorem dX4_list_2 : decode cX4_list 2 = .ok (.invokevirtual 124, 3) := by decide +kernel
theorem dX4_list_5 : decode cX4_list 5 = .ok (.ifCond .ne 7, 3) := by decide +kernel
theorem dX4_list_8 : decode cX4_list 8 = .ok (.sipush (-10000), 3) := by decide +kernel
theorem dX4_list_11 : decode cX4_list 11 = .ok (.ireturn, 1) := by decide +kernel
theorem dX4_list_12 : decode cX4_list 12 = .ok (.aload_n 0, 1) := by decide +kernel
theorem dX4_list_13 : decode cX4_list 13 = .ok (.getfield 23, 3) := by decide +kernel
theorem dX4_list_16 : decode cX4_list 16 = .ok (.aload_n 0, 1) := by decide +kernel
theorem dX4_list_17 : decode cX4_list 17 = .ok (.getfield 16, 3) := by decide +kernel
theorem dX4_list_20 : decode cX4_list 20 = .ok (.iload_n 1, 1) := by decide +kernel
theorem dX4_list_21 : decode cX4_list 21 = .ok (.aload_n 0, 1) := by decide +kernel
theorem dX4_list_22 : decode cX4_list 22 = .ok (.getfield 71, 3) := by decide +kernel
theorem dX4_list_25 : decode cX4_list 25 = .ok (.invokevirtual 136, 3) := by decide +kernel
theorem dX4_list_28 : decode cX4_list 28 = .ok (.aload_n 0, 1) := by decide +kernel
theorem dX4_list_29 : decode cX4_list 29 = .ok (.getfield 23, 3) := by decide +kernel
theorem dX4_list_32 : decode cX4_list 32 = .ok (.iload_n 2, 1) := by decide +kernel
theorem dX4_list_33 : decode cX4_list 33 = .ok (.invokevirtual 152, 3) := by decide +kernel
theorem dX4_list_36 : decode cX4_list 36 = .ok (.ifCond .eq 14, 3) := by decide +kernel
theorem dX4_list_39 : decode cX4_list 39 = .ok (.aload_n 0, 1) := by decide +kernel
theorem dX4_list_40 : decode cX4_list 40 = .ok (.getfield 23, 3) := by decide +kernel
theorem dX4_list_43 : decode cX4_list 43 = .ok (.iload_n 2, 1) := by decide +kernel
theorem dX4_list_44 : decode cX4_list 44 = .ok (.invokevirtual 155, 3) := by decide +kernel
theorem dX4_list_47 : decode cX4_list 47 = .ok (.goto 6, 3) := by decide +kernel
theorem dX4_list_50 : decode cX4_list 50 = .ok (.sipush (-10000), 3) := by decide +kernel
theorem dX4_list_53 : decode cX4_list 53 = .ok (.ireturn, 1) := by decide +kernel
set_option maxRecDepth 20000 in
theorem ggX4_start_X4_isKnowing : GoodIn wsX4_start wsX4_isKnowing := goodIn_r _ [8, 2, 121, 122, 123, 124, 125, 126, 127, 128, 129, 130, 131, 132, 133, 134, 135, 136, 137, 138, 139, 140, 141, 142, 143, 144, 145] (by decide +kernel) (by decide +kernel)
set_option maxRecDepth 20000 in
theorem gX4_start_X4_isKnowing : GoodIn wsX4_start (wsV RX4 124 RX4 yX4_isKnowing wsX4_isKnowing) := goodIn_app (goodIn_of _ (by decide +kernel)) ggX4_start_X4_isKnowing
set_option maxRecDepth 20000 in
theorem ggX4_start_X4_isRound : GoodIn wsX4_start wsX4_isRound := goodIn_r _ [12] (by decide +kernel) (by decide +kernel)
set_option maxRecDepth 20000 in
theorem gX4_start_X4_isRound : GoodIn wsX4_start (wsV RX4 89 RX4 yX4_isRound wsX4_isRound) := goodIn_app (goodIn_of _ (by decide +kernel)) ggX4_start_X4_isRound
set_option maxRecDepth 20000 in
theorem ggX4_start_X4_isJumper : GoodIn wsX4_start wsX4_isJumper := goodIn_r _ [16, 3, 121, 122, 123, 124, 125, 126, 127, 128, 129, 130, 131] (by decide +kernel) (by decide +kernel)
set_option maxRecDepth 20000 in
theorem gX4_start_X4_isJumper : GoodIn wsX4_start (wsV RX4 86 RX4 yX4_isJumper wsX4_isJumper) := goodIn_app (goodIn_of _ (by decide +kernel)) ggX4_start_X4_isJumper
set_option maxRecDepth 20000 in
theorem ggX4_start_X0_draw : GoodIn wsX4_start wsX0_draw := goodIn_r _ [20, 21, 22, 23, 24, 25, 26, 27, 28, 29, 30, 31, 32, 33, 34, 35, 36, 37, 38, 39, 40, 41, 42, 43, 44, 45, 46, 47, 48, 49, 50, 51, 52, 53, 54, 55, 56, 57, 58, 59, 60, 61, 62, 63, 64, 65, 66, 67, 68, 69, 70, 71, 72, 73, 74, 75, 76, 77, 78, 79, 80, 81, 82, 83, 84, 85, 86, 87, 88, 89, 90, 91, 92, 93, 94, 95, 96, 97, 98, 99, 100, 101, 102, 18, 103, 104, 105, 106, 107, 108, 109, 110, 111, 112, 113, 146, 147, 148, 149, 150, 151, 152, 132, 133, 134, 135, 136, 137, 138, 139, 140, 141, 142, 143, 144, 145, 153, 154] (by decide +kernel) (by decide +kernel)
set_option maxRecDepth 20000 in
theorem gX4_start_X0_draw_n136 : GoodIn wsX4_start (wsX0_draw) := ggX4_start_X0_draw
set_option maxRecDepth 20000 in
theorem ggX4_start_X0_starterAt : GoodIn wsX4_start wsX0_starterAt := goodIn_r _ [116, 24, 117, 118, 119, 18, 120, 23, 146, 147, 148, 149, 150, 151, 152] (by decide +kernel) (by decide +kernel)
set_option maxRecDepth 20000 in
theorem gX4_start_X0_starterAt_n158 : GoodIn wsX4_start (wsX0_starterAt) := ggX4_start_X0_starterAt
theorem dX4_start_0 : decode cX4_start 0 = .ok (.aload_n 0, 1) := by decide +kernel
theorem dX4_start_1 : decode cX4_start 1 = .ok (.iload_n 1, 1) := by decide +kernel
theorem dX4_start_2 : decode cX4_start 2 = .ok (.invokevirtual 124, 3) := by decide +kernel
theorem dX4_start_5 : decode cX4_start 5 = .ok (.ifCond .eq 11, 3) := by decide +kernel
theorem dX4_start_8 : decode cX4_start 8 = .ok (.aload_n 0, 1) := by decide +kernel
theorem dX4_start_9 : decode cX4_start 9 = .ok (.iload_n 2, 1) := by decide +kernel
theorem dX4_start_10 : decode cX4_start 10 = .ok (.invokevirtual 89, 3) := by decide +kernel
theorem dX4_start_13 : decode cX4_start 13 = .ok (.ifCond .ne 7, 3) := by decide +kernel
theorem dX4_start_16 : decode cX4_start 16 = .ok (.sipush (-10000), 3) := by decide +kernel
theorem dX4_start_19 : decode cX4_start 19 = .ok (.ireturn, 1) := by decide +kernel
theorem dX4_start_20 : decode cX4_start 20 = .ok (.iload_n 2, 1) := by decide +kernel
theorem dX4_start_21 : decode cX4_start 21 = .ok (.ifCond .ne 19, 3) := by decide +kernel
theorem dX4_start_24 : decode cX4_start 24 = .ok (.aload_n 0, 1) := by decide +kernel
theorem dX4_start_25 : decode cX4_start 25 = .ok (.iload_n 3, 1) := by decide +kernel
theorem dX4_start_26 : decode cX4_start 26 = .ok (.invokevirtual 86, 3) := by decide +kernel
theorem dX4_start_29 : decode cX4_start 29 = .ok (.ifCond .eq 7, 3) := by decide +kernel
theorem dX4_start_32 : decode cX4_start 32 = .ok (.iload_n 3, 1) := by decide +kernel
theorem dX4_start_33 : decode cX4_start 33 = .ok (.goto 6, 3) := by decide +kernel
theorem dX4_start_36 : decode cX4_start 36 = .ok (.sipush (-10000), 3) := by decide +kernel
theorem dX4_start_39 : decode cX4_start 39 = .ok (.ireturn, 1) := by decide +kernel
theorem dX4_start_40 : decode cX4_start 40 = .ok (.aload_n 0, 1) := by decide +kernel
theorem dX4_start_41 : decode cX4_start 41 = .ok (.getfield 23, 3) := by decide +kernel
theorem dX4_start_44 : decode cX4_start 44 = .ok (.aload_n 0, 1) := by decide +kernel
theorem dX4_start_45 : decode cX4_start 45 = .ok (.getfield 16, 3) := by decide +kernel
theorem dX4_start_48 : decode cX4_start 48 = .ok (.iload_n 1, 1) := by decide +kernel
theorem dX4_start_49 : decode cX4_start 49 = .ok (.aload_n 0, 1) := by decide +kernel
theorem dX4_start_50 : decode cX4_start 50 = .ok (.getfield 71, 3) := by decide +kernel
theorem dX4_start_53 : decode cX4_start 53 = .ok (.invokevirtual 136, 3) := by decide +kernel
theorem dX4_start_56 : decode cX4_start 56 = .ok (.aload_n 0, 1) := by decide +kernel
theorem dX4_start_57 : decode cX4_start 57 = .ok (.getfield 23, 3) := by decide +kernel
theorem dX4_start_60 : decode cX4_start 60 = .ok (.iload_n 3, 1) := by decide +kernel
theorem dX4_start_61 : decode cX4_start 61 = .ok (.invokevirtual 158, 3) := by decide +kernel
theorem dX4_start_64 : decode cX4_start 64 = .ok (.ireturn, 1) := by decide +kernel
set_option maxRecDepth 20000 in
theorem ggX4_team_X4_isKnowing : GoodIn wsX4_team wsX4_isKnowing := goodIn_r _ [8, 2, 125, 126, 127, 128, 129, 130, 131, 132, 133, 134, 135, 136, 137, 138, 139, 140, 141, 142, 143, 144, 145, 146, 147, 148, 149] (by decide +kernel) (by decide +kernel)
set_option maxRecDepth 20000 in
theorem gX4_team_X4_isKnowing : GoodIn wsX4_team (wsV RX4 124 RX4 yX4_isKnowing wsX4_isKnowing) := goodIn_app (goodIn_of _ (by decide +kernel)) ggX4_team_X4_isKnowing
set_option maxRecDepth 20000 in
theorem ggX4_team_X4_isTeam : GoodIn wsX4_team wsX4_isTeam := goodIn_r _ [12] (by decide +kernel) (by decide +kernel)
set_option maxRecDepth 20000 in
theorem gX4_team_X4_isTeam : GoodIn wsX4_team (wsV RX4 68 RX4 yX4_isTeam wsX4_isTeam) := goodIn_app (goodIn_of _ (by decide +kernel)) ggX4_team_X4_isTeam
set_option maxRecDepth 20000 in
theorem ggX4_team_X0_draw : GoodIn wsX4_team wsX0_draw := goodIn_r _ [16, 17, 18, 19, 20, 21, 22, 23, 24, 25, 26, 27, 28, 29, 30, 31, 32, 33, 34, 35, 36, 37, 38, 39, 40, 41, 42, 43, 44, 45, 46, 47, 48, 49, 50, 51, 52, 53, 54, 55, 56, 57, 58, 59, 60, 61, 62, 63, 64, 65, 66, 67, 68, 69, 70, 71, 72, 73, 74, 75, 76, 77, 78, 79, 80, 81, 82, 83, 84, 85, 86, 87, 88, 89, 90, 91, 92, 93, 94, 95, 96, 97, 98, 14, 99, 100, 101, 102, 103, 104, 105, 106, 107, 108, 109, 150, 151, 152, 153, 154, 155, 156, 136, 137, 138, 139, 140, 141, 142, 143, 144, 145, 146, 147, 148, 149, 157, 158] (by decide +kernel) (by decide +kernel)
set_option maxRecDepth 20000 in
theorem gX4_team_X0_draw_n136 : GoodIn wsX4_team (wsX0_draw) := ggX4_team_X0_draw
set_option maxRecDepth 20000 in
theorem ggX4_team_X4_teamTotal : GoodIn wsX4_team wsX4_teamTotal := goodIn_r _ [113, 1, 114, 115, 14, 116, 117, 105, 118, 119, 120, 7, 121, 3, 122, 123, 124, 21, 125, 126, 127, 128, 129, 130, 131, 132, 133, 134, 135, 150, 151, 152, 153, 154, 155, 156] (by decide +kernel) (by decide +kernel)
set_option maxRecDepth 20000 in
theorem gX4_team_X4_teamTotal : GoodIn wsX4_team (wsV RX4 161 RX4 yX4_teamTotal wsX4_teamTotal) := goodIn_app (goodIn_of _ (by decide +kernel)) ggX4_team_X4_teamTotal
theorem dX4_team_0 : decode cX4_team 0 = .ok (.aload_n 0, 1) := by decide +kernel
theorem dX4_team_1 : decode cX4_team 1 = .ok (.iload_n 1, 1) := by decide +kernel
theorem dX4_team_2 : decode cX4_team 2 = .ok (.invokevirtual 124, 3) := by decide +kernel
theorem dX4_team_5 : decode cX4_team 5 = .ok (.ifCond .eq 11, 3) := by decide +kernel
theorem dX4_team_8 : decode cX4_team 8 = .ok (.aload_n 0, 1) := by decide +kernel
theorem dX4_team_9 : decode cX4_team 9 = .ok (.iload_n 2, 1) := by decide +kernel
theorem dX4_team_10 : decode cX4_team 10 = .ok (.invokevirtual 68, 3) := by decide +kernel
theorem dX4_team_13 : decode cX4_team 13 = .ok (.ifCond .ne 7, 3) := by decide +kernel
theorem dX4_team_16 : decode cX4_team 16 = .ok (.sipush (-10000), 3) := by decide +kernel
theorem dX4_team_19 : decode cX4_team 19 = .ok (.ireturn, 1) := by decide +kernel
theorem dX4_team_20 : decode cX4_team 20 = .ok (.aload_n 0, 1) := by decide +kernel
theorem dX4_team_21 : decode cX4_team 21 = .ok (.getfield 23, 3) := by decide +kernel
theorem dX4_team_24 : decode cX4_team 24 = .ok (.aload_n 0, 1) := by decide +kernel
theorem dX4_team_25 : decode cX4_team 25 = .ok (.getfield 16, 3) := by decide +kernel
theorem dX4_team_28 : decode cX4_team 28 = .ok (.iload_n 1, 1) := by decide +kernel
theorem dX4_team_29 : decode cX4_team 29 = .ok (.aload_n 0, 1) := by decide +kernel
theorem dX4_team_30 : decode cX4_team 30 = .ok (.getfield 71, 3) := by decide +kernel
theorem dX4_team_33 : decode cX4_team 33 = .ok (.invokevirtual 136, 3) := by decide +kernel
theorem dX4_team_36 : decode cX4_team 36 = .ok (.aload_n 0, 1) := by decide +kernel
theorem dX4_team_37 : decode cX4_team 37 = .ok (.iload_n 2, 1) := by decide +kernel
theorem dX4_team_38 : decode cX4_team 38 = .ok (.invokevirtual 161, 3) := by decide +kernel
theorem dX4_team_41 : decode cX4_team 41 = .ok (.ireturn, 1) := by decide +kernel
set_option maxRecDepth 20000 in
theorem ggX4_record_X4_recordJump : GoodIn wsX4_record wsX4_recordJump := goodIn_r _ [8, 1, 2, 9, 10, 11, 12, 13, 14, 15, 16, 17, 18, 19, 20, 21, 22, 23, 24, 25, 26, 27, 28, 29, 30, 31, 32, 33, 34, 35, 36, 37, 38, 39, 40, 41, 42, 43, 44, 45, 49, 50, 51, 52, 53, 54, 55, 56, 57, 58, 59, 60, 61, 62, 63, 64, 65, 66, 67, 68, 69, 70, 71, 72, 73] (by decide +kernel) (by decide +kernel)
set_option maxRecDepth 20000 in
theorem gX4_record_X4_recordJump : GoodIn wsX4_record (wsV RX4 164 RX4 yX4_recordJump wsX4_recordJump) := goodIn_app (goodIn_of _ (by decide +kernel)) ggX4_record_X4_recordJump
set_option maxRecDepth 20000 in
theorem ggX4_record_X3_lengthOf : GoodIn wsX4_record wsX3_lengthOf := goodIn_r _ [41, 14, 22, 23, 24, 10, 25, 13, 34, 35, 36, 37, 38, 60, 61, 62, 63, 64, 65, 66, 67, 68, 69, 70, 71, 72, 73] (by decide +kernel) (by decide +kernel)
set_option maxRecDepth 20000 in
theorem gX4_record_X3_lengthOf_n168 : GoodIn wsX4_record (wsX3_lengthOf) := ggX4_record_X3_lengthOf
set_option maxRecDepth 20000 in
theorem ggX4_record_X4_jumperOf : GoodIn wsX4_record wsX4_jumperOf := goodIn_r _ [48] (by decide +kernel) (by decide +kernel)
set_option maxRecDepth 20000 in
theorem gX4_record_X4_jumperOf : GoodIn wsX4_record (va_wsS RX4 171 yX4_jumperOf wsX4_jumperOf) := goodIn_app (goodIn_of _ (by decide +kernel)) ggX4_record_X4_jumperOf
theorem dX4_record_0 : decode cX4_record 0 = .ok (.iload_n 1, 1) := by decide +kernel
theorem dX4_record_1 : decode cX4_record 1 = .ok (.ifCond .eq 12, 3) := by decide +kernel
theorem dX4_record_4 : decode cX4_record 4 = .ok (.iload_n 1, 1) := by decide +kernel
theorem dX4_record_5 : decode cX4_record 5 = .ok (.iconst 1, 1) := by decide +kernel
theorem dX4_record_6 : decode cX4_record 6 = .ok (.if_icmp .eq 7, 3) := by decide +kernel
theorem dX4_record_9 : decode cX4_record 9 = .ok (.sipush (-10000), 3) := by decide +kernel
theorem dX4_record_12 : decode cX4_record 12 = .ok (.ireturn, 1) := by decide +kernel
theorem dX4_record_13 : decode cX4_record 13 = .ok (.aload_n 0, 1) := by decide +kernel
theorem dX4_record_14 : decode cX4_record 14 = .ok (.invokevirtual 164, 3) := by decide +kernel
theorem dX4_record_17 : decode cX4_record 17 = .ok (.istore_n 2, 1) := by decide +kernel
theorem dX4_record_18 : decode cX4_record 18 = .ok (.iload_n 2, 1) := by decide +kernel
theorem dX4_record_19 : decode cX4_record 19 = .ok (.ifCond .lt 23, 3) := by decide +kernel
theorem dX4_record_22 : decode cX4_record 22 = .ok (.iload_n 1, 1) := by decide +kernel
theorem dX4_record_23 : decode cX4_record 23 = .ok (.ifCond .ne 14, 3) := by decide +kernel
theorem dX4_record_26 : decode cX4_record 26 = .ok (.aload_n 0, 1) := by decide +kernel
theorem dX4_record_27 : decode cX4_record 27 = .ok (.getfield 16, 3) := by decide +kernel
theorem dX4_record_30 : decode cX4_record 30 = .ok (.iload_n 2, 1) := by decide +kernel
theorem dX4_record_31 : decode cX4_record 31 = .ok (.invokevirtual 168, 3) := by decide +kernel
theorem dX4_record_34 : decode cX4_record 34 = .ok (.goto 7, 3) := by decide +kernel
theorem dX4_record_37 : decode cX4_record 37 = .ok (.iload_n 2, 1) := by decide +kernel
theorem dX4_record_38 : decode cX4_record 38 = .ok (.invokestatic 171, 3) := by decide +kernel
theorem dX4_record_41 : decode cX4_record 41 = .ok (.ireturn, 1) := by decide +kernel
theorem dX4_record_42 : decode cX4_record 42 = .ok (.aload_n 0, 1) := by decide +kernel
theorem dX4_record_43 : decode cX4_record 43 = .ok (.getfield 36, 3) := by decide +kernel
theorem dX4_record_46 : decode cX4_record 46 = .ok (.ifCond .ge 7, 3) := by decide +kernel
theorem dX4_record_49 : decode cX4_record 49 = .ok (.sipush (-10000), 3) := by decide +kernel
theorem dX4_record_52 : decode cX4_record 52 = .ok (.ireturn, 1) := by decide +kernel
theorem dX4_record_53 : decode cX4_record 53 = .ok (.iload_n 1, 1) := by decide +kernel
theorem dX4_record_54 : decode cX4_record 54 = .ok (.ifCond .ne 10, 3) := by decide +kernel
theorem dX4_record_57 : decode cX4_record 57 = .ok (.aload_n 0, 1) := by decide +kernel
theorem dX4_record_58 : decode cX4_record 58 = .ok (.getfield 36, 3) := by decide +kernel
theorem dX4_record_61 : decode cX4_record 61 = .ok (.goto 7, 3) := by decide +kernel
theorem dX4_record_64 : decode cX4_record 64 = .ok (.aload_n 0, 1) := by decide +kernel
theorem dX4_record_65 : decode cX4_record 65 = .ok (.getfield 40, 3) := by decide +kernel
theorem dX4_record_68 : decode cX4_record 68 = .ok (.ireturn, 1) := by decide +kernel
set_option maxRecDepth 20000 in
theorem ggX4_differ_X4_isKnowing : GoodIn wsX4_differ wsX4_isKnowing := goodIn_r _ [9, 2, 110, 111, 112, 113, 114, 115, 116, 117, 118, 119, 120, 121, 122, 123, 124, 125, 126, 127, 128, 129, 130, 131, 132, 133, 134] (by decide +kernel) (by decide +kernel)
set_option maxRecDepth 20000 in
theorem gX4_differ_X4_isKnowing : GoodIn wsX4_differ (wsV RX4 124 RX4 yX4_isKnowing wsX4_isKnowing) := goodIn_app (goodIn_of _ (by decide +kernel)) ggX4_differ_X4_isKnowing
set_option maxRecDepth 20000 in
theorem ggX4_differ_X0_draw : GoodIn wsX4_differ wsX0_draw := goodIn_r _ [13, 14, 15, 16, 17, 18, 19, 20, 21, 22, 23, 24, 25, 26, 27, 28, 29, 30, 31, 32, 33, 34, 35, 36, 37, 38, 39, 40, 41, 42, 43, 44, 45, 46, 47, 48, 49, 50, 51, 52, 53, 54, 55, 56, 57, 58, 59, 60, 61, 62, 63, 64, 65, 66, 67, 68, 69, 70, 71, 72, 73, 74, 75, 76, 77, 78, 79, 80, 81, 82, 83, 84, 85, 86, 87, 88, 89, 90, 91, 92, 93, 94, 95, 11, 96, 97, 98, 99, 100, 101, 102, 103, 104, 105, 106, 135, 136, 137, 138, 139, 140, 141, 121, 122, 123, 124, 125, 126, 127, 128, 129, 130, 131, 132, 133, 134, 142, 143] (by decide +kernel) (by decide +kernel)
set_option maxRecDepth 20000 in
theorem gX4_differ_X0_draw_n136 : GoodIn wsX4_differ (wsX0_draw) := ggX4_differ_X0_draw
set_option maxRecDepth 20000 in
theorem ggX4_differ_X0_placeOf : GoodIn wsX4_differ wsX0_placeOf := goodIn_r _ [109, 101, 135, 136, 137, 138, 139, 140, 141] (by decide +kernel) (by decide +kernel)
set_option maxRecDepth 20000 in
theorem gX4_differ_X0_placeOf_n149 : GoodIn wsX4_differ (wsX0_placeOf) := ggX4_differ_X0_placeOf
theorem dX4_differ_0 : decode cX4_differ 0 = .ok (.aload_n 0, 1) := by decide +kernel
theorem dX4_differ_1 : decode cX4_differ 1 = .ok (.iload_n 1, 1) := by decide +kernel
theorem dX4_differ_2 : decode cX4_differ 2 = .ok (.invokevirtual 124, 3) := by decide +kernel
theorem dX4_differ_5 : decode cX4_differ 5 = .ok (.ifCond .eq 15, 3) := by decide +kernel
theorem dX4_differ_8 : decode cX4_differ 8 = .ok (.aload_n 0, 1) := by decide +kernel
theorem dX4_differ_9 : decode cX4_differ 9 = .ok (.iload_n 2, 1) := by decide +kernel
theorem dX4_differ_10 : decode cX4_differ 10 = .ok (.invokevirtual 124, 3) := by decide +kernel
theorem dX4_differ_13 : decode cX4_differ 13 = .ok (.ifCond .eq 7, 3) := by decide +kernel
theorem dX4_differ_16 : decode cX4_differ 16 = .ok (.iload_n 3, 1) := by decide +kernel
theorem dX4_differ_17 : decode cX4_differ 17 = .ok (.ifCond .ge 7, 3) := by decide +kernel
theorem dX4_differ_20 : decode cX4_differ 20 = .ok (.sipush (-10000), 3) := by decide +kernel
theorem dX4_differ_23 : decode cX4_differ 23 = .ok (.ireturn, 1) := by decide +kernel
theorem dX4_differ_24 : decode cX4_differ 24 = .ok (.aload_n 0, 1) := by decide +kernel
theorem dX4_differ_25 : decode cX4_differ 25 = .ok (.getfield 23, 3) := by decide +kernel
theorem dX4_differ_28 : decode cX4_differ 28 = .ok (.aload_n 0, 1) := by decide +kernel
theorem dX4_differ_29 : decode cX4_differ 29 = .ok (.getfield 16, 3) := by decide +kernel
theorem dX4_differ_32 : decode cX4_differ 32 = .ok (.iload_n 1, 1) := by decide +kernel
theorem dX4_differ_33 : decode cX4_differ 33 = .ok (.aload_n 0, 1) := by decide +kernel
theorem dX4_differ_34 : decode cX4_differ 34 = .ok (.getfield 71, 3) := by decide +kernel
theorem dX4_differ_37 : decode cX4_differ 37 = .ok (.invokevirtual 136, 3) := by decide +kernel
theorem dX4_differ_40 : decode cX4_differ 40 = .ok (.aload_n 0, 1) := by decide +kernel
theorem dX4_differ_41 : decode cX4_differ 41 = .ok (.getfield 27, 3) := by decide +kernel
theorem dX4_differ_44 : decode cX4_differ 44 = .ok (.aload_n 0, 1) := by decide +kernel
theorem dX4_differ_45 : decode cX4_differ 45 = .ok (.getfield 16, 3) := by decide +kernel
theorem dX4_differ_48 : decode cX4_differ 48 = .ok (.iload_n 2, 1) := by decide +kernel
theorem dX4_differ_49 : decode cX4_differ 49 = .ok (.aload_n 0, 1) := by decide +kernel
theorem dX4_differ_50 : decode cX4_differ 50 = .ok (.getfield 71, 3) := by decide +kernel
theorem dX4_differ_53 : decode cX4_differ 53 = .ok (.invokevirtual 136, 3) := by decide +kernel
theorem dX4_differ_56 : decode cX4_differ 56 = .ok (.iconst 0, 1) := by decide +kernel
theorem dX4_differ_57 : decode cX4_differ 57 = .ok (.istore 4, 2) := by decide +kernel
theorem dX4_differ_59 : decode cX4_differ 59 = .ok (.iconst 0, 1) := by decide +kernel
theorem dX4_differ_60 : decode cX4_differ 60 = .ok (.istore 5, 2) := by decide +kernel
theorem dX4_differ_62 : decode cX4_differ 62 = .ok (.iload 5, 2) := by decide +kernel
theorem dX4_differ_64 : decode cX4_differ 64 = .ok (.aload_n 0, 1) := by decide +kernel
theorem dX4_differ_65 : decode cX4_differ 65 = .ok (.getfield 71, 3) := by decide +kernel
theorem dX4_differ_68 : decode cX4_differ 68 = .ok (.if_icmp .ge 42, 3) := by decide +kernel
theorem dX4_differ_71 : decode cX4_differ 71 = .ok (.aload_n 0, 1) := by decide +kernel
theorem dX4_differ_72 : decode cX4_differ 72 = .ok (.getfield 23, 3) := by decide +kernel
theorem dX4_differ_75 : decode cX4_differ 75 = .ok (.iload 5, 2) := by decide +kernel
theorem dX4_differ_77 : decode cX4_differ 77 = .ok (.invokevirtual 149, 3) := by decide +kernel
theorem dX4_differ_80 : decode cX4_differ 80 = .ok (.aload_n 0, 1) := by decide +kernel
theorem dX4_differ_81 : decode cX4_differ 81 = .ok (.getfield 27, 3) := by decide +kernel
theorem dX4_differ_84 : decode cX4_differ 84 = .ok (.iload 5, 2) := by decide +kernel
theorem dX4_differ_86 : decode cX4_differ 86 = .ok (.invokevirtual 149, 3) := by decide +kernel
theorem dX4_differ_89 : decode cX4_differ 89 = .ok (.if_icmp .eq 15, 3) := by decide +kernel
theorem dX4_differ_92 : decode cX4_differ 92 = .ok (.iload 4, 2) := by decide +kernel
theorem dX4_differ_94 : decode cX4_differ 94 = .ok (.iload_n 3, 1) := by decide +kernel
theorem dX4_differ_95 : decode cX4_differ 95 = .ok (.if_icmp .ne 6, 3) := by decide +kernel
theorem dX4_differ_98 : decode cX4_differ 98 = .ok (.iload 5, 2) := by decide +kernel
theorem dX4_differ_100 : decode cX4_differ 100 = .ok (.ireturn, 1) := by decide +kernel
theorem dX4_differ_101 : decode cX4_differ 101 = .ok (.iinc 4 1, 3) := by decide +kernel
theorem dX4_differ_104 : decode cX4_differ 104 = .ok (.iinc 5 1, 3) := by decide +kernel
theorem dX4_differ_107 : decode cX4_differ 107 = .ok (.goto (-45), 3) := by decide +kernel
theorem dX4_differ_110 : decode cX4_differ 110 = .ok (.sipush (-10000), 3) := by decide +kernel
theorem dX4_differ_113 : decode cX4_differ 113 = .ok (.ireturn, 1) := by decide +kernel
set_option maxRecDepth 20000 in
theorem ggX4_close_X0_draw : GoodIn wsX4_close wsX0_draw := goodIn_r _ [9, 10, 11, 12, 13, 14, 15, 16, 17, 18, 19, 20, 21, 22, 23, 24, 25, 26, 27, 28, 29, 30, 31, 32, 33, 34, 35, 36, 37, 38, 39, 40, 41, 42, 43, 44, 45, 46, 47, 48, 49, 50, 51, 52, 53, 54, 55, 56, 57, 58, 59, 60, 61, 62, 63, 64, 65, 66, 67, 68, 69, 70, 71, 72, 73, 74, 75, 76, 77, 78, 79, 80, 81, 82, 83, 84, 85, 86, 87, 88, 89, 90, 91, 7, 92, 93, 94, 95, 96, 97, 98, 99, 100, 101, 102, 159, 160, 161, 162, 163, 164, 165, 145, 146, 147, 148, 149, 150, 151, 152, 153, 154, 155, 156, 157, 158, 166, 167] (by decide +kernel) (by decide +kernel)
set_option maxRecDepth 20000 in
theorem gX4_close_X0_draw_n136 : GoodIn wsX4_close (wsX0_draw) := ggX4_close_X0_draw
set_option maxRecDepth 20000 in
theorem ggX4_close_X0_placeOf : GoodIn wsX4_close wsX0_placeOf := goodIn_r _ [105, 97, 159, 160, 161, 162, 163, 164, 165] (by decide +kernel) (by decide +kernel)
set_option maxRecDepth 20000 in
theorem gX4_close_X0_placeOf_n149 : GoodIn wsX4_close (wsX0_placeOf) := ggX4_close_X0_placeOf
set_option maxRecDepth 20000 in
theorem ggX4_close_X4_seasonPoints : GoodIn wsX4_close wsX4_seasonPoints := goodIn_r _ [109, 110] (by decide +kernel) (by decide +kernel)
set_option maxRecDepth 20000 in
theorem gX4_close_X4_seasonPoints : GoodIn wsX4_close (va_wsS RX4 177 yX4_seasonPoints wsX4_seasonPoints) := goodIn_app (goodIn_of _ (by decide +kernel)) ggX4_close_X4_seasonPoints
set_option maxRecDepth 20000 in
theorem ggX4_close_X4_keepRecord : GoodIn wsX4_close wsX4_keepRecord := goodIn_r _ [114, 2, 115, 116, 117, 118, 119, 108, 120, 15, 16, 17, 18, 19, 20, 21, 22, 23, 24, 121, 122, 123, 34, 35, 36, 37, 55, 56, 57, 58, 59, 60, 61, 62, 43, 44, 45, 46, 47, 124, 125, 126, 127, 128, 129, 130, 131, 132, 133, 134, 135, 136, 137, 138, 139, 140, 141, 142, 143, 144, 145, 146, 147, 148, 149, 150, 151, 152, 153, 154, 155, 156, 157, 158] (by decide +kernel) (by decide +kernel)
set_option maxRecDepth 20000 in
theorem gX4_close_X4_keepRecord : GoodIn wsX4_close (wsV RX4 180 RX4 yX4_keepRecord wsX4_keepRecord) := goodIn_app (goodIn_of _ (by decide +kernel)) ggX4_close_X4_keepRecord
theorem dX4_close_0 : decode cX4_close 0 = .ok (.aload_n 0, 1) := by decide +kernel
theorem dX4_close_1 : decode cX4_close 1 = .ok (.getfield 23, 3) := by decide +kernel
theorem dX4_close_4 : decode cX4_close 4 = .ok (.aload_n 0, 1) := by decide +kernel
theorem dX4_close_5 : decode cX4_close 5 = .ok (.getfield 16, 3) := by decide +kernel
theorem dX4_close_8 : decode cX4_close 8 = .ok (.aload_n 0, 1) := by decide +kernel
theorem dX4_close_9 : decode cX4_close 9 = .ok (.getfield 16, 3) := by decide +kernel
theorem dX4_close_12 : decode cX4_close 12 = .ok (.getfield 92, 3) := by decide +kernel
theorem dX4_close_15 : decode cX4_close 15 = .ok (.getfield 115, 3) := by decide +kernel
theorem dX4_close_18 : decode cX4_close 18 = .ok (.aload_n 0, 1) := by decide +kernel
theorem dX4_close_19 : decode cX4_close 19 = .ok (.getfield 71, 3) := by decide +kernel
theorem dX4_close_22 : decode cX4_close 22 = .ok (.invokevirtual 136, 3) := by decide +kernel
theorem dX4_close_25 : decode cX4_close 25 = .ok (.aload_n 0, 1) := by decide +kernel
theorem dX4_close_26 : decode cX4_close 26 = .ok (.getfield 23, 3) := by decide +kernel
theorem dX4_close_29 : decode cX4_close 29 = .ok (.getfield 174, 3) := by decide +kernel
theorem dX4_close_32 : decode cX4_close 32 = .ok (.ifCond .ne 7, 3) := by decide +kernel
theorem dX4_close_35 : decode cX4_close 35 = .ok (.sipush (-10000), 3) := by decide +kernel
theorem dX4_close_38 : decode cX4_close 38 = .ok (.ireturn, 1) := by decide +kernel
theorem dX4_close_39 : decode cX4_close 39 = .ok (.iconst 0, 1) := by decide +kernel
theorem dX4_close_40 : decode cX4_close 40 = .ok (.istore_n 1, 1) := by decide +kernel
theorem dX4_close_41 : decode cX4_close 41 = .ok (.iload_n 1, 1) := by decide +kernel
theorem dX4_close_42 : decode cX4_close 42 = .ok (.aload_n 0, 1) := by decide +kernel
theorem dX4_close_43 : decode cX4_close 43 = .ok (.getfield 71, 3) := by decide +kernel
theorem dX4_close_46 : decode cX4_close 46 = .ok (.if_icmp .ge 35, 3) := by decide +kernel
theorem dX4_close_49 : decode cX4_close 49 = .ok (.iload_n 1, 1) := by decide +kernel
theorem dX4_close_50 : decode cX4_close 50 = .ok (.bipush 24, 2) := by decide +kernel
theorem dX4_close_52 : decode cX4_close 52 = .ok (.if_icmp .ge 29, 3) := by decide +kernel
theorem dX4_close_55 : decode cX4_close 55 = .ok (.aload_n 0, 1) := by decide +kernel
theorem dX4_close_56 : decode cX4_close 56 = .ok (.getfield 33, 3) := by decide +kernel
theorem dX4_close_59 : decode cX4_close 59 = .ok (.iload_n 1, 1) := by decide +kernel
theorem dX4_close_60 : decode cX4_close 60 = .ok (.dup2, 1) := by decide +kernel
theorem dX4_close_61 : decode cX4_close 61 = .ok (.iaload, 1) := by decide +kernel
theorem dX4_close_62 : decode cX4_close 62 = .ok (.aload_n 0, 1) := by decide +kernel
theorem dX4_close_63 : decode cX4_close 63 = .ok (.getfield 23, 3) := by decide +kernel
theorem dX4_close_66 : decode cX4_close 66 = .ok (.iload_n 1, 1) := by decide +kernel
theorem dX4_close_67 : decode cX4_close 67 = .ok (.invokevirtual 149, 3) := by decide +kernel
theorem dX4_close_70 : decode cX4_close 70 = .ok (.invokestatic 177, 3) := by decide +kernel
theorem dX4_close_73 : decode cX4_close 73 = .ok (.iadd, 1) := by decide +kernel
theorem dX4_close_74 : decode cX4_close 74 = .ok (.iastore, 1) := by decide +kernel
theorem dX4_close_75 : decode cX4_close 75 = .ok (.iinc 1 1, 3) := by decide +kernel
theorem dX4_close_78 : decode cX4_close 78 = .ok (.goto (-37), 3) := by decide +kernel
theorem dX4_close_81 : decode cX4_close 81 = .ok (.aload_n 0, 1) := by decide +kernel
theorem dX4_close_82 : decode cX4_close 82 = .ok (.invokevirtual 180, 3) := by decide +kernel
theorem dX4_close_85 : decode cX4_close 85 = .ok (.aload_n 0, 1) := by decide +kernel
theorem dX4_close_86 : decode cX4_close 86 = .ok (.getfield 16, 3) := by decide +kernel
theorem dX4_close_89 : decode cX4_close 89 = .ok (.getfield 92, 3) := by decide +kernel
theorem dX4_close_92 : decode cX4_close 92 = .ok (.iconst 0, 1) := by decide +kernel
theorem dX4_close_93 : decode cX4_close 93 = .ok (.putfield 115, 3) := by decide +kernel
theorem dX4_close_96 : decode cX4_close 96 = .ok (.aload_n 0, 1) := by decide +kernel
theorem dX4_close_97 : decode cX4_close 97 = .ok (.dup, 1) := by decide +kernel
theorem dX4_close_98 : decode cX4_close 98 = .ok (.getfield 183, 3) := by decide +kernel
theorem dX4_close_101 : decode cX4_close 101 = .ok (.iconst 1, 1) := by decide +kernel
theorem dX4_close_102 : decode cX4_close 102 = .ok (.iadd, 1) := by decide +kernel
theorem dX4_close_103 : decode cX4_close 103 = .ok (.putfield 183, 3) := by decide +kernel
theorem dX4_close_106 : decode cX4_close 106 = .ok (.aload_n 0, 1) := by decide +kernel
theorem dX4_close_107 : decode cX4_close 107 = .ok (.getfield 23, 3) := by decide +kernel
theorem dX4_close_110 : decode cX4_close 110 = .ok (.getfield 174, 3) := by decide +kernel
theorem dX4_close_113 : decode cX4_close 113 = .ok (.ireturn, 1) := by decide +kernel
set_option maxRecDepth 20000 in
theorem ggX4_count_X0_draw : GoodIn wsX4_count wsX0_draw := goodIn_r _ [9, 10, 11, 12, 13, 14, 15, 16, 17, 18, 19, 20, 21, 22, 23, 24, 25, 26, 27, 28, 29, 30, 31, 32, 33, 34, 35, 36, 37, 38, 39, 40, 41, 42, 43, 44, 45, 46, 47, 48, 49, 50, 51, 52, 53, 54, 55, 56, 57, 58, 59, 60, 61, 62, 63, 64, 65, 66, 67, 68, 69, 70, 71, 72, 73, 74, 75, 76, 77, 78, 79, 80, 81, 82, 83, 84, 85, 86, 87, 88, 89, 90, 91, 7, 92, 93, 94, 95, 96, 97, 98, 99, 100, 101, 102, 133, 134, 135, 136, 137, 138, 139, 119, 120, 121, 122, 123, 124, 125, 126, 127, 128, 129, 130, 131, 132, 140, 141] (by decide +kernel) (by decide +kernel)
set_option maxRecDepth 20000 in
theorem gX4_count_X0_draw_n136 : GoodIn wsX4_count (wsX0_draw) := ggX4_count_X0_draw
set_option maxRecDepth 20000 in
theorem ggX4_count_X4_isSensor : GoodIn wsX4_count wsX4_isSensor := goodIn_r _ [107] (by decide +kernel) (by decide +kernel)
set_option maxRecDepth 20000 in
theorem gX4_count_X4_isSensor : GoodIn wsX4_count (wsV RX4 74 RX4 yX4_isSensor wsX4_isSensor) := goodIn_app (goodIn_of _ (by decide +kernel)) ggX4_count_X4_isSensor
theorem dX4_count_0 : decode cX4_count 0 = .ok (.iload_n 1, 1) := by decide +kernel
theorem dX4_count_1 : decode cX4_count 1 = .ok (.tableswitch 143 0 6 #[43, 48, 59, 64, 72, 105, 138], 43) := by decide +kernel
theorem dX4_count_44 : decode cX4_count 44 = .ok (.aload_n 0, 1) := by decide +kernel
theorem dX4_count_45 : decode cX4_count 45 = .ok (.getfield 71, 3) := by decide +kernel
theorem dX4_count_48 : decode cX4_count 48 = .ok (.ireturn, 1) := by decide +kernel
theorem dX4_count_49 : decode cX4_count 49 = .ok (.aload_n 0, 1) := by decide +kernel
theorem dX4_count_50 : decode cX4_count 50 = .ok (.getfield 16, 3) := by decide +kernel
theorem dX4_count_53 : decode cX4_count 53 = .ok (.getfield 92, 3) := by decide +kernel
theorem dX4_count_56 : decode cX4_count 56 = .ok (.getfield 115, 3) := by decide +kernel
theorem dX4_count_59 : decode cX4_count 59 = .ok (.ireturn, 1) := by decide +kernel
theorem dX4_count_60 : decode cX4_count 60 = .ok (.aload_n 0, 1) := by decide +kernel
theorem dX4_count_61 : decode cX4_count 61 = .ok (.getfield 183, 3) := by decide +kernel
theorem dX4_count_64 : decode cX4_count 64 = .ok (.ireturn, 1) := by decide +kernel
theorem dX4_count_65 : decode cX4_count 65 = .ok (.aload_n 0, 1) := by decide +kernel
theorem dX4_count_66 : decode cX4_count 66 = .ok (.getfield 16, 3) := by decide +kernel
theorem dX4_count_69 : decode cX4_count 69 = .ok (.getfield 83, 3) := by decide +kernel
theorem dX4_count_72 : decode cX4_count 72 = .ok (.ireturn, 1) := by decide +kernel
theorem dX4_count_73 : decode cX4_count 73 = .ok (.aload_n 0, 1) := by decide +kernel
theorem dX4_count_74 : decode cX4_count 74 = .ok (.getfield 23, 3) := by decide +kernel
theorem dX4_count_77 : decode cX4_count 77 = .ok (.aload_n 0, 1) := by decide +kernel
theorem dX4_count_78 : decode cX4_count 78 = .ok (.getfield 16, 3) := by decide +kernel
theorem dX4_count_81 : decode cX4_count 81 = .ok (.aload_n 0, 1) := by decide +kernel
theorem dX4_count_82 : decode cX4_count 82 = .ok (.getfield 16, 3) := by decide +kernel
theorem dX4_count_85 : decode cX4_count 85 = .ok (.getfield 92, 3) := by decide +kernel
theorem dX4_count_88 : decode cX4_count 88 = .ok (.getfield 115, 3) := by decide +kernel
theorem dX4_count_91 : decode cX4_count 91 = .ok (.aload_n 0, 1) := by decide +kernel
theorem dX4_count_92 : decode cX4_count 92 = .ok (.getfield 71, 3) := by decide +kernel
theorem dX4_count_95 : decode cX4_count 95 = .ok (.invokevirtual 136, 3) := by decide +kernel
theorem dX4_count_98 : decode cX4_count 98 = .ok (.aload_n 0, 1) := by decide +kernel
theorem dX4_count_99 : decode cX4_count 99 = .ok (.getfield 23, 3) := by decide +kernel
theorem dX4_count_102 : decode cX4_count 102 = .ok (.getfield 174, 3) := by decide +kernel
theorem dX4_count_105 : decode cX4_count 105 = .ok (.ireturn, 1) := by decide +kernel
theorem dX4_count_106 : decode cX4_count 106 = .ok (.aload_n 0, 1) := by decide +kernel
theorem dX4_count_107 : decode cX4_count 107 = .ok (.getfield 23, 3) := by decide +kernel
theorem dX4_count_110 : decode cX4_count 110 = .ok (.aload_n 0, 1) := by decide +kernel
theorem dX4_count_111 : decode cX4_count 111 = .ok (.getfield 16, 3) := by decide +kernel
theorem dX4_count_114 : decode cX4_count 114 = .ok (.aload_n 0, 1) := by decide +kernel
theorem dX4_count_115 : decode cX4_count 115 = .ok (.getfield 16, 3) := by decide +kernel
theorem dX4_count_118 : decode cX4_count 118 = .ok (.getfield 92, 3) := by decide +kernel
theorem dX4_count_121 : decode cX4_count 121 = .ok (.getfield 115, 3) := by decide +kernel
theorem dX4_count_124 : decode cX4_count 124 = .ok (.aload_n 0, 1) := by decide +kernel
theorem dX4_count_125 : decode cX4_count 125 = .ok (.getfield 71, 3) := by decide +kernel
theorem dX4_count_128 : decode cX4_count 128 = .ok (.invokevirtual 136, 3) := by decide +kernel
theorem dX4_count_131 : decode cX4_count 131 = .ok (.aload_n 0, 1) := by decide +kernel
theorem dX4_count_132 : decode cX4_count 132 = .ok (.getfield 23, 3) := by decide +kernel
theorem dX4_count_135 : decode cX4_count 135 = .ok (.getfield 186, 3) := by decide +kernel
theorem dX4_count_138 : decode cX4_count 138 = .ok (.ireturn, 1) := by decide +kernel
theorem dX4_count_139 : decode cX4_count 139 = .ok (.aload_n 0, 1) := by decide +kernel
theorem dX4_count_140 : decode cX4_count 140 = .ok (.getfield 43, 3) := by decide +kernel
theorem dX4_count_143 : decode cX4_count 143 = .ok (.ireturn, 1) := by decide +kernel
theorem dX4_count_144 : decode cX4_count 144 = .ok (.iload_n 1, 1) := by decide +kernel
theorem dX4_count_145 : decode cX4_count 145 = .ok (.bipush 10, 2) := by decide +kernel
theorem dX4_count_147 : decode cX4_count 147 = .ok (.if_icmp .lt 29, 3) := by decide +kernel
theorem dX4_count_150 : decode cX4_count 150 = .ok (.aload_n 0, 1) := by decide +kernel
theorem dX4_count_151 : decode cX4_count 151 = .ok (.iload_n 1, 1) := by decide +kernel
theorem dX4_count_152 : decode cX4_count 152 = .ok (.bipush 10, 2) := by decide +kernel
theorem dX4_count_154 : decode cX4_count 154 = .ok (.isub, 1) := by decide +kernel
theorem dX4_count_155 : decode cX4_count 155 = .ok (.invokevirtual 74, 3) := by decide +kernel
theorem dX4_count_158 : decode cX4_count 158 = .ok (.ifCond .eq 18, 3) := by decide +kernel
theorem dX4_count_161 : decode cX4_count 161 = .ok (.aload_n 0, 1) := by decide +kernel
theorem dX4_count_162 : decode cX4_count 162 = .ok (.getfield 16, 3) := by decide +kernel
theorem dX4_count_165 : decode cX4_count 165 = .ok (.getfield 77, 3) := by decide +kernel
theorem dX4_count_168 : decode cX4_count 168 = .ok (.iload_n 1, 1) := by decide +kernel
theorem dX4_count_169 : decode cX4_count 169 = .ok (.bipush 10, 2) := by decide +kernel
theorem dX4_count_171 : decode cX4_count 171 = .ok (.isub, 1) := by decide +kernel
theorem dX4_count_172 : decode cX4_count 172 = .ok (.iaload, 1) := by decide +kernel
theorem dX4_count_173 : decode cX4_count 173 = .ok (.goto 6, 3) := by decide +kernel
theorem dX4_count_176 : decode cX4_count 176 = .ok (.sipush (-10000), 3) := by decide +kernel
theorem dX4_count_179 : decode cX4_count 179 = .ok (.ireturn, 1) := by decide +kernel
theorem dX4_tapeInt_0 : decode cX4_tapeInt 0 = .ok (.bipush 24, 2) := by decide +kernel
theorem dX4_tapeInt_2 : decode cX4_tapeInt 2 = .ok (.istore_n 2, 1) := by decide +kernel
theorem dX4_tapeInt_3 : decode cX4_tapeInt 3 = .ok (.iload_n 2, 1) := by decide +kernel
theorem dX4_tapeInt_4 : decode cX4_tapeInt 4 = .ok (.ifCond .lt 54, 3) := by decide +kernel
theorem dX4_tapeInt_7 : decode cX4_tapeInt 7 = .ok (.aload_n 0, 1) := by decide +kernel
theorem dX4_tapeInt_8 : decode cX4_tapeInt 8 = .ok (.getfield 43, 3) := by decide +kernel
theorem dX4_tapeInt_11 : decode cX4_tapeInt 11 = .ok (.ifCond .lt 41, 3) := by decide +kernel
theorem dX4_tapeInt_14 : decode cX4_tapeInt 14 = .ok (.aload_n 0, 1) := by decide +kernel
theorem dX4_tapeInt_15 : decode cX4_tapeInt 15 = .ok (.getfield 43, 3) := by decide +kernel
theorem dX4_tapeInt_18 : decode cX4_tapeInt 18 = .ok (.aload_n 0, 1) := by decide +kernel
theorem dX4_tapeInt_19 : decode cX4_tapeInt 19 = .ok (.getfield 9, 3) := by decide +kernel
theorem dX4_tapeInt_22 : decode cX4_tapeInt 22 = .ok (.arraylength, 1) := by decide +kernel
theorem dX4_tapeInt_23 : decode cX4_tapeInt 23 = .ok (.if_icmp .ge 29, 3) := by decide +kernel
theorem dX4_tapeInt_26 : decode cX4_tapeInt 26 = .ok (.aload_n 0, 1) := by decide +kernel
theorem dX4_tapeInt_27 : decode cX4_tapeInt 27 = .ok (.getfield 9, 3) := by decide +kernel
theorem dX4_tapeInt_30 : decode cX4_tapeInt 30 = .ok (.aload_n 0, 1) := by decide +kernel
theorem dX4_tapeInt_31 : decode cX4_tapeInt 31 = .ok (.getfield 43, 3) := by decide +kernel
theorem dX4_tapeInt_34 : decode cX4_tapeInt 34 = .ok (.iload_n 1, 1) := by decide +kernel
theorem dX4_tapeInt_35 : decode cX4_tapeInt 35 = .ok (.iload_n 2, 1) := by decide +kernel
theorem dX4_tapeInt_36 : decode cX4_tapeInt 36 = .ok (.iushr, 1) := by decide +kernel
theorem dX4_tapeInt_37 : decode cX4_tapeInt 37 = .ok (.sipush 255, 3) := by decide +kernel
theorem dX4_tapeInt_40 : decode cX4_tapeInt 40 = .ok (.iand, 1) := by decide +kernel
theorem dX4_tapeInt_41 : decode cX4_tapeInt 41 = .ok (.iastore, 1) := by decide +kernel
theorem dX4_tapeInt_42 : decode cX4_tapeInt 42 = .ok (.aload_n 0, 1) := by decide +kernel
theorem dX4_tapeInt_43 : decode cX4_tapeInt 43 = .ok (.dup, 1) := by decide +kernel
theorem dX4_tapeInt_44 : decode cX4_tapeInt 44 = .ok (.getfield 43, 3) := by decide +kernel
theorem dX4_tapeInt_47 : decode cX4_tapeInt 47 = .ok (.iconst 1, 1) := by decide +kernel
theorem dX4_tapeInt_48 : decode cX4_tapeInt 48 = .ok (.iadd, 1) := by decide +kernel
theorem dX4_tapeInt_49 : decode cX4_tapeInt 49 = .ok (.putfield 43, 3) := by decide +kernel
theorem dX4_tapeInt_52 : decode cX4_tapeInt 52 = .ok (.iinc 2 (-8), 3) := by decide +kernel
theorem dX4_tapeInt_55 : decode cX4_tapeInt 55 = .ok (.goto (-52), 3) := by decide +kernel
theorem dX4_tapeInt_58 : decode cX4_tapeInt 58 = .ok (.return_, 1) := by decide +kernel
set_option maxRecDepth 20000 in
theorem ggX4_addToJump_X4_isJumper : GoodIn wsX4_addToJump wsX4_isJumper := goodIn_r _ [6, 7, 19, 20, 21, 22, 23, 24, 25, 26, 27, 28, 29] (by decide +kernel) (by decide +kernel)
set_option maxRecDepth 20000 in
theorem gX4_addToJump_X4_isJumper : GoodIn wsX4_addToJump (wsV RX4 86 RX4 yX4_isJumper wsX4_isJumper) := goodIn_app (goodIn_of _ (by decide +kernel)) ggX4_addToJump_X4_isJumper
set_option maxRecDepth 20000 in
theorem ggX4_addToJump_X4_jumpOf : GoodIn wsX4_addToJump wsX4_jumpOf := goodIn_r _ [10] (by decide +kernel) (by decide +kernel)
set_option maxRecDepth 20000 in
theorem gX4_addToJump_X4_jumpOf : GoodIn wsX4_addToJump (va_wsS RX4 98 yX4_jumpOf wsX4_jumpOf) := goodIn_app (goodIn_of _ (by decide +kernel)) ggX4_addToJump_X4_jumpOf
set_option maxRecDepth 20000 in
theorem ggX4_addToJump_X1_add : GoodIn wsX4_addToJump wsX1_add := goodIn_r _ [14, 15, 16, 17, 18, 40, 41, 42, 43] (by decide +kernel) (by decide +kernel)
set_option maxRecDepth 20000 in
theorem gX4_addToJump_X1_add_n102 : GoodIn wsX4_addToJump (wsX1_add) := ggX4_addToJump_X1_add
theorem dX4_addToJump_0 : decode cX4_addToJump 0 = .ok (.iload_n 2, 1) := by decide +kernel
theorem dX4_addToJump_1 : decode cX4_addToJump 1 = .ok (.bipush 32, 2) := by decide +kernel
theorem dX4_addToJump_3 : decode cX4_addToJump 3 = .ok (.if_icmp .lt 7, 3) := by decide +kernel
theorem dX4_addToJump_6 : decode cX4_addToJump 6 = .ok (.iconst 1, 1) := by decide +kernel
theorem dX4_addToJump_7 : decode cX4_addToJump 7 = .ok (.goto 4, 3) := by decide +kernel
theorem dX4_addToJump_10 : decode cX4_addToJump 10 = .ok (.iconst 0, 1) := by decide +kernel
theorem dX4_addToJump_11 : decode cX4_addToJump 11 = .ok (.istore 8, 2) := by decide +kernel
theorem dX4_addToJump_13 : decode cX4_addToJump 13 = .ok (.iload_n 2, 1) := by decide +kernel
theorem dX4_addToJump_14 : decode cX4_addToJump 14 = .ok (.iload 8, 2) := by decide +kernel
theorem dX4_addToJump_16 : decode cX4_addToJump 16 = .ok (.bipush 32, 2) := by decide +kernel
theorem dX4_addToJump_18 : decode cX4_addToJump 18 = .ok (.imul, 1) := by decide +kernel
theorem dX4_addToJump_19 : decode cX4_addToJump 19 = .ok (.isub, 1) := by decide +kernel
theorem dX4_addToJump_20 : decode cX4_addToJump 20 = .ok (.istore 9, 2) := by decide +kernel
theorem dX4_addToJump_22 : decode cX4_addToJump 22 = .ok (.aload_n 0, 1) := by decide +kernel
theorem dX4_addToJump_23 : decode cX4_addToJump 23 = .ok (.iload 9, 2) := by decide +kernel
theorem dX4_addToJump_25 : decode cX4_addToJump 25 = .ok (.invokevirtual 86, 3) := by decide +kernel
theorem dX4_addToJump_28 : decode cX4_addToJump 28 = .ok (.ifCond .ne 7, 3) := by decide +kernel
theorem dX4_addToJump_31 : decode cX4_addToJump 31 = .ok (.sipush (-10000), 3) := by decide +kernel
theorem dX4_addToJump_34 : decode cX4_addToJump 34 = .ok (.ireturn, 1) := by decide +kernel
theorem dX4_addToJump_35 : decode cX4_addToJump 35 = .ok (.aload_n 0, 1) := by decide +kernel
theorem dX4_addToJump_36 : decode cX4_addToJump 36 = .ok (.getfield 16, 3) := by decide +kernel
theorem dX4_addToJump_39 : decode cX4_addToJump 39 = .ok (.getfield 92, 3) := by decide +kernel
theorem dX4_addToJump_42 : decode cX4_addToJump 42 = .ok (.iload_n 1, 1) := by decide +kernel
theorem dX4_addToJump_43 : decode cX4_addToJump 43 = .ok (.iload 9, 2) := by decide +kernel
theorem dX4_addToJump_45 : decode cX4_addToJump 45 = .ok (.iload 8, 2) := by decide +kernel
theorem dX4_addToJump_47 : decode cX4_addToJump 47 = .ok (.invokestatic 98, 3) := by decide +kernel
theorem dX4_addToJump_50 : decode cX4_addToJump 50 = .ok (.iload_n 3, 1) := by decide +kernel
theorem dX4_addToJump_51 : decode cX4_addToJump 51 = .ok (.iload 4, 2) := by decide +kernel
theorem dX4_addToJump_53 : decode cX4_addToJump 53 = .ok (.iload 5, 2) := by decide +kernel
theorem dX4_addToJump_55 : decode cX4_addToJump 55 = .ok (.iload 6, 2) := by decide +kernel
theorem dX4_addToJump_57 : decode cX4_addToJump 57 = .ok (.iload 7, 2) := by decide +kernel
theorem dX4_addToJump_59 : decode cX4_addToJump 59 = .ok (.invokevirtual 102, 3) := by decide +kernel
theorem dX4_addToJump_62 : decode cX4_addToJump 62 = .ok (.ireturn, 1) := by decide +kernel
theorem dX4_isTeam_0 : decode cX4_isTeam 0 = .ok (.iload_n 1, 1) := by decide +kernel
theorem dX4_isTeam_1 : decode cX4_isTeam 1 = .ok (.ifCond .lt 13, 3) := by decide +kernel
theorem dX4_isTeam_4 : decode cX4_isTeam 4 = .ok (.iload_n 1, 1) := by decide +kernel
theorem dX4_isTeam_5 : decode cX4_isTeam 5 = .ok (.bipush 6, 2) := by decide +kernel
theorem dX4_isTeam_7 : decode cX4_isTeam 7 = .ok (.if_icmp .ge 7, 3) := by decide +kernel
theorem dX4_isTeam_10 : decode cX4_isTeam 10 = .ok (.iconst 1, 1) := by decide +kernel
theorem dX4_isTeam_11 : decode cX4_isTeam 11 = .ok (.goto 4, 3) := by decide +kernel
theorem dX4_isTeam_14 : decode cX4_isTeam 14 = .ok (.iconst 0, 1) := by decide +kernel
theorem dX4_isTeam_15 : decode cX4_isTeam 15 = .ok (.ireturn, 1) := by decide +kernel
theorem dX4_isSensor_0 : decode cX4_isSensor 0 = .ok (.iload_n 1, 1) := by decide +kernel
theorem dX4_isSensor_1 : decode cX4_isSensor 1 = .ok (.ifCond .lt 12, 3) := by decide +kernel
theorem dX4_isSensor_4 : decode cX4_isSensor 4 = .ok (.iload_n 1, 1) := by decide +kernel
theorem dX4_isSensor_5 : decode cX4_isSensor 5 = .ok (.iconst 5, 1) := by decide +kernel
theorem dX4_isSensor_6 : decode cX4_isSensor 6 = .ok (.if_icmp .ge 7, 3) := by decide +kernel
theorem dX4_isSensor_9 : decode cX4_isSensor 9 = .ok (.iconst 1, 1) := by decide +kernel
theorem dX4_isSensor_10 : decode cX4_isSensor 10 = .ok (.goto 4, 3) := by decide +kernel
theorem dX4_isSensor_13 : decode cX4_isSensor 13 = .ok (.iconst 0, 1) := by decide +kernel
theorem dX4_isSensor_14 : decode cX4_isSensor 14 = .ok (.ireturn, 1) := by decide +kernel
theorem dX4_isGate_0 : decode cX4_isGate 0 = .ok (.iload_n 1, 1) := by decide +kernel
theorem dX4_isGate_1 : decode cX4_isGate 1 = .ok (.iconst 1, 1) := by decide +kernel
theorem dX4_isGate_2 : decode cX4_isGate 2 = .ok (.if_icmp .lt 13, 3) := by decide +kernel
theorem dX4_isGate_5 : decode cX4_isGate 5 = .ok (.iload_n 1, 1) := by decide +kernel
theorem dX4_isGate_6 : decode cX4_isGate 6 = .ok (.bipush 50, 2) := by decide +kernel
theorem dX4_isGate_8 : decode cX4_isGate 8 = .ok (.if_icmp .gt 7, 3) := by decide +kernel
theorem dX4_isGate_11 : decode cX4_isGate 11 = .ok (.iconst 1, 1) := by decide +kernel
theorem dX4_isGate_12 : decode cX4_isGate 12 = .ok (.goto 4, 3) := by decide +kernel
theorem dX4_isGate_15 : decode cX4_isGate 15 = .ok (.iconst 0, 1) := by decide +kernel
theorem dX4_isGate_16 : decode cX4_isGate 16 = .ok (.ireturn, 1) := by decide +kernel
theorem dX4_isRound_0 : decode cX4_isRound 0 = .ok (.iload_n 1, 1) := by decide +kernel
theorem dX4_isRound_1 : decode cX4_isRound 1 = .ok (.ifCond .lt 12, 3) := by decide +kernel
theorem dX4_isRound_4 : decode cX4_isRound 4 = .ok (.iload_n 1, 1) := by decide +kernel
theorem dX4_isRound_5 : decode cX4_isRound 5 = .ok (.iconst 2, 1) := by decide +kernel
theorem dX4_isRound_6 : decode cX4_isRound 6 = .ok (.if_icmp .ge 7, 3) := by decide +kernel
theorem dX4_isRound_9 : decode cX4_isRound 9 = .ok (.iconst 1, 1) := by decide +kernel
theorem dX4_isRound_10 : decode cX4_isRound 10 = .ok (.goto 4, 3) := by decide +kernel
theorem dX4_isRound_13 : decode cX4_isRound 13 = .ok (.iconst 0, 1) := by decide +kernel
theorem dX4_isRound_14 : decode cX4_isRound 14 = .ok (.ireturn, 1) := by decide +kernel
theorem dX4_isWind_0 : decode cX4_isWind 0 = .ok (.iload_n 1, 1) := by decide +kernel
theorem dX4_isWind_1 : decode cX4_isWind 1 = .ok (.sipush (-10000), 3) := by decide +kernel
theorem dX4_isWind_4 : decode cX4_isWind 4 = .ok (.if_icmp .eq 17, 3) := by decide +kernel
theorem dX4_isWind_7 : decode cX4_isWind 7 = .ok (.iload_n 1, 1) := by decide +kernel
theorem dX4_isWind_8 : decode cX4_isWind 8 = .ok (.sipush (-999), 3) := by decide +kernel
theorem dX4_isWind_11 : decode cX4_isWind 11 = .ok (.if_icmp .lt 14, 3) := by decide +kernel
theorem dX4_isWind_14 : decode cX4_isWind 14 = .ok (.iload_n 1, 1) := by decide +kernel
theorem dX4_isWind_15 : decode cX4_isWind 15 = .ok (.sipush 999, 3) := by decide +kernel
theorem dX4_isWind_18 : decode cX4_isWind 18 = .ok (.if_icmp .gt 7, 3) := by decide +kernel
theorem dX4_isWind_21 : decode cX4_isWind 21 = .ok (.iconst 1, 1) := by decide +kernel
theorem dX4_isWind_22 : decode cX4_isWind 22 = .ok (.goto 4, 3) := by decide +kernel
theorem dX4_isWind_25 : decode cX4_isWind 25 = .ok (.iconst 0, 1) := by decide +kernel
theorem dX4_isWind_26 : decode cX4_isWind 26 = .ok (.ireturn, 1) := by decide +kernel
theorem dX4_isMark_0 : decode cX4_isMark 0 = .ok (.iload_n 1, 1) := by decide +kernel
theorem dX4_isMark_1 : decode cX4_isMark 1 = .ok (.ifCond .lt 13, 3) := by decide +kernel
theorem dX4_isMark_4 : decode cX4_isMark 4 = .ok (.iload_n 1, 1) := by decide +kernel
theorem dX4_isMark_5 : decode cX4_isMark 5 = .ok (.bipush 40, 2) := by decide +kernel
theorem dX4_isMark_7 : decode cX4_isMark 7 = .ok (.if_icmp .gt 7, 3) := by decide +kernel
theorem dX4_isMark_10 : decode cX4_isMark 10 = .ok (.iconst 1, 1) := by decide +kernel
theorem dX4_isMark_11 : decode cX4_isMark 11 = .ok (.goto 4, 3) := by decide +kernel
theorem dX4_isMark_14 : decode cX4_isMark 14 = .ok (.iconst 0, 1) := by decide +kernel
theorem dX4_isMark_15 : decode cX4_isMark 15 = .ok (.ireturn, 1) := by decide +kernel
theorem dX4_isJumper_0 : decode cX4_isJumper 0 = .ok (.iload_n 1, 1) := by decide +kernel
theorem dX4_isJumper_1 : decode cX4_isJumper 1 = .ok (.ifCond .lt 21, 3) := by decide +kernel
theorem dX4_isJumper_4 : decode cX4_isJumper 4 = .ok (.iload_n 1, 1) := by decide +kernel
theorem dX4_isJumper_5 : decode cX4_isJumper 5 = .ok (.aload_n 0, 1) := by decide +kernel
theorem dX4_isJumper_6 : decode cX4_isJumper 6 = .ok (.getfield 71, 3) := by decide +kernel
theorem dX4_isJumper_9 : decode cX4_isJumper 9 = .ok (.if_icmp .ge 13, 3) := by decide +kernel
theorem dX4_isJumper_12 : decode cX4_isJumper 12 = .ok (.iload_n 1, 1) := by decide +kernel
theorem dX4_isJumper_13 : decode cX4_isJumper 13 = .ok (.bipush 24, 2) := by decide +kernel
theorem dX4_isJumper_15 : decode cX4_isJumper 15 = .ok (.if_icmp .ge 7, 3) := by decide +kernel
theorem dX4_isJumper_18 : decode cX4_isJumper 18 = .ok (.iconst 1, 1) := by decide +kernel
theorem dX4_isJumper_19 : decode cX4_isJumper 19 = .ok (.goto 4, 3) := by decide +kernel
theorem dX4_isJumper_22 : decode cX4_isJumper 22 = .ok (.iconst 0, 1) := by decide +kernel
theorem dX4_isJumper_23 : decode cX4_isJumper 23 = .ok (.ireturn, 1) := by decide +kernel
theorem dX4_isKnowing_0 : decode cX4_isKnowing 0 = .ok (.iload_n 1, 1) := by decide +kernel
theorem dX4_isKnowing_1 : decode cX4_isKnowing 1 = .ok (.ifCond .lt 21, 3) := by decide +kernel
theorem dX4_isKnowing_4 : decode cX4_isKnowing 4 = .ok (.iload_n 1, 1) := by decide +kernel
theorem dX4_isKnowing_5 : decode cX4_isKnowing 5 = .ok (.aload_n 0, 1) := by decide +kernel
theorem dX4_isKnowing_6 : decode cX4_isKnowing 6 = .ok (.getfield 16, 3) := by decide +kernel
theorem dX4_isKnowing_9 : decode cX4_isKnowing 9 = .ok (.getfield 92, 3) := by decide +kernel
theorem dX4_isKnowing_12 : decode cX4_isKnowing 12 = .ok (.getfield 115, 3) := by decide +kernel
theorem dX4_isKnowing_15 : decode cX4_isKnowing 15 = .ok (.if_icmp .gt 7, 3) := by decide +kernel
theorem dX4_isKnowing_18 : decode cX4_isKnowing 18 = .ok (.iconst 1, 1) := by decide +kernel
theorem dX4_isKnowing_19 : decode cX4_isKnowing 19 = .ok (.goto 4, 3) := by decide +kernel
theorem dX4_isKnowing_22 : decode cX4_isKnowing 22 = .ok (.iconst 0, 1) := by decide +kernel
theorem dX4_isKnowing_23 : decode cX4_isKnowing 23 = .ok (.ireturn, 1) := by decide +kernel
theorem dX4_jumpOf_0 : decode cX4_jumpOf 0 = .ok (.iload_n 1, 1) := by decide +kernel
theorem dX4_jumpOf_1 : decode cX4_jumpOf 1 = .ok (.bipush 24, 2) := by decide +kernel
theorem dX4_jumpOf_3 : decode cX4_jumpOf 3 = .ok (.imul, 1) := by decide +kernel
theorem dX4_jumpOf_4 : decode cX4_jumpOf 4 = .ok (.iload_n 0, 1) := by decide +kernel
theorem dX4_jumpOf_5 : decode cX4_jumpOf 5 = .ok (.iadd, 1) := by decide +kernel
theorem dX4_jumpOf_6 : decode cX4_jumpOf 6 = .ok (.ireturn, 1) := by decide +kernel
theorem dX4_jumperOf_0 : decode cX4_jumperOf 0 = .ok (.iload_n 0, 1) := by decide +kernel
theorem dX4_jumperOf_1 : decode cX4_jumperOf 1 = .ok (.bipush 24, 2) := by decide +kernel
theorem dX4_jumperOf_3 : decode cX4_jumperOf 3 = .ok (.irem, 1) := by decide +kernel
theorem dX4_jumperOf_4 : decode cX4_jumperOf 4 = .ok (.ireturn, 1) := by decide +kernel
set_option maxRecDepth 20000 in
theorem ggX4_partOfPoints_X3_sum : GoodIn wsX4_partOfPoints wsX3_sum := goodIn_r _ [5, 6, 7, 8, 9, 10, 11, 12, 13, 29, 30, 31, 32, 33, 34, 35, 36, 37, 38] (by decide +kernel) (by decide +kernel)
set_option maxRecDepth 20000 in
theorem gX4_partOfPoints_X3_sum_n189 : GoodIn wsX4_partOfPoints (wsX3_sum) := ggX4_partOfPoints_X3_sum
set_option maxRecDepth 20000 in
theorem ggX4_partOfPoints_X3_worthOf : GoodIn wsX4_partOfPoints wsX3_worthOf := goodIn_r _ [16, 6, 7, 8, 9, 10, 11, 12, 13, 17, 2, 4, 3, 5, 29, 30, 31, 32, 33, 34, 35, 36, 37, 38] (by decide +kernel) (by decide +kernel)
set_option maxRecDepth 20000 in
theorem gX4_partOfPoints_X3_worthOf_n204 : GoodIn wsX4_partOfPoints (wsX3_worthOf) := ggX4_partOfPoints_X3_worthOf
theorem dX4_partOfPoints_0 : decode cX4_partOfPoints 0 = .ok (.iload_n 1, 1) := by decide +kernel
theorem dX4_partOfPoints_1 : decode cX4_partOfPoints 1 = .ok (.tableswitch 113 0 6 #[43, 51, 59, 67, 75, 83, 98], 43) := by decide +kernel
theorem dX4_partOfPoints_44 : decode cX4_partOfPoints 44 = .ok (.aload_n 0, 1) := by decide +kernel
theorem dX4_partOfPoints_45 : decode cX4_partOfPoints 45 = .ok (.getfield 16, 3) := by decide +kernel
theorem dX4_partOfPoints_48 : decode cX4_partOfPoints 48 = .ok (.invokevirtual 189, 3) := by decide +kernel
theorem dX4_partOfPoints_51 : decode cX4_partOfPoints 51 = .ok (.ireturn, 1) := by decide +kernel
theorem dX4_partOfPoints_52 : decode cX4_partOfPoints 52 = .ok (.aload_n 0, 1) := by decide +kernel
theorem dX4_partOfPoints_53 : decode cX4_partOfPoints 53 = .ok (.getfield 16, 3) := by decide +kernel
theorem dX4_partOfPoints_56 : decode cX4_partOfPoints 56 = .ok (.getfield 192, 3) := by decide +kernel
theorem dX4_partOfPoints_59 : decode cX4_partOfPoints 59 = .ok (.ireturn, 1) := by decide +kernel
theorem dX4_partOfPoints_60 : decode cX4_partOfPoints 60 = .ok (.aload_n 0, 1) := by decide +kernel
theorem dX4_partOfPoints_61 : decode cX4_partOfPoints 61 = .ok (.getfield 16, 3) := by decide +kernel
theorem dX4_partOfPoints_64 : decode cX4_partOfPoints 64 = .ok (.getfield 195, 3) := by decide +kernel
theorem dX4_partOfPoints_67 : decode cX4_partOfPoints 67 = .ok (.ireturn, 1) := by decide +kernel
theorem dX4_partOfPoints_68 : decode cX4_partOfPoints 68 = .ok (.aload_n 0, 1) := by decide +kernel
theorem dX4_partOfPoints_69 : decode cX4_partOfPoints 69 = .ok (.getfield 16, 3) := by decide +kernel
theorem dX4_partOfPoints_72 : decode cX4_partOfPoints 72 = .ok (.getfield 198, 3) := by decide +kernel
theorem dX4_partOfPoints_75 : decode cX4_partOfPoints 75 = .ok (.ireturn, 1) := by decide +kernel
theorem dX4_partOfPoints_76 : decode cX4_partOfPoints 76 = .ok (.aload_n 0, 1) := by decide +kernel
theorem dX4_partOfPoints_77 : decode cX4_partOfPoints 77 = .ok (.getfield 16, 3) := by decide +kernel
theorem dX4_partOfPoints_80 : decode cX4_partOfPoints 80 = .ok (.getfield 201, 3) := by decide +kernel
theorem dX4_partOfPoints_83 : decode cX4_partOfPoints 83 = .ok (.ireturn, 1) := by decide +kernel
theorem dX4_partOfPoints_84 : decode cX4_partOfPoints 84 = .ok (.aload_n 0, 1) := by decide +kernel
theorem dX4_partOfPoints_85 : decode cX4_partOfPoints 85 = .ok (.getfield 16, 3) := by decide +kernel
theorem dX4_partOfPoints_88 : decode cX4_partOfPoints 88 = .ok (.aload_n 0, 1) := by decide +kernel
theorem dX4_partOfPoints_89 : decode cX4_partOfPoints 89 = .ok (.getfield 16, 3) := by decide +kernel
theorem dX4_partOfPoints_92 : decode cX4_partOfPoints 92 = .ok (.getfield 198, 3) := by decide +kernel
theorem dX4_partOfPoints_95 : decode cX4_partOfPoints 95 = .ok (.invokevirtual 204, 3) := by decide +kernel
theorem dX4_partOfPoints_98 : decode cX4_partOfPoints 98 = .ok (.ireturn, 1) := by decide +kernel
theorem dX4_partOfPoints_99 : decode cX4_partOfPoints 99 = .ok (.aload_n 0, 1) := by decide +kernel
theorem dX4_partOfPoints_100 : decode cX4_partOfPoints 100 = .ok (.getfield 16, 3) := by decide +kernel
theorem dX4_partOfPoints_103 : decode cX4_partOfPoints 103 = .ok (.aload_n 0, 1) := by decide +kernel
theorem dX4_partOfPoints_104 : decode cX4_partOfPoints 104 = .ok (.getfield 16, 3) := by decide +kernel
theorem dX4_partOfPoints_107 : decode cX4_partOfPoints 107 = .ok (.getfield 201, 3) := by decide +kernel
theorem dX4_partOfPoints_110 : decode cX4_partOfPoints 110 = .ok (.invokevirtual 204, 3) := by decide +kernel
theorem dX4_partOfPoints_113 : decode cX4_partOfPoints 113 = .ok (.ireturn, 1) := by decide +kernel
theorem dX4_partOfPoints_114 : decode cX4_partOfPoints 114 = .ok (.sipush (-10000), 3) := by decide +kernel
theorem dX4_partOfPoints_117 : decode cX4_partOfPoints 117 = .ok (.ireturn, 1) := by decide +kernel
set_option maxRecDepth 20000 in
theorem ggX4_teamTotal_X0_jumperAt : GoodIn wsX4_teamTotal wsX0_jumperAt := goodIn_r _ [6, 7, 29, 30, 31, 32, 33, 34, 35] (by decide +kernel) (by decide +kernel)
set_option maxRecDepth 20000 in
theorem gX4_teamTotal_X0_jumperAt_n155 : GoodIn wsX4_teamTotal (wsX0_jumperAt) := ggX4_teamTotal_X0_jumperAt
set_option maxRecDepth 20000 in
theorem ggX4_teamTotal_X4_isJumper : GoodIn wsX4_teamTotal wsX4_isJumper := goodIn_r _ [12, 13, 18, 19, 20, 21, 22, 23, 24, 25, 26, 27, 28] (by decide +kernel) (by decide +kernel)
set_option maxRecDepth 20000 in
theorem gX4_teamTotal_X4_isJumper : GoodIn wsX4_teamTotal (wsV RX4 86 RX4 yX4_isJumper wsX4_isJumper) := goodIn_app (goodIn_of _ (by decide +kernel)) ggX4_teamTotal_X4_isJumper
set_option maxRecDepth 20000 in
theorem ggX4_teamTotal_X0_totalOf : GoodIn wsX4_teamTotal wsX0_totalOf := goodIn_r _ [16, 17, 29, 30, 31, 32, 33, 34, 35] (by decide +kernel) (by decide +kernel)
set_option maxRecDepth 20000 in
theorem gX4_teamTotal_X0_totalOf_n146 : GoodIn wsX4_teamTotal (wsX0_totalOf) := ggX4_teamTotal_X0_totalOf
theorem dX4_teamTotal_0 : decode cX4_teamTotal 0 = .ok (.iconst 0, 1) := by decide +kernel
theorem dX4_teamTotal_1 : decode cX4_teamTotal 1 = .ok (.istore_n 2, 1) := by decide +kernel
theorem dX4_teamTotal_2 : decode cX4_teamTotal 2 = .ok (.iconst 0, 1) := by decide +kernel
theorem dX4_teamTotal_3 : decode cX4_teamTotal 3 = .ok (.istore_n 3, 1) := by decide +kernel
theorem dX4_teamTotal_4 : decode cX4_teamTotal 4 = .ok (.iconst 0, 1) := by decide +kernel
theorem dX4_teamTotal_5 : decode cX4_teamTotal 5 = .ok (.istore 4, 2) := by decide +kernel
theorem dX4_teamTotal_7 : decode cX4_teamTotal 7 = .ok (.iload 4, 2) := by decide +kernel
theorem dX4_teamTotal_9 : decode cX4_teamTotal 9 = .ok (.aload_n 0, 1) := by decide +kernel
theorem dX4_teamTotal_10 : decode cX4_teamTotal 10 = .ok (.getfield 23, 3) := by decide +kernel
theorem dX4_teamTotal_13 : decode cX4_teamTotal 13 = .ok (.getfield 174, 3) := by decide +kernel
theorem dX4_teamTotal_16 : decode cX4_teamTotal 16 = .ok (.if_icmp .ge 60, 3) := by decide +kernel
theorem dX4_teamTotal_19 : decode cX4_teamTotal 19 = .ok (.iload_n 3, 1) := by decide +kernel
theorem dX4_teamTotal_20 : decode cX4_teamTotal 20 = .ok (.iconst 4, 1) := by decide +kernel
theorem dX4_teamTotal_21 : decode cX4_teamTotal 21 = .ok (.if_icmp .ge 55, 3) := by decide +kernel
theorem dX4_teamTotal_24 : decode cX4_teamTotal 24 = .ok (.aload_n 0, 1) := by decide +kernel
theorem dX4_teamTotal_25 : decode cX4_teamTotal 25 = .ok (.getfield 23, 3) := by decide +kernel
theorem dX4_teamTotal_28 : decode cX4_teamTotal 28 = .ok (.iload 4, 2) := by decide +kernel
theorem dX4_teamTotal_30 : decode cX4_teamTotal 30 = .ok (.invokevirtual 155, 3) := by decide +kernel
theorem dX4_teamTotal_33 : decode cX4_teamTotal 33 = .ok (.istore 5, 2) := by decide +kernel
theorem dX4_teamTotal_35 : decode cX4_teamTotal 35 = .ok (.aload_n 0, 1) := by decide +kernel
theorem dX4_teamTotal_36 : decode cX4_teamTotal 36 = .ok (.iload 5, 2) := by decide +kernel
theorem dX4_teamTotal_38 : decode cX4_teamTotal 38 = .ok (.invokevirtual 86, 3) := by decide +kernel
theorem dX4_teamTotal_41 : decode cX4_teamTotal 41 = .ok (.ifCond .eq 29, 3) := by decide +kernel
theorem dX4_teamTotal_44 : decode cX4_teamTotal 44 = .ok (.aload_n 0, 1) := by decide +kernel
theorem dX4_teamTotal_45 : decode cX4_teamTotal 45 = .ok (.getfield 30, 3) := by decide +kernel
theorem dX4_teamTotal_48 : decode cX4_teamTotal 48 = .ok (.iload 5, 2) := by decide +kernel
theorem dX4_teamTotal_50 : decode cX4_teamTotal 50 = .ok (.iaload, 1) := by decide +kernel
theorem dX4_teamTotal_51 : decode cX4_teamTotal 51 = .ok (.iload_n 1, 1) := by decide +kernel
theorem dX4_teamTotal_52 : decode cX4_teamTotal 52 = .ok (.if_icmp .ne 18, 3) := by decide +kernel
theorem dX4_teamTotal_55 : decode cX4_teamTotal 55 = .ok (.iload_n 2, 1) := by decide +kernel
theorem dX4_teamTotal_56 : decode cX4_teamTotal 56 = .ok (.aload_n 0, 1) := by decide +kernel
theorem dX4_teamTotal_57 : decode cX4_teamTotal 57 = .ok (.getfield 23, 3) := by decide +kernel
theorem dX4_teamTotal_60 : decode cX4_teamTotal 60 = .ok (.iload 5, 2) := by decide +kernel
theorem dX4_teamTotal_62 : decode cX4_teamTotal 62 = .ok (.invokevirtual 146, 3) := by decide +kernel
theorem dX4_teamTotal_65 : decode cX4_teamTotal 65 = .ok (.iadd, 1) := by decide +kernel
theorem dX4_teamTotal_66 : decode cX4_teamTotal 66 = .ok (.istore_n 2, 1) := by decide +kernel
theorem dX4_teamTotal_67 : decode cX4_teamTotal 67 = .ok (.iinc 3 1, 3) := by decide +kernel
theorem dX4_teamTotal_70 : decode cX4_teamTotal 70 = .ok (.iinc 4 1, 3) := by decide +kernel
theorem dX4_teamTotal_73 : decode cX4_teamTotal 73 = .ok (.goto (-66), 3) := by decide +kernel
theorem dX4_teamTotal_76 : decode cX4_teamTotal 76 = .ok (.iload_n 3, 1) := by decide +kernel
theorem dX4_teamTotal_77 : decode cX4_teamTotal 77 = .ok (.ifCond .ne 9, 3) := by decide +kernel
theorem dX4_teamTotal_80 : decode cX4_teamTotal 80 = .ok (.sipush (-10000), 3) := by decide +kernel
theorem dX4_teamTotal_83 : decode cX4_teamTotal 83 = .ok (.goto 4, 3) := by decide +kernel
theorem dX4_teamTotal_86 : decode cX4_teamTotal 86 = .ok (.iload_n 2, 1) := by decide +kernel
theorem dX4_teamTotal_87 : decode cX4_teamTotal 87 = .ok (.ireturn, 1) := by decide +kernel
theorem dX4_seasonPoints_0 : decode cX4_seasonPoints 0 = .ok (.iload_n 0, 1) := by decide +kernel
theorem dX4_seasonPoints_1 : decode cX4_seasonPoints 1 = .ok (.iconst 1, 1) := by decide +kernel
theorem dX4_seasonPoints_2 : decode cX4_seasonPoints 2 = .ok (.if_icmp .lt 21, 3) := by decide +kernel
theorem dX4_seasonPoints_5 : decode cX4_seasonPoints 5 = .ok (.iload_n 0, 1) := by decide +kernel
theorem dX4_seasonPoints_6 : decode cX4_seasonPoints 6 = .ok (.getstatic 207, 3) := by decide +kernel
theorem dX4_seasonPoints_9 : decode cX4_seasonPoints 9 = .ok (.arraylength, 1) := by decide +kernel
theorem dX4_seasonPoints_10 : decode cX4_seasonPoints 10 = .ok (.if_icmp .gt 13, 3) := by decide +kernel
theorem dX4_seasonPoints_13 : decode cX4_seasonPoints 13 = .ok (.getstatic 207, 3) := by decide +kernel
theorem dX4_seasonPoints_16 : decode cX4_seasonPoints 16 = .ok (.iload_n 0, 1) := by decide +kernel
theorem dX4_seasonPoints_17 : decode cX4_seasonPoints 17 = .ok (.iconst 1, 1) := by decide +kernel
theorem dX4_seasonPoints_18 : decode cX4_seasonPoints 18 = .ok (.isub, 1) := by decide +kernel
theorem dX4_seasonPoints_19 : decode cX4_seasonPoints 19 = .ok (.iaload, 1) := by decide +kernel
theorem dX4_seasonPoints_20 : decode cX4_seasonPoints 20 = .ok (.goto 4, 3) := by decide +kernel
theorem dX4_seasonPoints_23 : decode cX4_seasonPoints 23 = .ok (.iconst 0, 1) := by decide +kernel
theorem dX4_seasonPoints_24 : decode cX4_seasonPoints 24 = .ok (.ireturn, 1) := by decide +kernel
set_option maxRecDepth 20000 in
theorem ggX4_recordJump_X3_know : GoodIn wsX4_recordJump wsX3_know := goodIn_r _ [6, 7, 8, 9, 10, 11, 12, 51, 52, 53, 54, 55, 56, 57, 58, 59, 60, 61, 62, 63, 64] (by decide +kernel) (by decide +kernel)
set_option maxRecDepth 20000 in
theorem gX4_recordJump_X3_know_n118 : GoodIn wsX4_recordJump (wsX3_know) := ggX4_recordJump_X3_know
set_option maxRecDepth 20000 in
theorem ggX4_recordJump_X3_mayBeRecord : GoodIn wsX4_recordJump wsX3_mayBeRecord := goodIn_r _ [15, 8, 16, 17, 18, 4, 19, 7, 20, 21, 22, 23, 24, 25, 26, 27, 28, 29, 30, 31, 32, 51, 52, 53, 54, 55, 56, 57, 58, 59, 60, 61, 62, 63, 64] (by decide +kernel) (by decide +kernel)
set_option maxRecDepth 20000 in
theorem gX4_recordJump_X3_mayBeRecord_n210 : GoodIn wsX4_recordJump (wsX3_mayBeRecord) := ggX4_recordJump_X3_mayBeRecord
set_option maxRecDepth 20000 in
theorem ggX4_recordJump_X3_lengthOf : GoodIn wsX4_recordJump wsX3_lengthOf := goodIn_r _ [35, 8, 16, 17, 18, 4, 19, 7, 28, 29, 30, 31, 32, 51, 52, 53, 54, 55, 56, 57, 58, 59, 60, 61, 62, 63, 64] (by decide +kernel) (by decide +kernel)
set_option maxRecDepth 20000 in
theorem gX4_recordJump_X3_lengthOf_n168 : GoodIn wsX4_recordJump (wsX3_lengthOf) := ggX4_recordJump_X3_lengthOf
set_option maxRecDepth 20000 in
theorem ggX4_recordJump_X3_isLonger : GoodIn wsX4_recordJump wsX3_isLonger := goodIn_r _ [38, 39, 33, 34, 4, 35, 8, 16, 17, 18, 19, 7, 28, 29, 30, 31, 32, 51, 52, 53, 54, 55, 56, 57, 58, 59, 60, 61, 62, 63, 64] (by decide +kernel) (by decide +kernel)
set_option maxRecDepth 20000 in
theorem gX4_recordJump_X3_isLonger_n213 : GoodIn wsX4_recordJump (wsX3_isLonger) := ggX4_recordJump_X3_isLonger
theorem dX4_recordJump_0 : decode cX4_recordJump 0 = .ok (.aload_n 0, 1) := by decide +kernel
theorem dX4_recordJump_1 : decode cX4_recordJump 1 = .ok (.getfield 16, 3) := by decide +kernel
theorem dX4_recordJump_4 : decode cX4_recordJump 4 = .ok (.aload_n 0, 1) := by decide +kernel
theorem dX4_recordJump_5 : decode cX4_recordJump 5 = .ok (.getfield 16, 3) := by decide +kernel
theorem dX4_recordJump_8 : decode cX4_recordJump 8 = .ok (.getfield 92, 3) := by decide +kernel
theorem dX4_recordJump_11 : decode cX4_recordJump 11 = .ok (.getfield 115, 3) := by decide +kernel
theorem dX4_recordJump_14 : decode cX4_recordJump 14 = .ok (.invokevirtual 118, 3) := by decide +kernel
theorem dX4_recordJump_17 : decode cX4_recordJump 17 = .ok (.iconst (-1), 1) := by decide +kernel
theorem dX4_recordJump_18 : decode cX4_recordJump 18 = .ok (.istore_n 1, 1) := by decide +kernel
theorem dX4_recordJump_19 : decode cX4_recordJump 19 = .ok (.iconst 0, 1) := by decide +kernel
theorem dX4_recordJump_20 : decode cX4_recordJump 20 = .ok (.istore_n 2, 1) := by decide +kernel
theorem dX4_recordJump_21 : decode cX4_recordJump 21 = .ok (.iload_n 2, 1) := by decide +kernel
theorem dX4_recordJump_22 : decode cX4_recordJump 22 = .ok (.bipush 48, 2) := by decide +kernel
theorem dX4_recordJump_24 : decode cX4_recordJump 24 = .ok (.if_icmp .ge 53, 3) := by decide +kernel
theorem dX4_recordJump_27 : decode cX4_recordJump 27 = .ok (.aload_n 0, 1) := by decide +kernel
theorem dX4_recordJump_28 : decode cX4_recordJump 28 = .ok (.getfield 16, 3) := by decide +kernel
theorem dX4_recordJump_31 : decode cX4_recordJump 31 = .ok (.iload_n 2, 1) := by decide +kernel
theorem dX4_recordJump_32 : decode cX4_recordJump 32 = .ok (.invokevirtual 210, 3) := by decide +kernel
theorem dX4_recordJump_35 : decode cX4_recordJump 35 = .ok (.ifCond .eq 36, 3) := by decide +kernel
theorem dX4_recordJump_38 : decode cX4_recordJump 38 = .ok (.aload_n 0, 1) := by decide +kernel
theorem dX4_recordJump_39 : decode cX4_recordJump 39 = .ok (.getfield 16, 3) := by decide +kernel
theorem dX4_recordJump_42 : decode cX4_recordJump 42 = .ok (.iload_n 2, 1) := by decide +kernel
theorem dX4_recordJump_43 : decode cX4_recordJump 43 = .ok (.invokevirtual 168, 3) := by decide +kernel
theorem dX4_recordJump_46 : decode cX4_recordJump 46 = .ok (.aload_n 0, 1) := by decide +kernel
theorem dX4_recordJump_47 : decode cX4_recordJump 47 = .ok (.getfield 36, 3) := by decide +kernel
theorem dX4_recordJump_50 : decode cX4_recordJump 50 = .ok (.if_icmp .le 21, 3) := by decide +kernel
theorem dX4_recordJump_53 : decode cX4_recordJump 53 = .ok (.iload_n 1, 1) := by decide +kernel
theorem dX4_recordJump_54 : decode cX4_recordJump 54 = .ok (.ifCond .lt 15, 3) := by decide +kernel
theorem dX4_recordJump_57 : decode cX4_recordJump 57 = .ok (.aload_n 0, 1) := by decide +kernel
theorem dX4_recordJump_58 : decode cX4_recordJump 58 = .ok (.getfield 16, 3) := by decide +kernel
theorem dX4_recordJump_61 : decode cX4_recordJump 61 = .ok (.iload_n 2, 1) := by decide +kernel
theorem dX4_recordJump_62 : decode cX4_recordJump 62 = .ok (.iload_n 1, 1) := by decide +kernel
theorem dX4_recordJump_63 : decode cX4_recordJump 63 = .ok (.invokevirtual 213, 3) := by decide +kernel
theorem dX4_recordJump_66 : decode cX4_recordJump 66 = .ok (.ifCond .eq 5, 3) := by decide +kernel
theorem dX4_recordJump_69 : decode cX4_recordJump 69 = .ok (.iload_n 2, 1) := by decide +kernel
theorem dX4_recordJump_70 : decode cX4_recordJump 70 = .ok (.istore_n 1, 1) := by decide +kernel
theorem dX4_recordJump_71 : decode cX4_recordJump 71 = .ok (.iinc 2 1, 3) := by decide +kernel
theorem dX4_recordJump_74 : decode cX4_recordJump 74 = .ok (.goto (-53), 3) := by decide +kernel
theorem dX4_recordJump_77 : decode cX4_recordJump 77 = .ok (.iload_n 1, 1) := by decide +kernel
theorem dX4_recordJump_78 : decode cX4_recordJump 78 = .ok (.ireturn, 1) := by decide +kernel
set_option maxRecDepth 20000 in
theorem ggX4_keepRecord_X4_recordJump : GoodIn wsX4_keepRecord wsX4_recordJump := goodIn_r _ [8, 1, 2, 9, 10, 11, 12, 13, 14, 15, 16, 17, 18, 19, 20, 21, 22, 23, 24, 25, 26, 27, 28, 29, 30, 31, 32, 33, 34, 35, 36, 37, 38, 39, 40, 41, 42, 43, 44, 45, 49, 50, 51, 52, 53, 54, 55, 56, 57, 58, 59, 60, 61, 62, 63, 64, 65, 66, 67, 68, 69, 70, 71, 72, 73] (by decide +kernel) (by decide +kernel)
set_option maxRecDepth 20000 in
theorem gX4_keepRecord_X4_recordJump : GoodIn wsX4_keepRecord (wsV RX4 164 RX4 yX4_recordJump wsX4_recordJump) := goodIn_app (goodIn_of _ (by decide +kernel)) ggX4_keepRecord_X4_recordJump
set_option maxRecDepth 20000 in
theorem ggX4_keepRecord_X3_lengthOf : GoodIn wsX4_keepRecord wsX3_lengthOf := goodIn_r _ [41, 14, 22, 23, 24, 10, 25, 13, 34, 35, 36, 37, 38, 60, 61, 62, 63, 64, 65, 66, 67, 68, 69, 70, 71, 72, 73] (by decide +kernel) (by decide +kernel)
set_option maxRecDepth 20000 in
theorem gX4_keepRecord_X3_lengthOf_n168 : GoodIn wsX4_keepRecord (wsX3_lengthOf) := ggX4_keepRecord_X3_lengthOf
set_option maxRecDepth 20000 in
theorem ggX4_keepRecord_X4_jumperOf : GoodIn wsX4_keepRecord wsX4_jumperOf := goodIn_r _ [48] (by decide +kernel) (by decide +kernel)
set_option maxRecDepth 20000 in
theorem gX4_keepRecord_X4_jumperOf : GoodIn wsX4_keepRecord (va_wsS RX4 171 yX4_jumperOf wsX4_jumperOf) := goodIn_app (goodIn_of _ (by decide +kernel)) ggX4_keepRecord_X4_jumperOf
theorem dX4_keepRecord_0 : decode cX4_keepRecord 0 = .ok (.aload_n 0, 1) := by decide +kernel
theorem dX4_keepRecord_1 : decode cX4_keepRecord 1 = .ok (.invokevirtual 164, 3) := by decide +kernel
theorem dX4_keepRecord_4 : decode cX4_keepRecord 4 = .ok (.istore_n 1, 1) := by decide +kernel
theorem dX4_keepRecord_5 : decode cX4_keepRecord 5 = .ok (.iload_n 1, 1) := by decide +kernel
theorem dX4_keepRecord_6 : decode cX4_keepRecord 6 = .ok (.ifCond .lt 23, 3) := by decide +kernel
theorem dX4_keepRecord_9 : decode cX4_keepRecord 9 = .ok (.aload_n 0, 1) := by decide +kernel
theorem dX4_keepRecord_10 : decode cX4_keepRecord 10 = .ok (.aload_n 0, 1) := by decide +kernel
theorem dX4_keepRecord_11 : decode cX4_keepRecord 11 = .ok (.getfield 16, 3) := by decide +kernel
theorem dX4_keepRecord_14 : decode cX4_keepRecord 14 = .ok (.iload_n 1, 1) := by decide +kernel
theorem dX4_keepRecord_15 : decode cX4_keepRecord 15 = .ok (.invokevirtual 168, 3) := by decide +kernel
theorem dX4_keepRecord_18 : decode cX4_keepRecord 18 = .ok (.putfield 36, 3) := by decide +kernel
theorem dX4_keepRecord_21 : decode cX4_keepRecord 21 = .ok (.aload_n 0, 1) := by decide +kernel
theorem dX4_keepRecord_22 : decode cX4_keepRecord 22 = .ok (.iload_n 1, 1) := by decide +kernel
theorem dX4_keepRecord_23 : decode cX4_keepRecord 23 = .ok (.invokestatic 171, 3) := by decide +kernel
theorem dX4_keepRecord_26 : decode cX4_keepRecord 26 = .ok (.putfield 40, 3) := by decide +kernel
theorem dX4_keepRecord_29 : decode cX4_keepRecord 29 = .ok (.return_, 1) := by decide +kernel
end
section
set_option maxRecDepth 20000 in
theorem ggX5_init_X5_asAtFirst : GoodIn wsX5_init wsX5_asAtFirst := goodIn_r _ [27] (by decide +kernel) (by decide +kernel)
set_option maxRecDepth 20000 in
theorem gX5_init_X5_asAtFirst : GoodIn wsX5_init (va_wsS RX5 64 yX5_asAtFirst wsX5_asAtFirst) := goodIn_app (goodIn_of _ (by decide +kernel)) ggX5_init_X5_asAtFirst
theorem dX5_init_0 : decode cX5_init 0 = .ok (.aload_n 0, 1) := by decide +kernel
theorem dX5_init_1 : decode cX5_init 1 = .ok (.invokespecial 1, 3) := by decide +kernel
theorem dX5_init_4 : decode cX5_init 4 = .ok (.aload_n 0, 1) := by decide +kernel
theorem dX5_init_5 : decode cX5_init 5 = .ok (.bipush 60, 2) := by decide +kernel
theorem dX5_init_7 : decode cX5_init 7 = .ok (.newarray .byte, 2) := by decide +kernel
theorem dX5_init_9 : decode cX5_init 9 = .ok (.putfield 7, 3) := by decide +kernel
theorem dX5_init_12 : decode cX5_init 12 = .ok (.aload_n 0, 1) := by decide +kernel
theorem dX5_init_13 : decode cX5_init 13 = .ok (.bipush 7, 2) := by decide +kernel
theorem dX5_init_15 : decode cX5_init 15 = .ok (.newarray .int, 2) := by decide +kernel
theorem dX5_init_17 : decode cX5_init 17 = .ok (.putfield 13, 3) := by decide +kernel
theorem dX5_init_20 : decode cX5_init 20 = .ok (.aload_n 0, 1) := by decide +kernel
theorem dX5_init_21 : decode cX5_init 21 = .ok (.bipush 7, 2) := by decide +kernel
theorem dX5_init_23 : decode cX5_init 23 = .ok (.newarray .int, 2) := by decide +kernel
theorem dX5_init_25 : decode cX5_init 25 = .ok (.putfield 17, 3) := by decide +kernel
theorem dX5_init_28 : decode cX5_init 28 = .ok (.aload_n 0, 1) := by decide +kernel
theorem dX5_init_29 : decode cX5_init 29 = .ok (.bipush 20, 2) := by decide +kernel
theorem dX5_init_31 : decode cX5_init 31 = .ok (.putfield 20, 3) := by decide +kernel
theorem dX5_init_34 : decode cX5_init 34 = .ok (.aload_n 0, 1) := by decide +kernel
theorem dX5_init_35 : decode cX5_init 35 = .ok (.bipush 24, 2) := by decide +kernel
theorem dX5_init_37 : decode cX5_init 37 = .ok (.newarray .int, 2) := by decide +kernel
theorem dX5_init_39 : decode cX5_init 39 = .ok (.putfield 24, 3) := by decide +kernel
theorem dX5_init_42 : decode cX5_init 42 = .ok (.aload_n 0, 1) := by decide +kernel
theorem dX5_init_43 : decode cX5_init 43 = .ok (.bipush 24, 2) := by decide +kernel
theorem dX5_init_45 : decode cX5_init 45 = .ok (.newarray .int, 2) := by decide +kernel
theorem dX5_init_47 : decode cX5_init 47 = .ok (.putfield 27, 3) := by decide +kernel
theorem dX5_init_50 : decode cX5_init 50 = .ok (.aload_n 0, 1) := by decide +kernel
theorem dX5_init_51 : decode cX5_init 51 = .ok (.iconst 5, 1) := by decide +kernel
theorem dX5_init_52 : decode cX5_init 52 = .ok (.newarray .int, 2) := by decide +kernel
theorem dX5_init_54 : decode cX5_init 54 = .ok (.putfield 30, 3) := by decide +kernel
theorem dX5_init_57 : decode cX5_init 57 = .ok (.aload_n 0, 1) := by decide +kernel
theorem dX5_init_58 : decode cX5_init 58 = .ok (.sipush 200, 3) := by decide +kernel
theorem dX5_init_61 : decode cX5_init 61 = .ok (.newarray .int, 2) := by decide +kernel
theorem dX5_init_63 : decode cX5_init 63 = .ok (.putfield 33, 3) := by decide +kernel
theorem dX5_init_66 : decode cX5_init 66 = .ok (.aload_n 0, 1) := by decide +kernel
theorem dX5_init_67 : decode cX5_init 67 = .ok (.sipush 200, 3) := by decide +kernel
theorem dX5_init_70 : decode cX5_init 70 = .ok (.newarray .int, 2) := by decide +kernel
theorem dX5_init_72 : decode cX5_init 72 = .ok (.putfield 36, 3) := by decide +kernel
theorem dX5_init_75 : decode cX5_init 75 = .ok (.aload_n 0, 1) := by decide +kernel
theorem dX5_init_76 : decode cX5_init 76 = .ok (.sipush 1000, 3) := by decide +kernel
theorem dX5_init_79 : decode cX5_init 79 = .ok (.newarray .int, 2) := by decide +kernel
theorem dX5_init_81 : decode cX5_init 81 = .ok (.putfield 39, 3) := by decide +kernel
theorem dX5_init_84 : decode cX5_init 84 = .ok (.aload_n 0, 1) := by decide +kernel
theorem dX5_init_85 : decode cX5_init 85 = .ok (.sipush (-10000), 3) := by decide +kernel
theorem dX5_init_88 : decode cX5_init 88 = .ok (.putfield 42, 3) := by decide +kernel
theorem dX5_init_91 : decode cX5_init 91 = .ok (.aload_n 0, 1) := by decide +kernel
theorem dX5_init_92 : decode cX5_init 92 = .ok (.sipush (-10000), 3) := by decide +kernel
theorem dX5_init_95 : decode cX5_init 95 = .ok (.putfield 45, 3) := by decide +kernel
theorem dX5_init_98 : decode cX5_init 98 = .ok (.aload_n 0, 1) := by decide +kernel
theorem dX5_init_99 : decode cX5_init 99 = .ok (.bipush 24, 2) := by decide +kernel
theorem dX5_init_101 : decode cX5_init 101 = .ok (.newarray .boolean, 2) := by decide +kernel
theorem dX5_init_103 : decode cX5_init 103 = .ok (.putfield 48, 3) := by decide +kernel
theorem dX5_init_106 : decode cX5_init 106 = .ok (.aload_n 0, 1) := by decide +kernel
theorem dX5_init_107 : decode cX5_init 107 = .ok (.bipush 24, 2) := by decide +kernel
theorem dX5_init_109 : decode cX5_init 109 = .ok (.newarray .boolean, 2) := by decide +kernel
theorem dX5_init_111 : decode cX5_init 111 = .ok (.putfield 52, 3) := by decide +kernel
theorem dX5_init_114 : decode cX5_init 114 = .ok (.aload_n 0, 1) := by decide +kernel
theorem dX5_init_115 : decode cX5_init 115 = .ok (.bipush 24, 2) := by decide +kernel
theorem dX5_init_117 : decode cX5_init 117 = .ok (.newarray .int, 2) := by decide +kernel
theorem dX5_init_119 : decode cX5_init 119 = .ok (.putfield 55, 3) := by decide +kernel
theorem dX5_init_122 : decode cX5_init 122 = .ok (.aload_n 0, 1) := by decide +kernel
theorem dX5_init_123 : decode cX5_init 123 = .ok (.bipush 24, 2) := by decide +kernel
theorem dX5_init_125 : decode cX5_init 125 = .ok (.newarray .int, 2) := by decide +kernel
theorem dX5_init_127 : decode cX5_init 127 = .ok (.putfield 58, 3) := by decide +kernel
theorem dX5_init_130 : decode cX5_init 130 = .ok (.aload_n 0, 1) := by decide +kernel
theorem dX5_init_131 : decode cX5_init 131 = .ok (.bipush 24, 2) := by decide +kernel
theorem dX5_init_133 : decode cX5_init 133 = .ok (.newarray .int, 2) := by decide +kernel
theorem dX5_init_135 : decode cX5_init 135 = .ok (.putfield 61, 3) := by decide +kernel
theorem dX5_init_138 : decode cX5_init 138 = .ok (.aload_n 0, 1) := by decide +kernel
theorem dX5_init_139 : decode cX5_init 139 = .ok (.getfield 13, 3) := by decide +kernel
theorem dX5_init_142 : decode cX5_init 142 = .ok (.invokestatic 64, 3) := by decide +kernel
theorem dX5_init_145 : decode cX5_init 145 = .ok (.iconst 0, 1) := by decide +kernel
theorem dX5_init_146 : decode cX5_init 146 = .ok (.istore_n 1, 1) := by decide +kernel
theorem dX5_init_147 : decode cX5_init 147 = .ok (.iload_n 1, 1) := by decide +kernel
theorem dX5_init_148 : decode cX5_init 148 = .ok (.iconst 5, 1) := by decide +kernel
theorem dX5_init_149 : decode cX5_init 149 = .ok (.if_icmp .ge 16, 3) := by decide +kernel
theorem dX5_init_152 : decode cX5_init 152 = .ok (.aload_n 0, 1) := by decide +kernel
theorem dX5_init_153 : decode cX5_init 153 = .ok (.getfield 30, 3) := by decide +kernel
theorem dX5_init_156 : decode cX5_init 156 = .ok (.iload_n 1, 1) := by decide +kernel
theorem dX5_init_157 : decode cX5_init 157 = .ok (.iconst 1, 1) := by decide +kernel
theorem dX5_init_158 : decode cX5_init 158 = .ok (.iastore, 1) := by decide +kernel
theorem dX5_init_159 : decode cX5_init 159 = .ok (.iinc 1 1, 3) := by decide +kernel
theorem dX5_init_162 : decode cX5_init 162 = .ok (.goto (-15), 3) := by decide +kernel
theorem dX5_init_165 : decode cX5_init 165 = .ok (.return_, 1) := by decide +kernel
theorem dX5_lies_0 : decode cX5_lies 0 = .ok (.iload_n 0, 1) := by decide +kernel
theorem dX5_lies_1 : decode cX5_lies 1 = .ok (.iload_n 1, 1) := by decide +kernel
theorem dX5_lies_2 : decode cX5_lies 2 = .ok (.if_icmp .lt 12, 3) := by decide +kernel
theorem dX5_lies_5 : decode cX5_lies 5 = .ok (.iload_n 0, 1) := by decide +kernel
theorem dX5_lies_6 : decode cX5_lies 6 = .ok (.iload_n 2, 1) := by decide +kernel
theorem dX5_lies_7 : decode cX5_lies 7 = .ok (.if_icmp .gt 7, 3) := by decide +kernel
theorem dX5_lies_10 : decode cX5_lies 10 = .ok (.iconst 1, 1) := by decide +kernel
theorem dX5_lies_11 : decode cX5_lies 11 = .ok (.goto 4, 3) := by decide +kernel
theorem dX5_lies_14 : decode cX5_lies 14 = .ok (.iconst 0, 1) := by decide +kernel
theorem dX5_lies_15 : decode cX5_lies 15 = .ok (.ireturn, 1) := by decide +kernel
theorem dX5_push_0 : decode cX5_push 0 = .ok (.bipush 24, 2) := by decide +kernel
theorem dX5_push_2 : decode cX5_push 2 = .ok (.istore_n 2, 1) := by decide +kernel
theorem dX5_push_3 : decode cX5_push 3 = .ok (.iload_n 2, 1) := by decide +kernel
theorem dX5_push_4 : decode cX5_push 4 = .ok (.ifCond .lt 32, 3) := by decide +kernel
theorem dX5_push_7 : decode cX5_push 7 = .ok (.aload_n 0, 1) := by decide +kernel
theorem dX5_push_8 : decode cX5_push 8 = .ok (.getfield 7, 3) := by decide +kernel
theorem dX5_push_11 : decode cX5_push 11 = .ok (.aload_n 0, 1) := by decide +kernel
theorem dX5_push_12 : decode cX5_push 12 = .ok (.getfield 68, 3) := by decide +kernel
theorem dX5_push_15 : decode cX5_push 15 = .ok (.iload_n 1, 1) := by decide +kernel
theorem dX5_push_16 : decode cX5_push 16 = .ok (.iload_n 2, 1) := by decide +kernel
theorem dX5_push_17 : decode cX5_push 17 = .ok (.ishr, 1) := by decide +kernel
theorem dX5_push_18 : decode cX5_push 18 = .ok (.i2b, 1) := by decide +kernel
theorem dX5_push_19 : decode cX5_push 19 = .ok (.bastore, 1) := by decide +kernel
theorem dX5_push_20 : decode cX5_push 20 = .ok (.aload_n 0, 1) := by decide +kernel
theorem dX5_push_21 : decode cX5_push 21 = .ok (.dup, 1) := by decide +kernel
theorem dX5_push_22 : decode cX5_push 22 = .ok (.getfield 68, 3) := by decide +kernel
theorem dX5_push_25 : decode cX5_push 25 = .ok (.iconst 1, 1) := by decide +kernel
theorem dX5_push_26 : decode cX5_push 26 = .ok (.iadd, 1) := by decide +kernel
theorem dX5_push_27 : decode cX5_push 27 = .ok (.putfield 68, 3) := by decide +kernel
theorem dX5_push_30 : decode cX5_push 30 = .ok (.iinc 2 (-8), 3) := by decide +kernel
theorem dX5_push_33 : decode cX5_push 33 = .ok (.goto (-30), 3) := by decide +kernel
theorem dX5_push_36 : decode cX5_push 36 = .ok (.return_, 1) := by decide +kernel
set_option maxRecDepth 20000 in
theorem ggX5_feed_X5_push : GoodIn wsX5_feed wsX5_push := goodIn_r _ [6, 7, 1, 8, 9, 10, 11, 12, 13, 14, 15, 16, 17, 18, 19, 20, 21, 22, 23, 24, 25, 26, 27, 28] (by decide +kernel) (by decide +kernel)
set_option maxRecDepth 20000 in
theorem gX5_feed_X5_push : GoodIn wsX5_feed (wsV RX5 71 RX5 yX5_push wsX5_push) := goodIn_app (goodIn_of _ (by decide +kernel)) ggX5_feed_X5_push
theorem dX5_feed_0 : decode cX5_feed 0 = .ok (.aload_n 0, 1) := by decide +kernel
theorem dX5_feed_1 : decode cX5_feed 1 = .ok (.getfield 68, 3) := by decide +kernel
theorem dX5_feed_4 : decode cX5_feed 4 = .ok (.bipush 20, 2) := by decide +kernel
theorem dX5_feed_6 : decode cX5_feed 6 = .ok (.iadd, 1) := by decide +kernel
theorem dX5_feed_7 : decode cX5_feed 7 = .ok (.bipush 60, 2) := by decide +kernel
theorem dX5_feed_9 : decode cX5_feed 9 = .ok (.if_icmp .le 7, 3) := by decide +kernel
theorem dX5_feed_12 : decode cX5_feed 12 = .ok (.sipush (-10000), 3) := by decide +kernel
theorem dX5_feed_15 : decode cX5_feed 15 = .ok (.ireturn, 1) := by decide +kernel
theorem dX5_feed_16 : decode cX5_feed 16 = .ok (.aload_n 0, 1) := by decide +kernel
theorem dX5_feed_17 : decode cX5_feed 17 = .ok (.iload_n 1, 1) := by decide +kernel
theorem dX5_feed_18 : decode cX5_feed 18 = .ok (.invokevirtual 71, 3) := by decide +kernel
theorem dX5_feed_21 : decode cX5_feed 21 = .ok (.aload_n 0, 1) := by decide +kernel
theorem dX5_feed_22 : decode cX5_feed 22 = .ok (.iload_n 2, 1) := by decide +kernel
theorem dX5_feed_23 : decode cX5_feed 23 = .ok (.invokevirtual 71, 3) := by decide +kernel
theorem dX5_feed_26 : decode cX5_feed 26 = .ok (.aload_n 0, 1) := by decide +kernel
theorem dX5_feed_27 : decode cX5_feed 27 = .ok (.iload_n 3, 1) := by decide +kernel
theorem dX5_feed_28 : decode cX5_feed 28 = .ok (.invokevirtual 71, 3) := by decide +kernel
theorem dX5_feed_31 : decode cX5_feed 31 = .ok (.aload_n 0, 1) := by decide +kernel
theorem dX5_feed_32 : decode cX5_feed 32 = .ok (.iload 4, 2) := by decide +kernel
theorem dX5_feed_34 : decode cX5_feed 34 = .ok (.invokevirtual 71, 3) := by decide +kernel
theorem dX5_feed_37 : decode cX5_feed 37 = .ok (.aload_n 0, 1) := by decide +kernel
theorem dX5_feed_38 : decode cX5_feed 38 = .ok (.iload 5, 2) := by decide +kernel
theorem dX5_feed_40 : decode cX5_feed 40 = .ok (.invokevirtual 71, 3) := by decide +kernel
theorem dX5_feed_43 : decode cX5_feed 43 = .ok (.aload_n 0, 1) := by decide +kernel
theorem dX5_feed_44 : decode cX5_feed 44 = .ok (.getfield 68, 3) := by decide +kernel
theorem dX5_feed_47 : decode cX5_feed 47 = .ok (.ireturn, 1) := by decide +kernel
theorem dX5_asAtFirst_0 : decode cX5_asAtFirst 0 = .ok (.aload_n 0, 1) := by decide +kernel
theorem dX5_asAtFirst_1 : decode cX5_asAtFirst 1 = .ok (.iconst 0, 1) := by decide +kernel
theorem dX5_asAtFirst_2 : decode cX5_asAtFirst 2 = .ok (.sipush 240, 3) := by decide +kernel
theorem dX5_asAtFirst_5 : decode cX5_asAtFirst 5 = .ok (.iastore, 1) := by decide +kernel
theorem dX5_asAtFirst_6 : decode cX5_asAtFirst 6 = .ok (.aload_n 0, 1) := by decide +kernel
theorem dX5_asAtFirst_7 : decode cX5_asAtFirst 7 = .ok (.iconst 1, 1) := by decide +kernel
theorem dX5_asAtFirst_8 : decode cX5_asAtFirst 8 = .ok (.bipush 18, 2) := by decide +kernel
theorem dX5_asAtFirst_10 : decode cX5_asAtFirst 10 = .ok (.iastore, 1) := by decide +kernel
theorem dX5_asAtFirst_11 : decode cX5_asAtFirst 11 = .ok (.aload_n 0, 1) := by decide +kernel
theorem dX5_asAtFirst_12 : decode cX5_asAtFirst 12 = .ok (.iconst 2, 1) := by decide +kernel
theorem dX5_asAtFirst_13 : decode cX5_asAtFirst 13 = .ok (.bipush 100, 2) := by decide +kernel
theorem dX5_asAtFirst_15 : decode cX5_asAtFirst 15 = .ok (.iastore, 1) := by decide +kernel
theorem dX5_asAtFirst_16 : decode cX5_asAtFirst 16 = .ok (.aload_n 0, 1) := by decide +kernel
theorem dX5_asAtFirst_17 : decode cX5_asAtFirst 17 = .ok (.iconst 3, 1) := by decide +kernel
theorem dX5_asAtFirst_18 : decode cX5_asAtFirst 18 = .ok (.bipush 70, 2) := by decide +kernel
theorem dX5_asAtFirst_20 : decode cX5_asAtFirst 20 = .ok (.iastore, 1) := by decide +kernel
theorem dX5_asAtFirst_21 : decode cX5_asAtFirst 21 = .ok (.aload_n 0, 1) := by decide +kernel
theorem dX5_asAtFirst_22 : decode cX5_asAtFirst 22 = .ok (.iconst 4, 1) := by decide +kernel
theorem dX5_asAtFirst_23 : decode cX5_asAtFirst 23 = .ok (.bipush 95, 2) := by decide +kernel
theorem dX5_asAtFirst_25 : decode cX5_asAtFirst 25 = .ok (.iastore, 1) := by decide +kernel
theorem dX5_asAtFirst_26 : decode cX5_asAtFirst 26 = .ok (.aload_n 0, 1) := by decide +kernel
theorem dX5_asAtFirst_27 : decode cX5_asAtFirst 27 = .ok (.iconst 5, 1) := by decide +kernel
theorem dX5_asAtFirst_28 : decode cX5_asAtFirst 28 = .ok (.bipush 12, 2) := by decide +kernel
theorem dX5_asAtFirst_30 : decode cX5_asAtFirst 30 = .ok (.iastore, 1) := by decide +kernel
theorem dX5_asAtFirst_31 : decode cX5_asAtFirst 31 = .ok (.aload_n 0, 1) := by decide +kernel
theorem dX5_asAtFirst_32 : decode cX5_asAtFirst 32 = .ok (.bipush 6, 2) := by decide +kernel
theorem dX5_asAtFirst_34 : decode cX5_asAtFirst 34 = .ok (.iconst 1, 1) := by decide +kernel
theorem dX5_asAtFirst_35 : decode cX5_asAtFirst 35 = .ok (.iastore, 1) := by decide +kernel
theorem dX5_asAtFirst_36 : decode cX5_asAtFirst 36 = .ok (.return_, 1) := by decide +kernel
theorem dX5_letter_0 : decode cX5_letter 0 = .ok (.iload_n 0, 1) := by decide +kernel
theorem dX5_letter_1 : decode cX5_letter 1 = .ok (.tableswitch 114 99 119 #[109, 114, 114, 114, 105, 107, 114, 114, 99, 114, 101, 114, 114, 114, 114, 114, 114, 111, 114, 114, 103], 99) := by decide +kernel
theorem dX5_letter_100 : decode cX5_letter 100 = .ok (.iconst 0, 1) := by decide +kernel
theorem dX5_letter_101 : decode cX5_letter 101 = .ok (.ireturn, 1) := by decide +kernel
theorem dX5_letter_102 : decode cX5_letter 102 = .ok (.iconst 1, 1) := by decide +kernel
theorem dX5_letter_103 : decode cX5_letter 103 = .ok (.ireturn, 1) := by decide +kernel
theorem dX5_letter_104 : decode cX5_letter 104 = .ok (.iconst 2, 1) := by decide +kernel
theorem dX5_letter_105 : decode cX5_letter 105 = .ok (.ireturn, 1) := by decide +kernel
theorem dX5_letter_106 : decode cX5_letter 106 = .ok (.iconst 3, 1) := by decide +kernel
theorem dX5_letter_107 : decode cX5_letter 107 = .ok (.ireturn, 1) := by decide +kernel
theorem dX5_letter_108 : decode cX5_letter 108 = .ok (.iconst 4, 1) := by decide +kernel
theorem dX5_letter_109 : decode cX5_letter 109 = .ok (.ireturn, 1) := by decide +kernel
theorem dX5_letter_110 : decode cX5_letter 110 = .ok (.iconst 5, 1) := by decide +kernel
theorem dX5_letter_111 : decode cX5_letter 111 = .ok (.ireturn, 1) := by decide +kernel
theorem dX5_letter_112 : decode cX5_letter 112 = .ok (.bipush 6, 2) := by decide +kernel
theorem dX5_letter_114 : decode cX5_letter 114 = .ok (.ireturn, 1) := by decide +kernel
theorem dX5_letter_115 : decode cX5_letter 115 = .ok (.sipush (-10000), 3) := by decide +kernel
theorem dX5_letter_118 : decode cX5_letter 118 = .ok (.ireturn, 1) := by decide +kernel
set_option maxRecDepth 20000 in
theorem ggX5_canBe_X5_lies : GoodIn wsX5_canBe wsX5_lies := goodIn_r _ [4] (by decide +kernel) (by decide +kernel)
set_option maxRecDepth 20000 in
theorem gX5_canBe_X5_lies : GoodIn wsX5_canBe (va_wsS RX5 75 yX5_lies wsX5_lies) := goodIn_app (goodIn_of _ (by decide +kernel)) ggX5_canBe_X5_lies
theorem dX5_canBe_0 : decode cX5_canBe 0 = .ok (.iload_n 0, 1) := by decide +kernel
theorem dX5_canBe_1 : decode cX5_canBe 1 = .ok (.tableswitch 95 0 5 #[39, 49, 61, 61, 74, 87], 39) := by decide +kernel
theorem dX5_canBe_40 : decode cX5_canBe 40 = .ok (.iload_n 1, 1) := by decide +kernel
theorem dX5_canBe_41 : decode cX5_canBe 41 = .ok (.bipush 20, 2) := by decide +kernel
theorem dX5_canBe_43 : decode cX5_canBe 43 = .ok (.sipush 600, 3) := by decide +kernel
theorem dX5_canBe_46 : decode cX5_canBe 46 = .ok (.invokestatic 75, 3) := by decide +kernel
theorem dX5_canBe_49 : decode cX5_canBe 49 = .ok (.ireturn, 1) := by decide +kernel
theorem dX5_canBe_50 : decode cX5_canBe 50 = .ok (.iload_n 1, 1) := by decide +kernel
theorem dX5_canBe_51 : decode cX5_canBe 51 = .ok (.bipush 99, 2) := by decide +kernel
theorem dX5_canBe_53 : decode cX5_canBe 53 = .ok (.if_icmp .gt 7, 3) := by decide +kernel
theorem dX5_canBe_56 : decode cX5_canBe 56 = .ok (.iconst 1, 1) := by decide +kernel
theorem dX5_canBe_57 : decode cX5_canBe 57 = .ok (.goto 4, 3) := by decide +kernel
theorem dX5_canBe_60 : decode cX5_canBe 60 = .ok (.iconst 0, 1) := by decide +kernel
theorem dX5_canBe_61 : decode cX5_canBe 61 = .ok (.ireturn, 1) := by decide +kernel
theorem dX5_canBe_62 : decode cX5_canBe 62 = .ok (.iload_n 1, 1) := by decide +kernel
theorem dX5_canBe_63 : decode cX5_canBe 63 = .ok (.sipush 999, 3) := by decide +kernel
theorem dX5_canBe_66 : decode cX5_canBe 66 = .ok (.if_icmp .gt 7, 3) := by decide +kernel
theorem dX5_canBe_69 : decode cX5_canBe 69 = .ok (.iconst 1, 1) := by decide +kernel
theorem dX5_canBe_70 : decode cX5_canBe 70 = .ok (.goto 4, 3) := by decide +kernel
theorem dX5_canBe_73 : decode cX5_canBe 73 = .ok (.iconst 0, 1) := by decide +kernel
theorem dX5_canBe_74 : decode cX5_canBe 74 = .ok (.ireturn, 1) := by decide +kernel
theorem dX5_canBe_75 : decode cX5_canBe 75 = .ok (.iload_n 1, 1) := by decide +kernel
theorem dX5_canBe_76 : decode cX5_canBe 76 = .ok (.sipush 200, 3) := by decide +kernel
theorem dX5_canBe_79 : decode cX5_canBe 79 = .ok (.if_icmp .gt 7, 3) := by decide +kernel
theorem dX5_canBe_82 : decode cX5_canBe 82 = .ok (.iconst 1, 1) := by decide +kernel
theorem dX5_canBe_83 : decode cX5_canBe 83 = .ok (.goto 4, 3) := by decide +kernel
theorem dX5_canBe_86 : decode cX5_canBe 86 = .ok (.iconst 0, 1) := by decide +kernel
theorem dX5_canBe_87 : decode cX5_canBe 87 = .ok (.ireturn, 1) := by decide +kernel
theorem dX5_canBe_88 : decode cX5_canBe 88 = .ok (.iload_n 1, 1) := by decide +kernel
theorem dX5_canBe_89 : decode cX5_canBe 89 = .ok (.iconst 1, 1) := by decide +kernel
theorem dX5_canBe_90 : decode cX5_canBe 90 = .ok (.bipush 24, 2) := by decide +kernel
theorem dX5_canBe_92 : decode cX5_canBe 92 = .ok (.invokestatic 75, 3) := by decide +kernel
theorem dX5_canBe_95 : decode cX5_canBe 95 = .ok (.ireturn, 1) := by decide +kernel
theorem dX5_canBe_96 : decode cX5_canBe 96 = .ok (.iload_n 1, 1) := by decide +kernel
theorem dX5_canBe_97 : decode cX5_canBe 97 = .ok (.iconst 1, 1) := by decide +kernel
theorem dX5_canBe_98 : decode cX5_canBe 98 = .ok (.if_icmp .gt 7, 3) := by decide +kernel
theorem dX5_canBe_101 : decode cX5_canBe 101 = .ok (.iconst 1, 1) := by decide +kernel
theorem dX5_canBe_102 : decode cX5_canBe 102 = .ok (.goto 4, 3) := by decide +kernel
theorem dX5_canBe_105 : decode cX5_canBe 105 = .ok (.iconst 0, 1) := by decide +kernel
theorem dX5_canBe_106 : decode cX5_canBe 106 = .ok (.ireturn, 1) := by decide +kernel
theorem dX5_at_0 : decode cX5_at 0 = .ok (.iload_n 1, 1) := by decide +kernel
theorem dX5_at_1 : decode cX5_at 1 = .ok (.iload_n 2, 1) := by decide +kernel
theorem dX5_at_2 : decode cX5_at 2 = .ok (.if_icmp .ge 16, 3) := by decide +kernel
theorem dX5_at_5 : decode cX5_at 5 = .ok (.aload_n 0, 1) := by decide +kernel
theorem dX5_at_6 : decode cX5_at 6 = .ok (.getfield 7, 3) := by decide +kernel
theorem dX5_at_9 : decode cX5_at 9 = .ok (.iload_n 1, 1) := by decide +kernel
theorem dX5_at_10 : decode cX5_at 10 = .ok (.baload, 1) := by decide +kernel
theorem dX5_at_11 : decode cX5_at 11 = .ok (.sipush 255, 3) := by decide +kernel
theorem dX5_at_14 : decode cX5_at 14 = .ok (.iand, 1) := by decide +kernel
theorem dX5_at_15 : decode cX5_at 15 = .ok (.goto 4, 3) := by decide +kernel
theorem dX5_at_18 : decode cX5_at 18 = .ok (.iconst 0, 1) := by decide +kernel
theorem dX5_at_19 : decode cX5_at 19 = .ok (.ireturn, 1) := by decide +kernel
set_option maxRecDepth 20000 in
theorem ggX5_reads_X5_asAtFirst : GoodIn wsX5_reads wsX5_asAtFirst := goodIn_r _ [5] (by decide +kernel) (by decide +kernel)
set_option maxRecDepth 20000 in
theorem gX5_reads_X5_asAtFirst : GoodIn wsX5_reads (va_wsS RX5 64 yX5_asAtFirst wsX5_asAtFirst) := goodIn_app (goodIn_of _ (by decide +kernel)) ggX5_reads_X5_asAtFirst
set_option maxRecDepth 20000 in
theorem ggX5_reads_X5_at : GoodIn wsX5_reads wsX5_at := goodIn_r _ [9, 10, 20, 21, 22, 23, 24, 25, 26, 27, 28, 29, 30, 31, 32, 33, 34, 35, 36, 37, 38, 39, 40] (by decide +kernel) (by decide +kernel)
set_option maxRecDepth 20000 in
theorem gX5_reads_X5_at : GoodIn wsX5_reads (wsV RX5 79 RX5 yX5_at wsX5_at) := goodIn_app (goodIn_of _ (by decide +kernel)) ggX5_reads_X5_at
set_option maxRecDepth 20000 in
theorem ggX5_reads_X5_letter : GoodIn wsX5_reads wsX5_letter := goodIn_r _ [13] (by decide +kernel) (by decide +kernel)
set_option maxRecDepth 20000 in
theorem gX5_reads_X5_letter : GoodIn wsX5_reads (va_wsS RX5 83 yX5_letter wsX5_letter) := goodIn_app (goodIn_of _ (by decide +kernel)) ggX5_reads_X5_letter
set_option maxRecDepth 20000 in
theorem ggX5_reads_X5_lies : GoodIn wsX5_reads wsX5_lies := goodIn_r _ [16] (by decide +kernel) (by decide +kernel)
set_option maxRecDepth 20000 in
theorem gX5_reads_X5_lies : GoodIn wsX5_reads (va_wsS RX5 75 yX5_lies wsX5_lies) := goodIn_app (goodIn_of _ (by decide +kernel)) ggX5_reads_X5_lies
set_option maxRecDepth 20000 in
theorem ggX5_reads_X5_canBe : GoodIn wsX5_reads wsX5_canBe := goodIn_r _ [19, 14, 15, 4, 16] (by decide +kernel) (by decide +kernel)
set_option maxRecDepth 20000 in
theorem gX5_reads_X5_canBe : GoodIn wsX5_reads (va_wsS RX5 87 yX5_canBe wsX5_canBe) := goodIn_app (goodIn_of _ (by decide +kernel)) ggX5_reads_X5_canBe
theorem dX5_reads_0 : decode cX5_reads 0 = .ok (.aload_n 0, 1) := by decide +kernel
theorem dX5_reads_1 : decode cX5_reads 1 = .ok (.getfield 17, 3) := by decide +kernel
theorem dX5_reads_4 : decode cX5_reads 4 = .ok (.invokestatic 64, 3) := by decide +kernel
theorem dX5_reads_7 : decode cX5_reads 7 = .ok (.iconst 0, 1) := by decide +kernel
theorem dX5_reads_8 : decode cX5_reads 8 = .ok (.istore_n 2, 1) := by decide +kernel
theorem dX5_reads_9 : decode cX5_reads 9 = .ok (.iconst 0, 1) := by decide +kernel
theorem dX5_reads_10 : decode cX5_reads 10 = .ok (.istore_n 3, 1) := by decide +kernel
theorem dX5_reads_11 : decode cX5_reads 11 = .ok (.iload_n 3, 1) := by decide +kernel
theorem dX5_reads_12 : decode cX5_reads 12 = .ok (.iload_n 1, 1) := by decide +kernel
theorem dX5_reads_13 : decode cX5_reads 13 = .ok (.if_icmp .gt 170, 3) := by decide +kernel
theorem dX5_reads_16 : decode cX5_reads 16 = .ok (.aload_n 0, 1) := by decide +kernel
theorem dX5_reads_17 : decode cX5_reads 17 = .ok (.iload_n 2, 1) := by decide +kernel
theorem dX5_reads_18 : decode cX5_reads 18 = .ok (.iload_n 1, 1) := by decide +kernel
theorem dX5_reads_19 : decode cX5_reads 19 = .ok (.invokevirtual 79, 3) := by decide +kernel
theorem dX5_reads_22 : decode cX5_reads 22 = .ok (.invokestatic 83, 3) := by decide +kernel
theorem dX5_reads_25 : decode cX5_reads 25 = .ok (.istore 4, 2) := by decide +kernel
theorem dX5_reads_27 : decode cX5_reads 27 = .ok (.iload 4, 2) := by decide +kernel
theorem dX5_reads_29 : decode cX5_reads 29 = .ok (.sipush (-10000), 3) := by decide +kernel
theorem dX5_reads_32 : decode cX5_reads 32 = .ok (.if_icmp .ne 8, 3) := by decide +kernel
theorem dX5_reads_35 : decode cX5_reads 35 = .ok (.bipush 100, 2) := by decide +kernel
theorem dX5_reads_37 : decode cX5_reads 37 = .ok (.iload_n 2, 1) := by decide +kernel
theorem dX5_reads_38 : decode cX5_reads 38 = .ok (.iadd, 1) := by decide +kernel
theorem dX5_reads_39 : decode cX5_reads 39 = .ok (.ireturn, 1) := by decide +kernel
theorem dX5_reads_40 : decode cX5_reads 40 = .ok (.iinc 2 1, 3) := by decide +kernel
theorem dX5_reads_43 : decode cX5_reads 43 = .ok (.aload_n 0, 1) := by decide +kernel
theorem dX5_reads_44 : decode cX5_reads 44 = .ok (.iload_n 2, 1) := by decide +kernel
theorem dX5_reads_45 : decode cX5_reads 45 = .ok (.iload_n 1, 1) := by decide +kernel
theorem dX5_reads_46 : decode cX5_reads 46 = .ok (.invokevirtual 79, 3) := by decide +kernel
theorem dX5_reads_49 : decode cX5_reads 49 = .ok (.bipush 48, 2) := by decide +kernel
theorem dX5_reads_51 : decode cX5_reads 51 = .ok (.bipush 57, 2) := by decide +kernel
theorem dX5_reads_53 : decode cX5_reads 53 = .ok (.invokestatic 75, 3) := by decide +kernel
theorem dX5_reads_56 : decode cX5_reads 56 = .ok (.ifCond .ne 9, 3) := by decide +kernel
theorem dX5_reads_59 : decode cX5_reads 59 = .ok (.sipush 200, 3) := by decide +kernel
theorem dX5_reads_62 : decode cX5_reads 62 = .ok (.iload_n 2, 1) := by decide +kernel
theorem dX5_reads_63 : decode cX5_reads 63 = .ok (.iadd, 1) := by decide +kernel
theorem dX5_reads_64 : decode cX5_reads 64 = .ok (.ireturn, 1) := by decide +kernel
theorem dX5_reads_65 : decode cX5_reads 65 = .ok (.iload_n 2, 1) := by decide +kernel
theorem dX5_reads_66 : decode cX5_reads 66 = .ok (.istore 5, 2) := by decide +kernel
theorem dX5_reads_68 : decode cX5_reads 68 = .ok (.iconst 0, 1) := by decide +kernel
theorem dX5_reads_69 : decode cX5_reads 69 = .ok (.istore 6, 2) := by decide +kernel
theorem dX5_reads_71 : decode cX5_reads 71 = .ok (.aload_n 0, 1) := by decide +kernel
theorem dX5_reads_72 : decode cX5_reads 72 = .ok (.iload_n 2, 1) := by decide +kernel
theorem dX5_reads_73 : decode cX5_reads 73 = .ok (.iload_n 1, 1) := by decide +kernel
theorem dX5_reads_74 : decode cX5_reads 74 = .ok (.invokevirtual 79, 3) := by decide +kernel
theorem dX5_reads_77 : decode cX5_reads 77 = .ok (.bipush 48, 2) := by decide +kernel
theorem dX5_reads_79 : decode cX5_reads 79 = .ok (.bipush 57, 2) := by decide +kernel
theorem dX5_reads_81 : decode cX5_reads 81 = .ok (.invokestatic 75, 3) := by decide +kernel
theorem dX5_reads_84 : decode cX5_reads 84 = .ok (.ifCond .eq 40, 3) := by decide +kernel
theorem dX5_reads_87 : decode cX5_reads 87 = .ok (.iload_n 2, 1) := by decide +kernel
theorem dX5_reads_88 : decode cX5_reads 88 = .ok (.iload 5, 2) := by decide +kernel
theorem dX5_reads_90 : decode cX5_reads 90 = .ok (.iconst 4, 1) := by decide +kernel
theorem dX5_reads_91 : decode cX5_reads 91 = .ok (.iadd, 1) := by decide +kernel
theorem dX5_reads_92 : decode cX5_reads 92 = .ok (.if_icmp .ne 9, 3) := by decide +kernel
theorem dX5_reads_95 : decode cX5_reads 95 = .ok (.sipush 300, 3) := by decide +kernel
theorem dX5_reads_98 : decode cX5_reads 98 = .ok (.iload_n 2, 1) := by decide +kernel
theorem dX5_reads_99 : decode cX5_reads 99 = .ok (.iadd, 1) := by decide +kernel
theorem dX5_reads_100 : decode cX5_reads 100 = .ok (.ireturn, 1) := by decide +kernel
theorem dX5_reads_101 : decode cX5_reads 101 = .ok (.bipush 10, 2) := by decide +kernel
theorem dX5_reads_103 : decode cX5_reads 103 = .ok (.iload 6, 2) := by decide +kernel
theorem dX5_reads_105 : decode cX5_reads 105 = .ok (.imul, 1) := by decide +kernel
theorem dX5_reads_106 : decode cX5_reads 106 = .ok (.aload_n 0, 1) := by decide +kernel
theorem dX5_reads_107 : decode cX5_reads 107 = .ok (.iload_n 2, 1) := by decide +kernel
theorem dX5_reads_108 : decode cX5_reads 108 = .ok (.iload_n 1, 1) := by decide +kernel
theorem dX5_reads_109 : decode cX5_reads 109 = .ok (.invokevirtual 79, 3) := by decide +kernel
theorem dX5_reads_112 : decode cX5_reads 112 = .ok (.iadd, 1) := by decide +kernel
theorem dX5_reads_113 : decode cX5_reads 113 = .ok (.bipush 48, 2) := by decide +kernel
theorem dX5_reads_115 : decode cX5_reads 115 = .ok (.isub, 1) := by decide +kernel
theorem dX5_reads_116 : decode cX5_reads 116 = .ok (.istore 6, 2) := by decide +kernel
theorem dX5_reads_118 : decode cX5_reads 118 = .ok (.iinc 2 1, 3) := by decide +kernel
theorem dX5_reads_121 : decode cX5_reads 121 = .ok (.goto (-50), 3) := by decide +kernel
theorem dX5_reads_124 : decode cX5_reads 124 = .ok (.iload 4, 2) := by decide +kernel
theorem dX5_reads_126 : decode cX5_reads 126 = .ok (.iload 6, 2) := by decide +kernel
theorem dX5_reads_128 : decode cX5_reads 128 = .ok (.invokestatic 87, 3) := by decide +kernel
theorem dX5_reads_131 : decode cX5_reads 131 = .ok (.ifCond .ne 10, 3) := by decide +kernel
theorem dX5_reads_134 : decode cX5_reads 134 = .ok (.sipush 400, 3) := by decide +kernel
theorem dX5_reads_137 : decode cX5_reads 137 = .ok (.iload 5, 2) := by decide +kernel
theorem dX5_reads_139 : decode cX5_reads 139 = .ok (.iadd, 1) := by decide +kernel
theorem dX5_reads_140 : decode cX5_reads 140 = .ok (.ireturn, 1) := by decide +kernel
theorem dX5_reads_141 : decode cX5_reads 141 = .ok (.aload_n 0, 1) := by decide +kernel
theorem dX5_reads_142 : decode cX5_reads 142 = .ok (.getfield 17, 3) := by decide +kernel
theorem dX5_reads_145 : decode cX5_reads 145 = .ok (.iload 4, 2) := by decide +kernel
theorem dX5_reads_147 : decode cX5_reads 147 = .ok (.iload 6, 2) := by decide +kernel
theorem dX5_reads_149 : decode cX5_reads 149 = .ok (.iastore, 1) := by decide +kernel
theorem dX5_reads_150 : decode cX5_reads 150 = .ok (.iload_n 2, 1) := by decide +kernel
theorem dX5_reads_151 : decode cX5_reads 151 = .ok (.iload_n 1, 1) := by decide +kernel
theorem dX5_reads_152 : decode cX5_reads 152 = .ok (.if_icmp .ne 5, 3) := by decide +kernel
theorem dX5_reads_155 : decode cX5_reads 155 = .ok (.iconst 0, 1) := by decide +kernel
theorem dX5_reads_156 : decode cX5_reads 156 = .ok (.ireturn, 1) := by decide +kernel
theorem dX5_reads_157 : decode cX5_reads 157 = .ok (.aload_n 0, 1) := by decide +kernel
theorem dX5_reads_158 : decode cX5_reads 158 = .ok (.iload_n 2, 1) := by decide +kernel
theorem dX5_reads_159 : decode cX5_reads 159 = .ok (.iload_n 1, 1) := by decide +kernel
theorem dX5_reads_160 : decode cX5_reads 160 = .ok (.invokevirtual 79, 3) := by decide +kernel
theorem dX5_reads_163 : decode cX5_reads 163 = .ok (.bipush 59, 2) := by decide +kernel
theorem dX5_reads_165 : decode cX5_reads 165 = .ok (.if_icmp .eq 9, 3) := by decide +kernel
theorem dX5_reads_168 : decode cX5_reads 168 = .ok (.sipush 500, 3) := by decide +kernel
theorem dX5_reads_171 : decode cX5_reads 171 = .ok (.iload_n 2, 1) := by decide +kernel
theorem dX5_reads_172 : decode cX5_reads 172 = .ok (.iadd, 1) := by decide +kernel
theorem dX5_reads_173 : decode cX5_reads 173 = .ok (.ireturn, 1) := by decide +kernel
theorem dX5_reads_174 : decode cX5_reads 174 = .ok (.iinc 2 1, 3) := by decide +kernel
theorem dX5_reads_177 : decode cX5_reads 177 = .ok (.iinc 3 1, 3) := by decide +kernel
theorem dX5_reads_180 : decode cX5_reads 180 = .ok (.goto (-169), 3) := by decide +kernel
theorem dX5_reads_183 : decode cX5_reads 183 = .ok (.bipush 100, 2) := by decide +kernel
theorem dX5_reads_185 : decode cX5_reads 185 = .ok (.iload_n 2, 1) := by decide +kernel
theorem dX5_reads_186 : decode cX5_reads 186 = .ok (.iadd, 1) := by decide +kernel
theorem dX5_reads_187 : decode cX5_reads 187 = .ok (.ireturn, 1) := by decide +kernel
set_option maxRecDepth 20000 in
theorem ggX5_rules_X5_reads : GoodIn wsX5_rules wsX5_reads := goodIn_r _ [8, 3, 9, 10, 7, 11, 12, 13, 14, 15, 16, 17, 18, 19, 20, 21, 22, 23, 24, 25, 26, 27, 28, 29, 30, 31, 32, 33, 34, 35, 36, 37, 38, 39, 40, 41, 42, 43, 44, 45, 46] (by decide +kernel) (by decide +kernel)
set_option maxRecDepth 20000 in
theorem gX5_rules_X5_reads : GoodIn wsX5_rules (wsV RX5 91 RX5 yX5_reads wsX5_reads) := goodIn_app (goodIn_of _ (by decide +kernel)) ggX5_rules_X5_reads
theorem dX5_rules_0 : decode cX5_rules 0 = .ok (.iload_n 1, 1) := by decide +kernel
theorem dX5_rules_1 : decode cX5_rules 1 = .ok (.ifCond .lt 11, 3) := by decide +kernel
theorem dX5_rules_4 : decode cX5_rules 4 = .ok (.iload_n 1, 1) := by decide +kernel
theorem dX5_rules_5 : decode cX5_rules 5 = .ok (.aload_n 0, 1) := by decide +kernel
theorem dX5_rules_6 : decode cX5_rules 6 = .ok (.getfield 68, 3) := by decide +kernel
theorem dX5_rules_9 : decode cX5_rules 9 = .ok (.if_icmp .le 7, 3) := by decide +kernel
theorem dX5_rules_12 : decode cX5_rules 12 = .ok (.sipush (-10000), 3) := by decide +kernel
theorem dX5_rules_15 : decode cX5_rules 15 = .ok (.ireturn, 1) := by decide +kernel
theorem dX5_rules_16 : decode cX5_rules 16 = .ok (.aload_n 0, 1) := by decide +kernel
theorem dX5_rules_17 : decode cX5_rules 17 = .ok (.iconst 0, 1) := by decide +kernel
theorem dX5_rules_18 : decode cX5_rules 18 = .ok (.putfield 68, 3) := by decide +kernel
theorem dX5_rules_21 : decode cX5_rules 21 = .ok (.aload_n 0, 1) := by decide +kernel
theorem dX5_rules_22 : decode cX5_rules 22 = .ok (.iload_n 1, 1) := by decide +kernel
theorem dX5_rules_23 : decode cX5_rules 23 = .ok (.invokevirtual 91, 3) := by decide +kernel
theorem dX5_rules_26 : decode cX5_rules 26 = .ok (.istore_n 2, 1) := by decide +kernel
theorem dX5_rules_27 : decode cX5_rules 27 = .ok (.iconst 0, 1) := by decide +kernel
theorem dX5_rules_28 : decode cX5_rules 28 = .ok (.istore_n 3, 1) := by decide +kernel
theorem dX5_rules_29 : decode cX5_rules 29 = .ok (.iload_n 3, 1) := by decide +kernel
theorem dX5_rules_30 : decode cX5_rules 30 = .ok (.bipush 7, 2) := by decide +kernel
theorem dX5_rules_32 : decode cX5_rules 32 = .ok (.if_icmp .ge 25, 3) := by decide +kernel
theorem dX5_rules_35 : decode cX5_rules 35 = .ok (.iload_n 2, 1) := by decide +kernel
theorem dX5_rules_36 : decode cX5_rules 36 = .ok (.ifCond .ne 21, 3) := by decide +kernel
theorem dX5_rules_39 : decode cX5_rules 39 = .ok (.aload_n 0, 1) := by decide +kernel
theorem dX5_rules_40 : decode cX5_rules 40 = .ok (.getfield 13, 3) := by decide +kernel
theorem dX5_rules_43 : decode cX5_rules 43 = .ok (.iload_n 3, 1) := by decide +kernel
theorem dX5_rules_44 : decode cX5_rules 44 = .ok (.aload_n 0, 1) := by decide +kernel
theorem dX5_rules_45 : decode cX5_rules 45 = .ok (.getfield 17, 3) := by decide +kernel
theorem dX5_rules_48 : decode cX5_rules 48 = .ok (.iload_n 3, 1) := by decide +kernel
theorem dX5_rules_49 : decode cX5_rules 49 = .ok (.iaload, 1) := by decide +kernel
theorem dX5_rules_50 : decode cX5_rules 50 = .ok (.iastore, 1) := by decide +kernel
theorem dX5_rules_51 : decode cX5_rules 51 = .ok (.iinc 3 1, 3) := by decide +kernel
theorem dX5_rules_54 : decode cX5_rules 54 = .ok (.goto (-25), 3) := by decide +kernel
theorem dX5_rules_57 : decode cX5_rules 57 = .ok (.iload_n 2, 1) := by decide +kernel
theorem dX5_rules_58 : decode cX5_rules 58 = .ok (.ireturn, 1) := by decide +kernel
set_option maxRecDepth 20000 in
theorem ggX5_rule_X5_lies : GoodIn wsX5_rule wsX5_lies := goodIn_r _ [5] (by decide +kernel) (by decide +kernel)
set_option maxRecDepth 20000 in
theorem gX5_rule_X5_lies : GoodIn wsX5_rule (va_wsS RX5 75 yX5_lies wsX5_lies) := goodIn_app (goodIn_of _ (by decide +kernel)) ggX5_rule_X5_lies
theorem dX5_rule_0 : decode cX5_rule 0 = .ok (.iload_n 1, 1) := by decide +kernel
theorem dX5_rule_1 : decode cX5_rule 1 = .ok (.iconst 0, 1) := by decide +kernel
theorem dX5_rule_2 : decode cX5_rule 2 = .ok (.bipush 6, 2) := by decide +kernel
theorem dX5_rule_4 : decode cX5_rule 4 = .ok (.invokestatic 75, 3) := by decide +kernel
theorem dX5_rule_7 : decode cX5_rule 7 = .ok (.ifCond .eq 12, 3) := by decide +kernel
theorem dX5_rule_10 : decode cX5_rule 10 = .ok (.aload_n 0, 1) := by decide +kernel
theorem dX5_rule_11 : decode cX5_rule 11 = .ok (.getfield 13, 3) := by decide +kernel
theorem dX5_rule_14 : decode cX5_rule 14 = .ok (.iload_n 1, 1) := by decide +kernel
theorem dX5_rule_15 : decode cX5_rule 15 = .ok (.iaload, 1) := by decide +kernel
theorem dX5_rule_16 : decode cX5_rule 16 = .ok (.goto 6, 3) := by decide +kernel
theorem dX5_rule_19 : decode cX5_rule 19 = .ok (.sipush (-10000), 3) := by decide +kernel
theorem dX5_rule_22 : decode cX5_rule 22 = .ok (.ireturn, 1) := by decide +kernel
set_option maxRecDepth 20000 in
theorem ggX5_jumper_X5_lies : GoodIn wsX5_jumper wsX5_lies := goodIn_r _ [6] (by decide +kernel) (by decide +kernel)
set_option maxRecDepth 20000 in
theorem gX5_jumper_X5_lies : GoodIn wsX5_jumper (va_wsS RX5 75 yX5_lies wsX5_lies) := goodIn_app (goodIn_of _ (by decide +kernel)) ggX5_jumper_X5_lies
theorem dX5_jumper_0 : decode cX5_jumper 0 = .ok (.aload_n 0, 1) := by decide +kernel
theorem dX5_jumper_1 : decode cX5_jumper 1 = .ok (.getfield 94, 3) := by decide +kernel
theorem dX5_jumper_4 : decode cX5_jumper 4 = .ok (.bipush 24, 2) := by decide +kernel
theorem dX5_jumper_6 : decode cX5_jumper 6 = .ok (.if_icmp .eq 12, 3) := by decide +kernel
theorem dX5_jumper_9 : decode cX5_jumper 9 = .ok (.iload_n 1, 1) := by decide +kernel
theorem dX5_jumper_10 : decode cX5_jumper 10 = .ok (.iconst 0, 1) := by decide +kernel
theorem dX5_jumper_11 : decode cX5_jumper 11 = .ok (.iconst 5, 1) := by decide +kernel
theorem dX5_jumper_12 : decode cX5_jumper 12 = .ok (.invokestatic 75, 3) := by decide +kernel
theorem dX5_jumper_15 : decode cX5_jumper 15 = .ok (.ifCond .ne 7, 3) := by decide +kernel
theorem dX5_jumper_18 : decode cX5_jumper 18 = .ok (.sipush (-10000), 3) := by decide +kernel
theorem dX5_jumper_21 : decode cX5_jumper 21 = .ok (.ireturn, 1) := by decide +kernel
theorem dX5_jumper_22 : decode cX5_jumper 22 = .ok (.aload_n 0, 1) := by decide +kernel
theorem dX5_jumper_23 : decode cX5_jumper 23 = .ok (.getfield 24, 3) := by decide +kernel
theorem dX5_jumper_26 : decode cX5_jumper 26 = .ok (.aload_n 0, 1) := by decide +kernel
theorem dX5_jumper_27 : decode cX5_jumper 27 = .ok (.getfield 94, 3) := by decide +kernel
theorem dX5_jumper_30 : decode cX5_jumper 30 = .ok (.iload_n 1, 1) := by decide +kernel
theorem dX5_jumper_31 : decode cX5_jumper 31 = .ok (.iastore, 1) := by decide +kernel
theorem dX5_jumper_32 : decode cX5_jumper 32 = .ok (.aload_n 0, 1) := by decide +kernel
theorem dX5_jumper_33 : decode cX5_jumper 33 = .ok (.dup, 1) := by decide +kernel
theorem dX5_jumper_34 : decode cX5_jumper 34 = .ok (.getfield 94, 3) := by decide +kernel
theorem dX5_jumper_37 : decode cX5_jumper 37 = .ok (.iconst 1, 1) := by decide +kernel
theorem dX5_jumper_38 : decode cX5_jumper 38 = .ok (.iadd, 1) := by decide +kernel
theorem dX5_jumper_39 : decode cX5_jumper 39 = .ok (.putfield 94, 3) := by decide +kernel
theorem dX5_jumper_42 : decode cX5_jumper 42 = .ok (.aload_n 0, 1) := by decide +kernel
theorem dX5_jumper_43 : decode cX5_jumper 43 = .ok (.getfield 94, 3) := by decide +kernel
theorem dX5_jumper_46 : decode cX5_jumper 46 = .ok (.iconst 1, 1) := by decide +kernel
theorem dX5_jumper_47 : decode cX5_jumper 47 = .ok (.isub, 1) := by decide +kernel
theorem dX5_jumper_48 : decode cX5_jumper 48 = .ok (.ireturn, 1) := by decide +kernel
set_option maxRecDepth 20000 in
theorem ggX5_isJumper_X5_lies : GoodIn wsX5_isJumper wsX5_lies := goodIn_r _ [5] (by decide +kernel) (by decide +kernel)
set_option maxRecDepth 20000 in
theorem gX5_isJumper_X5_lies : GoodIn wsX5_isJumper (va_wsS RX5 75 yX5_lies wsX5_lies) := goodIn_app (goodIn_of _ (by decide +kernel)) ggX5_isJumper_X5_lies
theorem dX5_isJumper_0 : decode cX5_isJumper 0 = .ok (.iload_n 1, 1) := by decide +kernel
theorem dX5_isJumper_1 : decode cX5_isJumper 1 = .ok (.iconst 0, 1) := by decide +kernel
theorem dX5_isJumper_2 : decode cX5_isJumper 2 = .ok (.aload_n 0, 1) := by decide +kernel
theorem dX5_isJumper_3 : decode cX5_isJumper 3 = .ok (.getfield 94, 3) := by decide +kernel
theorem dX5_isJumper_6 : decode cX5_isJumper 6 = .ok (.iconst 1, 1) := by decide +kernel
theorem dX5_isJumper_7 : decode cX5_isJumper 7 = .ok (.isub, 1) := by decide +kernel
theorem dX5_isJumper_8 : decode cX5_isJumper 8 = .ok (.invokestatic 75, 3) := by decide +kernel
theorem dX5_isJumper_11 : decode cX5_isJumper 11 = .ok (.ireturn, 1) := by decide +kernel
set_option maxRecDepth 20000 in
theorem ggX5_sensor_X5_lies : GoodIn wsX5_sensor wsX5_lies := goodIn_r _ [5] (by decide +kernel) (by decide +kernel)
set_option maxRecDepth 20000 in
theorem gX5_sensor_X5_lies : GoodIn wsX5_sensor (va_wsS RX5 75 yX5_lies wsX5_lies) := goodIn_app (goodIn_of _ (by decide +kernel)) ggX5_sensor_X5_lies
theorem dX5_sensor_0 : decode cX5_sensor 0 = .ok (.iload_n 1, 1) := by decide +kernel
theorem dX5_sensor_1 : decode cX5_sensor 1 = .ok (.iconst 0, 1) := by decide +kernel
theorem dX5_sensor_2 : decode cX5_sensor 2 = .ok (.iconst 4, 1) := by decide +kernel
theorem dX5_sensor_3 : decode cX5_sensor 3 = .ok (.invokestatic 75, 3) := by decide +kernel
theorem dX5_sensor_6 : decode cX5_sensor 6 = .ok (.ifCond .eq 13, 3) := by decide +kernel
theorem dX5_sensor_9 : decode cX5_sensor 9 = .ok (.iload_n 2, 1) := by decide +kernel
theorem dX5_sensor_10 : decode cX5_sensor 10 = .ok (.iconst 0, 1) := by decide +kernel
theorem dX5_sensor_11 : decode cX5_sensor 11 = .ok (.bipush 9, 2) := by decide +kernel
theorem dX5_sensor_13 : decode cX5_sensor 13 = .ok (.invokestatic 75, 3) := by decide +kernel
theorem dX5_sensor_16 : decode cX5_sensor 16 = .ok (.ifCond .ne 5, 3) := by decide +kernel
theorem dX5_sensor_19 : decode cX5_sensor 19 = .ok (.iconst 0, 1) := by decide +kernel
theorem dX5_sensor_20 : decode cX5_sensor 20 = .ok (.ireturn, 1) := by decide +kernel
theorem dX5_sensor_21 : decode cX5_sensor 21 = .ok (.aload_n 0, 1) := by decide +kernel
theorem dX5_sensor_22 : decode cX5_sensor 22 = .ok (.getfield 30, 3) := by decide +kernel
theorem dX5_sensor_25 : decode cX5_sensor 25 = .ok (.iload_n 1, 1) := by decide +kernel
theorem dX5_sensor_26 : decode cX5_sensor 26 = .ok (.iload_n 2, 1) := by decide +kernel
theorem dX5_sensor_27 : decode cX5_sensor 27 = .ok (.iastore, 1) := by decide +kernel
theorem dX5_sensor_28 : decode cX5_sensor 28 = .ok (.iconst 1, 1) := by decide +kernel
theorem dX5_sensor_29 : decode cX5_sensor 29 = .ok (.ireturn, 1) := by decide +kernel
set_option maxRecDepth 20000 in
theorem ggX5_base_X5_lies : GoodIn wsX5_base wsX5_lies := goodIn_r _ [5] (by decide +kernel) (by decide +kernel)
set_option maxRecDepth 20000 in
theorem gX5_base_X5_lies : GoodIn wsX5_base (va_wsS RX5 75 yX5_lies wsX5_lies) := goodIn_app (goodIn_of _ (by decide +kernel)) ggX5_base_X5_lies
theorem dX5_base_0 : decode cX5_base 0 = .ok (.iload_n 1, 1) := by decide +kernel
theorem dX5_base_1 : decode cX5_base 1 = .ok (.iconst 1, 1) := by decide +kernel
theorem dX5_base_2 : decode cX5_base 2 = .ok (.bipush 50, 2) := by decide +kernel
theorem dX5_base_4 : decode cX5_base 4 = .ok (.invokestatic 75, 3) := by decide +kernel
theorem dX5_base_7 : decode cX5_base 7 = .ok (.ifCond .ne 5, 3) := by decide +kernel
theorem dX5_base_10 : decode cX5_base 10 = .ok (.iconst 0, 1) := by decide +kernel
theorem dX5_base_11 : decode cX5_base 11 = .ok (.ireturn, 1) := by decide +kernel
theorem dX5_base_12 : decode cX5_base 12 = .ok (.aload_n 0, 1) := by decide +kernel
theorem dX5_base_13 : decode cX5_base 13 = .ok (.iload_n 1, 1) := by decide +kernel
theorem dX5_base_14 : decode cX5_base 14 = .ok (.putfield 20, 3) := by decide +kernel
theorem dX5_base_17 : decode cX5_base 17 = .ok (.iconst 1, 1) := by decide +kernel
theorem dX5_base_18 : decode cX5_base 18 = .ok (.ireturn, 1) := by decide +kernel
set_option maxRecDepth 20000 in
theorem ggX5_isJump_X5_isJumper : GoodIn wsX5_isJump wsX5_isJumper := goodIn_r _ [5, 6, 7, 8, 4, 9, 10, 11, 12, 13, 14, 15, 16, 17, 18, 19, 20, 21, 22, 23, 24, 25, 26, 27, 28, 29, 30] (by decide +kernel) (by decide +kernel)
set_option maxRecDepth 20000 in
theorem gX5_isJump_X5_isJumper : GoodIn wsX5_isJump (wsV RX5 97 RX5 yX5_isJumper wsX5_isJumper) := goodIn_app (goodIn_of _ (by decide +kernel)) ggX5_isJump_X5_isJumper
theorem dX5_isJump_0 : decode cX5_isJump 0 = .ok (.aload_n 0, 1) := by decide +kernel
theorem dX5_isJump_1 : decode cX5_isJump 1 = .ok (.iload_n 1, 1) := by decide +kernel
theorem dX5_isJump_2 : decode cX5_isJump 2 = .ok (.invokevirtual 97, 3) := by decide +kernel
theorem dX5_isJump_5 : decode cX5_isJump 5 = .ok (.ifCond .ne 14, 3) := by decide +kernel
theorem dX5_isJump_8 : decode cX5_isJump 8 = .ok (.aload_n 0, 1) := by decide +kernel
theorem dX5_isJump_9 : decode cX5_isJump 9 = .ok (.iload_n 1, 1) := by decide +kernel
theorem dX5_isJump_10 : decode cX5_isJump 10 = .ok (.bipush 32, 2) := by decide +kernel
theorem dX5_isJump_12 : decode cX5_isJump 12 = .ok (.isub, 1) := by decide +kernel
theorem dX5_isJump_13 : decode cX5_isJump 13 = .ok (.invokevirtual 97, 3) := by decide +kernel
theorem dX5_isJump_16 : decode cX5_isJump 16 = .ok (.ifCond .eq 7, 3) := by decide +kernel
theorem dX5_isJump_19 : decode cX5_isJump 19 = .ok (.iconst 1, 1) := by decide +kernel
theorem dX5_isJump_20 : decode cX5_isJump 20 = .ok (.goto 4, 3) := by decide +kernel
theorem dX5_isJump_23 : decode cX5_isJump 23 = .ok (.iconst 0, 1) := by decide +kernel
theorem dX5_isJump_24 : decode cX5_isJump 24 = .ok (.ireturn, 1) := by decide +kernel
theorem dX5_tells_0 : decode cX5_tells 0 = .ok (.aload_n 0, 1) := by decide +kernel
theorem dX5_tells_1 : decode cX5_tells 1 = .ok (.getfield 33, 3) := by decide +kernel
theorem dX5_tells_4 : decode cX5_tells 4 = .ok (.aload_n 0, 1) := by decide +kernel
theorem dX5_tells_5 : decode cX5_tells 5 = .ok (.getfield 101, 3) := by decide +kernel
theorem dX5_tells_8 : decode cX5_tells 8 = .ok (.iload_n 1, 1) := by decide +kernel
theorem dX5_tells_9 : decode cX5_tells 9 = .ok (.iastore, 1) := by decide +kernel
theorem dX5_tells_10 : decode cX5_tells 10 = .ok (.aload_n 0, 1) := by decide +kernel
theorem dX5_tells_11 : decode cX5_tells 11 = .ok (.getfield 36, 3) := by decide +kernel
theorem dX5_tells_14 : decode cX5_tells 14 = .ok (.aload_n 0, 1) := by decide +kernel
theorem dX5_tells_15 : decode cX5_tells 15 = .ok (.getfield 101, 3) := by decide +kernel
theorem dX5_tells_18 : decode cX5_tells 18 = .ok (.iload_n 2, 1) := by decide +kernel
theorem dX5_tells_19 : decode cX5_tells 19 = .ok (.iastore, 1) := by decide +kernel
theorem dX5_tells_20 : decode cX5_tells 20 = .ok (.aload_n 0, 1) := by decide +kernel
theorem dX5_tells_21 : decode cX5_tells 21 = .ok (.getfield 39, 3) := by decide +kernel
theorem dX5_tells_24 : decode cX5_tells 24 = .ok (.iconst 5, 1) := by decide +kernel
theorem dX5_tells_25 : decode cX5_tells 25 = .ok (.aload_n 0, 1) := by decide +kernel
theorem dX5_tells_26 : decode cX5_tells 26 = .ok (.getfield 101, 3) := by decide +kernel
theorem dX5_tells_29 : decode cX5_tells 29 = .ok (.imul, 1) := by decide +kernel
theorem dX5_tells_30 : decode cX5_tells 30 = .ok (.iload_n 3, 1) := by decide +kernel
theorem dX5_tells_31 : decode cX5_tells 31 = .ok (.iastore, 1) := by decide +kernel
theorem dX5_tells_32 : decode cX5_tells 32 = .ok (.aload_n 0, 1) := by decide +kernel
theorem dX5_tells_33 : decode cX5_tells 33 = .ok (.getfield 39, 3) := by decide +kernel
theorem dX5_tells_36 : decode cX5_tells 36 = .ok (.iconst 5, 1) := by decide +kernel
theorem dX5_tells_37 : decode cX5_tells 37 = .ok (.aload_n 0, 1) := by decide +kernel
theorem dX5_tells_38 : decode cX5_tells 38 = .ok (.getfield 101, 3) := by decide +kernel
theorem dX5_tells_41 : decode cX5_tells 41 = .ok (.imul, 1) := by decide +kernel
theorem dX5_tells_42 : decode cX5_tells 42 = .ok (.iconst 1, 1) := by decide +kernel
theorem dX5_tells_43 : decode cX5_tells 43 = .ok (.iadd, 1) := by decide +kernel
theorem dX5_tells_44 : decode cX5_tells 44 = .ok (.iload 4, 2) := by decide +kernel
theorem dX5_tells_46 : decode cX5_tells 46 = .ok (.iastore, 1) := by decide +kernel
theorem dX5_tells_47 : decode cX5_tells 47 = .ok (.aload_n 0, 1) := by decide +kernel
theorem dX5_tells_48 : decode cX5_tells 48 = .ok (.getfield 39, 3) := by decide +kernel
theorem dX5_tells_51 : decode cX5_tells 51 = .ok (.iconst 5, 1) := by decide +kernel
theorem dX5_tells_52 : decode cX5_tells 52 = .ok (.aload_n 0, 1) := by decide +kernel
theorem dX5_tells_53 : decode cX5_tells 53 = .ok (.getfield 101, 3) := by decide +kernel
theorem dX5_tells_56 : decode cX5_tells 56 = .ok (.imul, 1) := by decide +kernel
theorem dX5_tells_57 : decode cX5_tells 57 = .ok (.iconst 2, 1) := by decide +kernel
theorem dX5_tells_58 : decode cX5_tells 58 = .ok (.iadd, 1) := by decide +kernel
theorem dX5_tells_59 : decode cX5_tells 59 = .ok (.iload 5, 2) := by decide +kernel
theorem dX5_tells_61 : decode cX5_tells 61 = .ok (.iastore, 1) := by decide +kernel
theorem dX5_tells_62 : decode cX5_tells 62 = .ok (.aload_n 0, 1) := by decide +kernel
theorem dX5_tells_63 : decode cX5_tells 63 = .ok (.getfield 39, 3) := by decide +kernel
theorem dX5_tells_66 : decode cX5_tells 66 = .ok (.iconst 5, 1) := by decide +kernel
theorem dX5_tells_67 : decode cX5_tells 67 = .ok (.aload_n 0, 1) := by decide +kernel
theorem dX5_tells_68 : decode cX5_tells 68 = .ok (.getfield 101, 3) := by decide +kernel
theorem dX5_tells_71 : decode cX5_tells 71 = .ok (.imul, 1) := by decide +kernel
theorem dX5_tells_72 : decode cX5_tells 72 = .ok (.iconst 3, 1) := by decide +kernel
theorem dX5_tells_73 : decode cX5_tells 73 = .ok (.iadd, 1) := by decide +kernel
theorem dX5_tells_74 : decode cX5_tells 74 = .ok (.iload 6, 2) := by decide +kernel
theorem dX5_tells_76 : decode cX5_tells 76 = .ok (.iastore, 1) := by decide +kernel
theorem dX5_tells_77 : decode cX5_tells 77 = .ok (.aload_n 0, 1) := by decide +kernel
theorem dX5_tells_78 : decode cX5_tells 78 = .ok (.getfield 39, 3) := by decide +kernel
theorem dX5_tells_81 : decode cX5_tells 81 = .ok (.iconst 5, 1) := by decide +kernel
theorem dX5_tells_82 : decode cX5_tells 82 = .ok (.aload_n 0, 1) := by decide +kernel
theorem dX5_tells_83 : decode cX5_tells 83 = .ok (.getfield 101, 3) := by decide +kernel
theorem dX5_tells_86 : decode cX5_tells 86 = .ok (.imul, 1) := by decide +kernel
theorem dX5_tells_87 : decode cX5_tells 87 = .ok (.iconst 4, 1) := by decide +kernel
theorem dX5_tells_88 : decode cX5_tells 88 = .ok (.iadd, 1) := by decide +kernel
theorem dX5_tells_89 : decode cX5_tells 89 = .ok (.iload 7, 2) := by decide +kernel
theorem dX5_tells_91 : decode cX5_tells 91 = .ok (.iastore, 1) := by decide +kernel
theorem dX5_tells_92 : decode cX5_tells 92 = .ok (.aload_n 0, 1) := by decide +kernel
theorem dX5_tells_93 : decode cX5_tells 93 = .ok (.dup, 1) := by decide +kernel
theorem dX5_tells_94 : decode cX5_tells 94 = .ok (.getfield 101, 3) := by decide +kernel
theorem dX5_tells_97 : decode cX5_tells 97 = .ok (.iconst 1, 1) := by decide +kernel
theorem dX5_tells_98 : decode cX5_tells 98 = .ok (.iadd, 1) := by decide +kernel
theorem dX5_tells_99 : decode cX5_tells 99 = .ok (.putfield 101, 3) := by decide +kernel
theorem dX5_tells_102 : decode cX5_tells 102 = .ok (.aload_n 0, 1) := by decide +kernel
theorem dX5_tells_103 : decode cX5_tells 103 = .ok (.getfield 101, 3) := by decide +kernel
theorem dX5_tells_106 : decode cX5_tells 106 = .ok (.iconst 1, 1) := by decide +kernel
theorem dX5_tells_107 : decode cX5_tells 107 = .ok (.isub, 1) := by decide +kernel
theorem dX5_tells_108 : decode cX5_tells 108 = .ok (.ireturn, 1) := by decide +kernel
set_option maxRecDepth 20000 in
theorem ggX5_reading_X5_isJumper : GoodIn wsX5_reading wsX5_isJumper := goodIn_r _ [6, 7, 8, 9, 5, 10, 18, 19, 20, 21, 22, 23, 24, 25, 26, 27, 28, 29, 30, 31, 32, 33, 34, 35, 36, 37, 38] (by decide +kernel) (by decide +kernel)
set_option maxRecDepth 20000 in
theorem gX5_reading_X5_isJumper : GoodIn wsX5_reading (wsV RX5 97 RX5 yX5_isJumper wsX5_isJumper) := goodIn_app (goodIn_of _ (by decide +kernel)) ggX5_reading_X5_isJumper
set_option maxRecDepth 20000 in
theorem ggX5_reading_X5_lies : GoodIn wsX5_reading wsX5_lies := goodIn_r _ [10] (by decide +kernel) (by decide +kernel)
set_option maxRecDepth 20000 in
theorem gX5_reading_X5_lies : GoodIn wsX5_reading (va_wsS RX5 75 yX5_lies wsX5_lies) := goodIn_app (goodIn_of _ (by decide +kernel)) ggX5_reading_X5_lies
set_option maxRecDepth 20000 in
theorem ggX5_reading_X5_tells : GoodIn wsX5_reading wsX5_tells := goodIn_r _ [14, 15, 1, 16, 17, 18, 19, 20, 21, 22, 23, 24, 25, 26, 27, 28, 29, 30, 31, 32, 33, 34, 35, 36, 37, 38] (by decide +kernel) (by decide +kernel)
set_option maxRecDepth 20000 in
theorem gX5_reading_X5_tells : GoodIn wsX5_reading (wsV RX5 104 RX5 yX5_tells wsX5_tells) := goodIn_app (goodIn_of _ (by decide +kernel)) ggX5_reading_X5_tells
theorem dX5_reading_0 : decode cX5_reading 0 = .ok (.aload_n 0, 1) := by decide +kernel
theorem dX5_reading_1 : decode cX5_reading 1 = .ok (.iload_n 1, 1) := by decide +kernel
theorem dX5_reading_2 : decode cX5_reading 2 = .ok (.invokevirtual 97, 3) := by decide +kernel
theorem dX5_reading_5 : decode cX5_reading 5 = .ok (.ifCond .eq 44, 3) := by decide +kernel
theorem dX5_reading_8 : decode cX5_reading 8 = .ok (.iload_n 2, 1) := by decide +kernel
theorem dX5_reading_9 : decode cX5_reading 9 = .ok (.iconst 0, 1) := by decide +kernel
theorem dX5_reading_10 : decode cX5_reading 10 = .ok (.iconst 1, 1) := by decide +kernel
theorem dX5_reading_11 : decode cX5_reading 11 = .ok (.invokestatic 75, 3) := by decide +kernel
theorem dX5_reading_14 : decode cX5_reading 14 = .ok (.ifCond .eq 35, 3) := by decide +kernel
theorem dX5_reading_17 : decode cX5_reading 17 = .ok (.iload_n 3, 1) := by decide +kernel
theorem dX5_reading_18 : decode cX5_reading 18 = .ok (.iconst 0, 1) := by decide +kernel
theorem dX5_reading_19 : decode cX5_reading 19 = .ok (.sipush 600, 3) := by decide +kernel
theorem dX5_reading_22 : decode cX5_reading 22 = .ok (.invokestatic 75, 3) := by decide +kernel
theorem dX5_reading_25 : decode cX5_reading 25 = .ok (.ifCond .eq 24, 3) := by decide +kernel
theorem dX5_reading_28 : decode cX5_reading 28 = .ok (.iload 4, 2) := by decide +kernel
theorem dX5_reading_30 : decode cX5_reading 30 = .ok (.iconst 1, 1) := by decide +kernel
theorem dX5_reading_31 : decode cX5_reading 31 = .ok (.bipush 50, 2) := by decide +kernel
theorem dX5_reading_33 : decode cX5_reading 33 = .ok (.invokestatic 75, 3) := by decide +kernel
theorem dX5_reading_36 : decode cX5_reading 36 = .ok (.ifCond .eq 13, 3) := by decide +kernel
theorem dX5_reading_39 : decode cX5_reading 39 = .ok (.aload_n 0, 1) := by decide +kernel
theorem dX5_reading_40 : decode cX5_reading 40 = .ok (.getfield 101, 3) := by decide +kernel
theorem dX5_reading_43 : decode cX5_reading 43 = .ok (.sipush 200, 3) := by decide +kernel
theorem dX5_reading_46 : decode cX5_reading 46 = .ok (.if_icmp .ne 7, 3) := by decide +kernel
theorem dX5_reading_49 : decode cX5_reading 49 = .ok (.sipush (-10000), 3) := by decide +kernel
theorem dX5_reading_52 : decode cX5_reading 52 = .ok (.ireturn, 1) := by decide +kernel
theorem dX5_reading_53 : decode cX5_reading 53 = .ok (.aload_n 0, 1) := by decide +kernel
theorem dX5_reading_54 : decode cX5_reading 54 = .ok (.iconst 0, 1) := by decide +kernel
theorem dX5_reading_55 : decode cX5_reading 55 = .ok (.iload_n 1, 1) := by decide +kernel
theorem dX5_reading_56 : decode cX5_reading 56 = .ok (.bipush 32, 2) := by decide +kernel
theorem dX5_reading_58 : decode cX5_reading 58 = .ok (.iload_n 2, 1) := by decide +kernel
theorem dX5_reading_59 : decode cX5_reading 59 = .ok (.imul, 1) := by decide +kernel
theorem dX5_reading_60 : decode cX5_reading 60 = .ok (.iadd, 1) := by decide +kernel
theorem dX5_reading_61 : decode cX5_reading 61 = .ok (.iload_n 3, 1) := by decide +kernel
theorem dX5_reading_62 : decode cX5_reading 62 = .ok (.iload 4, 2) := by decide +kernel
theorem dX5_reading_64 : decode cX5_reading 64 = .ok (.iload 5, 2) := by decide +kernel
theorem dX5_reading_66 : decode cX5_reading 66 = .ok (.ifCond .eq 7, 3) := by decide +kernel
theorem dX5_reading_69 : decode cX5_reading 69 = .ok (.iconst 1, 1) := by decide +kernel
theorem dX5_reading_70 : decode cX5_reading 70 = .ok (.goto 4, 3) := by decide +kernel
theorem dX5_reading_73 : decode cX5_reading 73 = .ok (.iconst 0, 1) := by decide +kernel
theorem dX5_reading_74 : decode cX5_reading 74 = .ok (.iconst 0, 1) := by decide +kernel
theorem dX5_reading_75 : decode cX5_reading 75 = .ok (.iconst 0, 1) := by decide +kernel
theorem dX5_reading_76 : decode cX5_reading 76 = .ok (.invokevirtual 104, 3) := by decide +kernel
theorem dX5_reading_79 : decode cX5_reading 79 = .ok (.ireturn, 1) := by decide +kernel
set_option maxRecDepth 20000 in
theorem ggX5_isWind_X5_lies : GoodIn wsX5_isWind wsX5_lies := goodIn_r _ [4] (by decide +kernel) (by decide +kernel)
set_option maxRecDepth 20000 in
theorem gX5_isWind_X5_lies : GoodIn wsX5_isWind (va_wsS RX5 75 yX5_lies wsX5_lies) := goodIn_app (goodIn_of _ (by decide +kernel)) ggX5_isWind_X5_lies
theorem dX5_isWind_0 : decode cX5_isWind 0 = .ok (.iload_n 0, 1) := by decide +kernel
theorem dX5_isWind_1 : decode cX5_isWind 1 = .ok (.sipush (-10000), 3) := by decide +kernel
theorem dX5_isWind_4 : decode cX5_isWind 4 = .ok (.if_icmp .eq 16, 3) := by decide +kernel
theorem dX5_isWind_7 : decode cX5_isWind 7 = .ok (.iload_n 0, 1) := by decide +kernel
theorem dX5_isWind_8 : decode cX5_isWind 8 = .ok (.sipush (-999), 3) := by decide +kernel
theorem dX5_isWind_11 : decode cX5_isWind 11 = .ok (.sipush 999, 3) := by decide +kernel
theorem dX5_isWind_14 : decode cX5_isWind 14 = .ok (.invokestatic 75, 3) := by decide +kernel
theorem dX5_isWind_17 : decode cX5_isWind 17 = .ok (.ifCond .eq 7, 3) := by decide +kernel
theorem dX5_isWind_20 : decode cX5_isWind 20 = .ok (.iconst 1, 1) := by decide +kernel
theorem dX5_isWind_21 : decode cX5_isWind 21 = .ok (.goto 4, 3) := by decide +kernel
theorem dX5_isWind_24 : decode cX5_isWind 24 = .ok (.iconst 0, 1) := by decide +kernel
theorem dX5_isWind_25 : decode cX5_isWind 25 = .ok (.ireturn, 1) := by decide +kernel
set_option maxRecDepth 20000 in
theorem ggX5_wind_X5_isJump : GoodIn wsX5_wind wsX5_isJump := goodIn_r _ [6, 7, 8, 9, 5, 10, 11, 12, 13, 14, 25, 26, 27, 28, 29, 30, 31, 32, 33, 34, 35, 36, 37, 38, 39, 40, 41, 42, 43, 44, 45] (by decide +kernel) (by decide +kernel)
set_option maxRecDepth 20000 in
theorem gX5_wind_X5_isJump : GoodIn wsX5_wind (wsV RX5 108 RX5 yX5_isJump wsX5_isJump) := goodIn_app (goodIn_of _ (by decide +kernel)) ggX5_wind_X5_isJump
set_option maxRecDepth 20000 in
theorem ggX5_wind_X5_isWind : GoodIn wsX5_wind wsX5_isWind := goodIn_r _ [17, 12, 13, 5, 14] (by decide +kernel) (by decide +kernel)
set_option maxRecDepth 20000 in
theorem gX5_wind_X5_isWind : GoodIn wsX5_wind (va_wsS RX5 111 yX5_isWind wsX5_isWind) := goodIn_app (goodIn_of _ (by decide +kernel)) ggX5_wind_X5_isWind
set_option maxRecDepth 20000 in
theorem ggX5_wind_X5_tells : GoodIn wsX5_wind wsX5_tells := goodIn_r _ [21, 22, 1, 23, 24, 25, 26, 27, 28, 29, 30, 31, 32, 33, 34, 35, 36, 37, 38, 39, 40, 41, 42, 43, 44, 45] (by decide +kernel) (by decide +kernel)
set_option maxRecDepth 20000 in
theorem gX5_wind_X5_tells : GoodIn wsX5_wind (wsV RX5 104 RX5 yX5_tells wsX5_tells) := goodIn_app (goodIn_of _ (by decide +kernel)) ggX5_wind_X5_tells
theorem dX5_wind_0 : decode cX5_wind 0 = .ok (.aload_n 0, 1) := by decide +kernel
theorem dX5_wind_1 : decode cX5_wind 1 = .ok (.iload_n 1, 1) := by decide +kernel
theorem dX5_wind_2 : decode cX5_wind 2 = .ok (.invokevirtual 108, 3) := by decide +kernel
theorem dX5_wind_5 : decode cX5_wind 5 = .ok (.ifCond .eq 51, 3) := by decide +kernel
theorem dX5_wind_8 : decode cX5_wind 8 = .ok (.iload_n 2, 1) := by decide +kernel
theorem dX5_wind_9 : decode cX5_wind 9 = .ok (.invokestatic 111, 3) := by decide +kernel
theorem dX5_wind_12 : decode cX5_wind 12 = .ok (.ifCond .eq 44, 3) := by decide +kernel
theorem dX5_wind_15 : decode cX5_wind 15 = .ok (.iload_n 3, 1) := by decide +kernel
theorem dX5_wind_16 : decode cX5_wind 16 = .ok (.invokestatic 111, 3) := by decide +kernel
theorem dX5_wind_19 : decode cX5_wind 19 = .ok (.ifCond .eq 37, 3) := by decide +kernel
theorem dX5_wind_22 : decode cX5_wind 22 = .ok (.iload 4, 2) := by decide +kernel
theorem dX5_wind_24 : decode cX5_wind 24 = .ok (.invokestatic 111, 3) := by decide +kernel
theorem dX5_wind_27 : decode cX5_wind 27 = .ok (.ifCond .eq 29, 3) := by decide +kernel
theorem dX5_wind_30 : decode cX5_wind 30 = .ok (.iload 5, 2) := by decide +kernel
theorem dX5_wind_32 : decode cX5_wind 32 = .ok (.invokestatic 111, 3) := by decide +kernel
theorem dX5_wind_35 : decode cX5_wind 35 = .ok (.ifCond .eq 21, 3) := by decide +kernel
theorem dX5_wind_38 : decode cX5_wind 38 = .ok (.iload 6, 2) := by decide +kernel
theorem dX5_wind_40 : decode cX5_wind 40 = .ok (.invokestatic 111, 3) := by decide +kernel
theorem dX5_wind_43 : decode cX5_wind 43 = .ok (.ifCond .eq 13, 3) := by decide +kernel
theorem dX5_wind_46 : decode cX5_wind 46 = .ok (.aload_n 0, 1) := by decide +kernel
theorem dX5_wind_47 : decode cX5_wind 47 = .ok (.getfield 101, 3) := by decide +kernel
theorem dX5_wind_50 : decode cX5_wind 50 = .ok (.sipush 200, 3) := by decide +kernel
theorem dX5_wind_53 : decode cX5_wind 53 = .ok (.if_icmp .ne 7, 3) := by decide +kernel
theorem dX5_wind_56 : decode cX5_wind 56 = .ok (.sipush (-10000), 3) := by decide +kernel
theorem dX5_wind_59 : decode cX5_wind 59 = .ok (.ireturn, 1) := by decide +kernel
theorem dX5_wind_60 : decode cX5_wind 60 = .ok (.aload_n 0, 1) := by decide +kernel
theorem dX5_wind_61 : decode cX5_wind 61 = .ok (.iconst 1, 1) := by decide +kernel
theorem dX5_wind_62 : decode cX5_wind 62 = .ok (.iload_n 1, 1) := by decide +kernel
theorem dX5_wind_63 : decode cX5_wind 63 = .ok (.iload_n 2, 1) := by decide +kernel
theorem dX5_wind_64 : decode cX5_wind 64 = .ok (.iload_n 3, 1) := by decide +kernel
theorem dX5_wind_65 : decode cX5_wind 65 = .ok (.iload 4, 2) := by decide +kernel
theorem dX5_wind_67 : decode cX5_wind 67 = .ok (.iload 5, 2) := by decide +kernel
theorem dX5_wind_69 : decode cX5_wind 69 = .ok (.iload 6, 2) := by decide +kernel
theorem dX5_wind_71 : decode cX5_wind 71 = .ok (.invokevirtual 104, 3) := by decide +kernel
theorem dX5_wind_74 : decode cX5_wind 74 = .ok (.ireturn, 1) := by decide +kernel
set_option maxRecDepth 20000 in
theorem ggX5_isMark_X5_lies : GoodIn wsX5_isMark wsX5_lies := goodIn_r _ [4] (by decide +kernel) (by decide +kernel)
set_option maxRecDepth 20000 in
theorem gX5_isMark_X5_lies : GoodIn wsX5_isMark (va_wsS RX5 75 yX5_lies wsX5_lies) := goodIn_app (goodIn_of _ (by decide +kernel)) ggX5_isMark_X5_lies
theorem dX5_isMark_0 : decode cX5_isMark 0 = .ok (.iload_n 0, 1) := by decide +kernel
theorem dX5_isMark_1 : decode cX5_isMark 1 = .ok (.iconst 0, 1) := by decide +kernel
theorem dX5_isMark_2 : decode cX5_isMark 2 = .ok (.bipush 40, 2) := by decide +kernel
theorem dX5_isMark_4 : decode cX5_isMark 4 = .ok (.invokestatic 75, 3) := by decide +kernel
theorem dX5_isMark_7 : decode cX5_isMark 7 = .ok (.ireturn, 1) := by decide +kernel
set_option maxRecDepth 20000 in
theorem ggX5_style_X5_isJump : GoodIn wsX5_style wsX5_isJump := goodIn_r _ [6, 7, 8, 9, 5, 10, 11, 12, 13, 14, 25, 26, 27, 28, 29, 30, 31, 32, 33, 34, 35, 36, 37, 38, 39, 40, 41, 42, 43, 44, 45] (by decide +kernel) (by decide +kernel)
set_option maxRecDepth 20000 in
theorem gX5_style_X5_isJump : GoodIn wsX5_style (wsV RX5 108 RX5 yX5_isJump wsX5_isJump) := goodIn_app (goodIn_of _ (by decide +kernel)) ggX5_style_X5_isJump
set_option maxRecDepth 20000 in
theorem ggX5_style_X5_isMark : GoodIn wsX5_style wsX5_isMark := goodIn_r _ [17, 12, 13, 5, 14] (by decide +kernel) (by decide +kernel)
set_option maxRecDepth 20000 in
theorem gX5_style_X5_isMark : GoodIn wsX5_style (va_wsS RX5 114 yX5_isMark wsX5_isMark) := goodIn_app (goodIn_of _ (by decide +kernel)) ggX5_style_X5_isMark
set_option maxRecDepth 20000 in
theorem ggX5_style_X5_tells : GoodIn wsX5_style wsX5_tells := goodIn_r _ [21, 22, 1, 23, 24, 25, 26, 27, 28, 29, 30, 31, 32, 33, 34, 35, 36, 37, 38, 39, 40, 41, 42, 43, 44, 45] (by decide +kernel) (by decide +kernel)
set_option maxRecDepth 20000 in
theorem gX5_style_X5_tells : GoodIn wsX5_style (wsV RX5 104 RX5 yX5_tells wsX5_tells) := goodIn_app (goodIn_of _ (by decide +kernel)) ggX5_style_X5_tells
theorem dX5_style_0 : decode cX5_style 0 = .ok (.aload_n 0, 1) := by decide +kernel
theorem dX5_style_1 : decode cX5_style 1 = .ok (.iload_n 1, 1) := by decide +kernel
theorem dX5_style_2 : decode cX5_style 2 = .ok (.invokevirtual 108, 3) := by decide +kernel
theorem dX5_style_5 : decode cX5_style 5 = .ok (.ifCond .eq 51, 3) := by decide +kernel
theorem dX5_style_8 : decode cX5_style 8 = .ok (.iload_n 2, 1) := by decide +kernel
theorem dX5_style_9 : decode cX5_style 9 = .ok (.invokestatic 114, 3) := by decide +kernel
theorem dX5_style_12 : decode cX5_style 12 = .ok (.ifCond .eq 44, 3) := by decide +kernel
theorem dX5_style_15 : decode cX5_style 15 = .ok (.iload_n 3, 1) := by decide +kernel
theorem dX5_style_16 : decode cX5_style 16 = .ok (.invokestatic 114, 3) := by decide +kernel
theorem dX5_style_19 : decode cX5_style 19 = .ok (.ifCond .eq 37, 3) := by decide +kernel
theorem dX5_style_22 : decode cX5_style 22 = .ok (.iload 4, 2) := by decide +kernel
theorem dX5_style_24 : decode cX5_style 24 = .ok (.invokestatic 114, 3) := by decide +kernel
theorem dX5_style_27 : decode cX5_style 27 = .ok (.ifCond .eq 29, 3) := by decide +kernel
theorem dX5_style_30 : decode cX5_style 30 = .ok (.iload 5, 2) := by decide +kernel
theorem dX5_style_32 : decode cX5_style 32 = .ok (.invokestatic 114, 3) := by decide +kernel
theorem dX5_style_35 : decode cX5_style 35 = .ok (.ifCond .eq 21, 3) := by decide +kernel
theorem dX5_style_38 : decode cX5_style 38 = .ok (.iload 6, 2) := by decide +kernel
theorem dX5_style_40 : decode cX5_style 40 = .ok (.invokestatic 114, 3) := by decide +kernel
theorem dX5_style_43 : decode cX5_style 43 = .ok (.ifCond .eq 13, 3) := by decide +kernel
theorem dX5_style_46 : decode cX5_style 46 = .ok (.aload_n 0, 1) := by decide +kernel
theorem dX5_style_47 : decode cX5_style 47 = .ok (.getfield 101, 3) := by decide +kernel
theorem dX5_style_50 : decode cX5_style 50 = .ok (.sipush 200, 3) := by decide +kernel
theorem dX5_style_53 : decode cX5_style 53 = .ok (.if_icmp .ne 7, 3) := by decide +kernel
theorem dX5_style_56 : decode cX5_style 56 = .ok (.sipush (-10000), 3) := by decide +kernel
theorem dX5_style_59 : decode cX5_style 59 = .ok (.ireturn, 1) := by decide +kernel
theorem dX5_style_60 : decode cX5_style 60 = .ok (.aload_n 0, 1) := by decide +kernel
theorem dX5_style_61 : decode cX5_style 61 = .ok (.iconst 2, 1) := by decide +kernel
theorem dX5_style_62 : decode cX5_style 62 = .ok (.iload_n 1, 1) := by decide +kernel
theorem dX5_style_63 : decode cX5_style 63 = .ok (.iload_n 2, 1) := by decide +kernel
theorem dX5_style_64 : decode cX5_style 64 = .ok (.iload_n 3, 1) := by decide +kernel
theorem dX5_style_65 : decode cX5_style 65 = .ok (.iload 4, 2) := by decide +kernel
theorem dX5_style_67 : decode cX5_style 67 = .ok (.iload 5, 2) := by decide +kernel
theorem dX5_style_69 : decode cX5_style 69 = .ok (.iload 6, 2) := by decide +kernel
theorem dX5_style_71 : decode cX5_style 71 = .ok (.invokevirtual 104, 3) := by decide +kernel
theorem dX5_style_74 : decode cX5_style 74 = .ok (.ireturn, 1) := by decide +kernel
set_option maxRecDepth 20000 in
theorem ggX5_strike_X5_isJumper : GoodIn wsX5_strike wsX5_isJumper := goodIn_r _ [6, 7, 8, 9, 5, 10, 26, 27, 28, 29, 30, 31, 32, 33, 34, 35, 36, 37, 38, 39, 40, 41, 42, 43, 44, 45, 46] (by decide +kernel) (by decide +kernel)
set_option maxRecDepth 20000 in
theorem gX5_strike_X5_isJumper : GoodIn wsX5_strike (wsV RX5 97 RX5 yX5_isJumper wsX5_isJumper) := goodIn_app (goodIn_of _ (by decide +kernel)) ggX5_strike_X5_isJumper
set_option maxRecDepth 20000 in
theorem ggX5_strike_X5_lies : GoodIn wsX5_strike wsX5_lies := goodIn_r _ [10] (by decide +kernel) (by decide +kernel)
set_option maxRecDepth 20000 in
theorem gX5_strike_X5_lies : GoodIn wsX5_strike (va_wsS RX5 75 yX5_lies wsX5_lies) := goodIn_app (goodIn_of _ (by decide +kernel)) ggX5_strike_X5_lies
set_option maxRecDepth 20000 in
theorem ggX5_strike_X5_isStruck : GoodIn wsX5_strike wsX5_isStruck := goodIn_r _ [14, 15, 16, 17, 18, 5, 19, 20, 21, 26, 27, 28, 29, 30, 31, 32, 33, 34, 35, 36, 37, 38, 39, 40, 41, 42, 43, 44, 45, 46] (by decide +kernel) (by decide +kernel)
set_option maxRecDepth 20000 in
theorem gX5_strike_X5_isStruck : GoodIn wsX5_strike (wsV RX5 117 RX5 yX5_isStruck wsX5_isStruck) := goodIn_app (goodIn_of _ (by decide +kernel)) ggX5_strike_X5_isStruck
set_option maxRecDepth 20000 in
theorem ggX5_strike_X5_tells : GoodIn wsX5_strike wsX5_tells := goodIn_r _ [25, 20, 1, 21, 15, 26, 27, 28, 29, 30, 31, 32, 33, 34, 35, 36, 37, 38, 39, 40, 41, 42, 43, 44, 45, 46] (by decide +kernel) (by decide +kernel)
set_option maxRecDepth 20000 in
theorem gX5_strike_X5_tells : GoodIn wsX5_strike (wsV RX5 104 RX5 yX5_tells wsX5_tells) := goodIn_app (goodIn_of _ (by decide +kernel)) ggX5_strike_X5_tells
theorem dX5_strike_0 : decode cX5_strike 0 = .ok (.aload_n 0, 1) := by decide +kernel
theorem dX5_strike_1 : decode cX5_strike 1 = .ok (.iload_n 1, 1) := by decide +kernel
theorem dX5_strike_2 : decode cX5_strike 2 = .ok (.invokevirtual 97, 3) := by decide +kernel
theorem dX5_strike_5 : decode cX5_strike 5 = .ok (.ifCond .eq 40, 3) := by decide +kernel
theorem dX5_strike_8 : decode cX5_strike 8 = .ok (.iload_n 2, 1) := by decide +kernel
theorem dX5_strike_9 : decode cX5_strike 9 = .ok (.iconst 0, 1) := by decide +kernel
theorem dX5_strike_10 : decode cX5_strike 10 = .ok (.iconst 1, 1) := by decide +kernel
theorem dX5_strike_11 : decode cX5_strike 11 = .ok (.invokestatic 75, 3) := by decide +kernel
theorem dX5_strike_14 : decode cX5_strike 14 = .ok (.ifCond .eq 31, 3) := by decide +kernel
theorem dX5_strike_17 : decode cX5_strike 17 = .ok (.aload_n 0, 1) := by decide +kernel
theorem dX5_strike_18 : decode cX5_strike 18 = .ok (.getfield 101, 3) := by decide +kernel
theorem dX5_strike_21 : decode cX5_strike 21 = .ok (.sipush 200, 3) := by decide +kernel
theorem dX5_strike_24 : decode cX5_strike 24 = .ok (.if_icmp .eq 21, 3) := by decide +kernel
theorem dX5_strike_27 : decode cX5_strike 27 = .ok (.aload_n 0, 1) := by decide +kernel
theorem dX5_strike_28 : decode cX5_strike 28 = .ok (.aload_n 0, 1) := by decide +kernel
theorem dX5_strike_29 : decode cX5_strike 29 = .ok (.getfield 101, 3) := by decide +kernel
theorem dX5_strike_32 : decode cX5_strike 32 = .ok (.iload_n 1, 1) := by decide +kernel
theorem dX5_strike_33 : decode cX5_strike 33 = .ok (.bipush 32, 2) := by decide +kernel
theorem dX5_strike_35 : decode cX5_strike 35 = .ok (.iload_n 2, 1) := by decide +kernel
theorem dX5_strike_36 : decode cX5_strike 36 = .ok (.imul, 1) := by decide +kernel
theorem dX5_strike_37 : decode cX5_strike 37 = .ok (.iadd, 1) := by decide +kernel
theorem dX5_strike_38 : decode cX5_strike 38 = .ok (.invokevirtual 117, 3) := by decide +kernel
theorem dX5_strike_41 : decode cX5_strike 41 = .ok (.iload_n 3, 1) := by decide +kernel
theorem dX5_strike_42 : decode cX5_strike 42 = .ok (.if_icmp .ne 7, 3) := by decide +kernel
theorem dX5_strike_45 : decode cX5_strike 45 = .ok (.sipush (-10000), 3) := by decide +kernel
theorem dX5_strike_48 : decode cX5_strike 48 = .ok (.ireturn, 1) := by decide +kernel
theorem dX5_strike_49 : decode cX5_strike 49 = .ok (.aload_n 0, 1) := by decide +kernel
theorem dX5_strike_50 : decode cX5_strike 50 = .ok (.iconst 3, 1) := by decide +kernel
theorem dX5_strike_51 : decode cX5_strike 51 = .ok (.iload_n 1, 1) := by decide +kernel
theorem dX5_strike_52 : decode cX5_strike 52 = .ok (.bipush 32, 2) := by decide +kernel
theorem dX5_strike_54 : decode cX5_strike 54 = .ok (.iload_n 2, 1) := by decide +kernel
theorem dX5_strike_55 : decode cX5_strike 55 = .ok (.imul, 1) := by decide +kernel
theorem dX5_strike_56 : decode cX5_strike 56 = .ok (.iadd, 1) := by decide +kernel
theorem dX5_strike_57 : decode cX5_strike 57 = .ok (.iload_n 3, 1) := by decide +kernel
theorem dX5_strike_58 : decode cX5_strike 58 = .ok (.ifCond .eq 7, 3) := by decide +kernel
theorem dX5_strike_61 : decode cX5_strike 61 = .ok (.iconst 1, 1) := by decide +kernel
theorem dX5_strike_62 : decode cX5_strike 62 = .ok (.goto 4, 3) := by decide +kernel
theorem dX5_strike_65 : decode cX5_strike 65 = .ok (.iconst 0, 1) := by decide +kernel
theorem dX5_strike_66 : decode cX5_strike 66 = .ok (.iconst 0, 1) := by decide +kernel
theorem dX5_strike_67 : decode cX5_strike 67 = .ok (.iconst 0, 1) := by decide +kernel
theorem dX5_strike_68 : decode cX5_strike 68 = .ok (.iconst 0, 1) := by decide +kernel
theorem dX5_strike_69 : decode cX5_strike 69 = .ok (.iconst 0, 1) := by decide +kernel
theorem dX5_strike_70 : decode cX5_strike 70 = .ok (.invokevirtual 104, 3) := by decide +kernel
theorem dX5_strike_73 : decode cX5_strike 73 = .ok (.ireturn, 1) := by decide +kernel
theorem dX5_lastOf_0 : decode cX5_lastOf 0 = .ok (.iload_n 1, 1) := by decide +kernel
theorem dX5_lastOf_1 : decode cX5_lastOf 1 = .ok (.iconst 1, 1) := by decide +kernel
theorem dX5_lastOf_2 : decode cX5_lastOf 2 = .ok (.isub, 1) := by decide +kernel
theorem dX5_lastOf_3 : decode cX5_lastOf 3 = .ok (.istore 4, 2) := by decide +kernel
theorem dX5_lastOf_5 : decode cX5_lastOf 5 = .ok (.iload 4, 2) := by decide +kernel
theorem dX5_lastOf_7 : decode cX5_lastOf 7 = .ok (.ifCond .lt 31, 3) := by decide +kernel
theorem dX5_lastOf_10 : decode cX5_lastOf 10 = .ok (.aload_n 0, 1) := by decide +kernel
theorem dX5_lastOf_11 : decode cX5_lastOf 11 = .ok (.getfield 33, 3) := by decide +kernel
theorem dX5_lastOf_14 : decode cX5_lastOf 14 = .ok (.iload 4, 2) := by decide +kernel
theorem dX5_lastOf_16 : decode cX5_lastOf 16 = .ok (.iaload, 1) := by decide +kernel
theorem dX5_lastOf_17 : decode cX5_lastOf 17 = .ok (.iload_n 2, 1) := by decide +kernel
theorem dX5_lastOf_18 : decode cX5_lastOf 18 = .ok (.if_icmp .ne 14, 3) := by decide +kernel
theorem dX5_lastOf_21 : decode cX5_lastOf 21 = .ok (.aload_n 0, 1) := by decide +kernel
theorem dX5_lastOf_22 : decode cX5_lastOf 22 = .ok (.getfield 36, 3) := by decide +kernel
theorem dX5_lastOf_25 : decode cX5_lastOf 25 = .ok (.iload 4, 2) := by decide +kernel
theorem dX5_lastOf_27 : decode cX5_lastOf 27 = .ok (.iaload, 1) := by decide +kernel
theorem dX5_lastOf_28 : decode cX5_lastOf 28 = .ok (.iload_n 3, 1) := by decide +kernel
theorem dX5_lastOf_29 : decode cX5_lastOf 29 = .ok (.if_icmp .eq 9, 3) := by decide +kernel
theorem dX5_lastOf_32 : decode cX5_lastOf 32 = .ok (.iinc 4 (-1), 3) := by decide +kernel
theorem dX5_lastOf_35 : decode cX5_lastOf 35 = .ok (.goto (-30), 3) := by decide +kernel
theorem dX5_lastOf_38 : decode cX5_lastOf 38 = .ok (.iload 4, 2) := by decide +kernel
theorem dX5_lastOf_40 : decode cX5_lastOf 40 = .ok (.ireturn, 1) := by decide +kernel
set_option maxRecDepth 20000 in
theorem ggX5_isStruck_X5_lastOf : GoodIn wsX5_isStruck wsX5_lastOf := goodIn_r _ [6, 7, 8, 9, 10, 11, 12, 13, 14, 15, 16, 17, 18, 19, 20, 21, 22, 23, 24, 25, 26, 27, 28, 29] (by decide +kernel) (by decide +kernel)
set_option maxRecDepth 20000 in
theorem gX5_isStruck_X5_lastOf : GoodIn wsX5_isStruck (wsV RX5 120 RX5 yX5_lastOf wsX5_lastOf) := goodIn_app (goodIn_of _ (by decide +kernel)) ggX5_isStruck_X5_lastOf
theorem dX5_isStruck_0 : decode cX5_isStruck 0 = .ok (.aload_n 0, 1) := by decide +kernel
theorem dX5_isStruck_1 : decode cX5_isStruck 1 = .ok (.iload_n 1, 1) := by decide +kernel
theorem dX5_isStruck_2 : decode cX5_isStruck 2 = .ok (.iconst 3, 1) := by decide +kernel
theorem dX5_isStruck_3 : decode cX5_isStruck 3 = .ok (.iload_n 2, 1) := by decide +kernel
theorem dX5_isStruck_4 : decode cX5_isStruck 4 = .ok (.invokevirtual 120, 3) := by decide +kernel
theorem dX5_isStruck_7 : decode cX5_isStruck 7 = .ok (.istore_n 3, 1) := by decide +kernel
theorem dX5_isStruck_8 : decode cX5_isStruck 8 = .ok (.iload_n 3, 1) := by decide +kernel
theorem dX5_isStruck_9 : decode cX5_isStruck 9 = .ok (.ifCond .lt 19, 3) := by decide +kernel
theorem dX5_isStruck_12 : decode cX5_isStruck 12 = .ok (.aload_n 0, 1) := by decide +kernel
theorem dX5_isStruck_13 : decode cX5_isStruck 13 = .ok (.getfield 39, 3) := by decide +kernel
theorem dX5_isStruck_16 : decode cX5_isStruck 16 = .ok (.iconst 5, 1) := by decide +kernel
theorem dX5_isStruck_17 : decode cX5_isStruck 17 = .ok (.iload_n 3, 1) := by decide +kernel
theorem dX5_isStruck_18 : decode cX5_isStruck 18 = .ok (.imul, 1) := by decide +kernel
theorem dX5_isStruck_19 : decode cX5_isStruck 19 = .ok (.iaload, 1) := by decide +kernel
theorem dX5_isStruck_20 : decode cX5_isStruck 20 = .ok (.iconst 1, 1) := by decide +kernel
theorem dX5_isStruck_21 : decode cX5_isStruck 21 = .ok (.if_icmp .ne 7, 3) := by decide +kernel
theorem dX5_isStruck_24 : decode cX5_isStruck 24 = .ok (.iconst 1, 1) := by decide +kernel
theorem dX5_isStruck_25 : decode cX5_isStruck 25 = .ok (.goto 4, 3) := by decide +kernel
theorem dX5_isStruck_28 : decode cX5_isStruck 28 = .ok (.iconst 0, 1) := by decide +kernel
theorem dX5_isStruck_29 : decode cX5_isStruck 29 = .ok (.ireturn, 1) := by decide +kernel
set_option maxRecDepth 20000 in
theorem ggX5_has_X5_lastOf : GoodIn wsX5_has wsX5_lastOf := goodIn_r _ [5, 6, 7, 13, 14, 15, 16, 17, 18, 19, 20, 21, 22, 23, 24, 25, 26, 27, 28, 29, 30, 31, 32, 33] (by decide +kernel) (by decide +kernel)
set_option maxRecDepth 20000 in
theorem gX5_has_X5_lastOf : GoodIn wsX5_has (wsV RX5 120 RX5 yX5_lastOf wsX5_lastOf) := goodIn_app (goodIn_of _ (by decide +kernel)) ggX5_has_X5_lastOf
set_option maxRecDepth 20000 in
theorem ggX5_has_X5_isStruck : GoodIn wsX5_has wsX5_isStruck := goodIn_r _ [11, 12, 1, 2, 3, 4, 5, 6, 7, 13, 14, 15, 16, 17, 18, 19, 20, 21, 22, 23, 24, 25, 26, 27, 28, 29, 30, 31, 32, 33] (by decide +kernel) (by decide +kernel)
set_option maxRecDepth 20000 in
theorem gX5_has_X5_isStruck : GoodIn wsX5_has (wsV RX5 117 RX5 yX5_isStruck wsX5_isStruck) := goodIn_app (goodIn_of _ (by decide +kernel)) ggX5_has_X5_isStruck
theorem dX5_has_0 : decode cX5_has 0 = .ok (.aload_n 0, 1) := by decide +kernel
theorem dX5_has_1 : decode cX5_has 1 = .ok (.iload_n 1, 1) := by decide +kernel
theorem dX5_has_2 : decode cX5_has 2 = .ok (.iconst 0, 1) := by decide +kernel
theorem dX5_has_3 : decode cX5_has 3 = .ok (.iload_n 2, 1) := by decide +kernel
theorem dX5_has_4 : decode cX5_has 4 = .ok (.invokevirtual 120, 3) := by decide +kernel
theorem dX5_has_7 : decode cX5_has 7 = .ok (.ifCond .lt 16, 3) := by decide +kernel
theorem dX5_has_10 : decode cX5_has 10 = .ok (.aload_n 0, 1) := by decide +kernel
theorem dX5_has_11 : decode cX5_has 11 = .ok (.iload_n 1, 1) := by decide +kernel
theorem dX5_has_12 : decode cX5_has 12 = .ok (.iload_n 2, 1) := by decide +kernel
theorem dX5_has_13 : decode cX5_has 13 = .ok (.invokevirtual 117, 3) := by decide +kernel
theorem dX5_has_16 : decode cX5_has 16 = .ok (.ifCond .ne 7, 3) := by decide +kernel
theorem dX5_has_19 : decode cX5_has 19 = .ok (.iconst 1, 1) := by decide +kernel
theorem dX5_has_20 : decode cX5_has 20 = .ok (.goto 4, 3) := by decide +kernel
theorem dX5_has_23 : decode cX5_has 23 = .ok (.iconst 0, 1) := by decide +kernel
theorem dX5_has_24 : decode cX5_has 24 = .ok (.ireturn, 1) := by decide +kernel
theorem dX5_nearest_0 : decode cX5_nearest 0 = .ok (.iload_n 0, 1) := by decide +kernel
theorem dX5_nearest_1 : decode cX5_nearest 1 = .ok (.ifCond .ge 8, 3) := by decide +kernel
theorem dX5_nearest_4 : decode cX5_nearest 4 = .ok (.iload_n 0, 1) := by decide +kernel
theorem dX5_nearest_5 : decode cX5_nearest 5 = .ok (.ineg, 1) := by decide +kernel
theorem dX5_nearest_6 : decode cX5_nearest 6 = .ok (.goto 4, 3) := by decide +kernel
theorem dX5_nearest_9 : decode cX5_nearest 9 = .ok (.iload_n 0, 1) := by decide +kernel
theorem dX5_nearest_10 : decode cX5_nearest 10 = .ok (.istore_n 2, 1) := by decide +kernel
theorem dX5_nearest_11 : decode cX5_nearest 11 = .ok (.iconst 2, 1) := by decide +kernel
theorem dX5_nearest_12 : decode cX5_nearest 12 = .ok (.iload_n 2, 1) := by decide +kernel
theorem dX5_nearest_13 : decode cX5_nearest 13 = .ok (.imul, 1) := by decide +kernel
theorem dX5_nearest_14 : decode cX5_nearest 14 = .ok (.iload_n 1, 1) := by decide +kernel
theorem dX5_nearest_15 : decode cX5_nearest 15 = .ok (.iadd, 1) := by decide +kernel
theorem dX5_nearest_16 : decode cX5_nearest 16 = .ok (.iconst 2, 1) := by decide +kernel
theorem dX5_nearest_17 : decode cX5_nearest 17 = .ok (.iload_n 1, 1) := by decide +kernel
theorem dX5_nearest_18 : decode cX5_nearest 18 = .ok (.imul, 1) := by decide +kernel
theorem dX5_nearest_19 : decode cX5_nearest 19 = .ok (.idiv, 1) := by decide +kernel
theorem dX5_nearest_20 : decode cX5_nearest 20 = .ok (.istore_n 3, 1) := by decide +kernel
theorem dX5_nearest_21 : decode cX5_nearest 21 = .ok (.iload_n 0, 1) := by decide +kernel
theorem dX5_nearest_22 : decode cX5_nearest 22 = .ok (.ifCond .ge 8, 3) := by decide +kernel
theorem dX5_nearest_25 : decode cX5_nearest 25 = .ok (.iload_n 3, 1) := by decide +kernel
theorem dX5_nearest_26 : decode cX5_nearest 26 = .ok (.ineg, 1) := by decide +kernel
theorem dX5_nearest_27 : decode cX5_nearest 27 = .ok (.goto 4, 3) := by decide +kernel
theorem dX5_nearest_30 : decode cX5_nearest 30 = .ok (.iload_n 3, 1) := by decide +kernel
theorem dX5_nearest_31 : decode cX5_nearest 31 = .ok (.ireturn, 1) := by decide +kernel
set_option maxRecDepth 20000 in
theorem ggX5_mean_X5_lastOf : GoodIn wsX5_mean wsX5_lastOf := goodIn_r _ [7, 8, 9, 13, 14, 15, 16, 17, 18, 19, 20, 21, 22, 23, 24, 25, 26, 27, 28, 29, 30, 31, 32, 33] (by decide +kernel) (by decide +kernel)
set_option maxRecDepth 20000 in
theorem gX5_mean_X5_lastOf : GoodIn wsX5_mean (wsV RX5 120 RX5 yX5_lastOf wsX5_lastOf) := goodIn_app (goodIn_of _ (by decide +kernel)) ggX5_mean_X5_lastOf
set_option maxRecDepth 20000 in
theorem ggX5_mean_X5_nearest : GoodIn wsX5_mean wsX5_nearest := goodIn_r _ [12] (by decide +kernel) (by decide +kernel)
set_option maxRecDepth 20000 in
theorem gX5_mean_X5_nearest : GoodIn wsX5_mean (va_wsS RX5 124 yX5_nearest wsX5_nearest) := goodIn_app (goodIn_of _ (by decide +kernel)) ggX5_mean_X5_nearest
theorem dX5_mean_0 : decode cX5_mean 0 = .ok (.aload_n 0, 1) := by decide +kernel
theorem dX5_mean_1 : decode cX5_mean 1 = .ok (.iload_n 1, 1) := by decide +kernel
theorem dX5_mean_2 : decode cX5_mean 2 = .ok (.iconst 1, 1) := by decide +kernel
theorem dX5_mean_3 : decode cX5_mean 3 = .ok (.iload_n 2, 1) := by decide +kernel
theorem dX5_mean_4 : decode cX5_mean 4 = .ok (.invokevirtual 120, 3) := by decide +kernel
theorem dX5_mean_7 : decode cX5_mean 7 = .ok (.istore_n 3, 1) := by decide +kernel
theorem dX5_mean_8 : decode cX5_mean 8 = .ok (.iconst 0, 1) := by decide +kernel
theorem dX5_mean_9 : decode cX5_mean 9 = .ok (.istore 4, 2) := by decide +kernel
theorem dX5_mean_11 : decode cX5_mean 11 = .ok (.iconst 0, 1) := by decide +kernel
theorem dX5_mean_12 : decode cX5_mean 12 = .ok (.istore 5, 2) := by decide +kernel
theorem dX5_mean_14 : decode cX5_mean 14 = .ok (.iconst 0, 1) := by decide +kernel
theorem dX5_mean_15 : decode cX5_mean 15 = .ok (.istore 6, 2) := by decide +kernel
theorem dX5_mean_17 : decode cX5_mean 17 = .ok (.iload 6, 2) := by decide +kernel
theorem dX5_mean_19 : decode cX5_mean 19 = .ok (.iconst 5, 1) := by decide +kernel
theorem dX5_mean_20 : decode cX5_mean 20 = .ok (.if_icmp .ge 69, 3) := by decide +kernel
theorem dX5_mean_23 : decode cX5_mean 23 = .ok (.iload_n 3, 1) := by decide +kernel
theorem dX5_mean_24 : decode cX5_mean 24 = .ok (.ifCond .lt 65, 3) := by decide +kernel
theorem dX5_mean_27 : decode cX5_mean 27 = .ok (.aload_n 0, 1) := by decide +kernel
theorem dX5_mean_28 : decode cX5_mean 28 = .ok (.getfield 39, 3) := by decide +kernel
theorem dX5_mean_31 : decode cX5_mean 31 = .ok (.iconst 5, 1) := by decide +kernel
theorem dX5_mean_32 : decode cX5_mean 32 = .ok (.iload_n 3, 1) := by decide +kernel
theorem dX5_mean_33 : decode cX5_mean 33 = .ok (.imul, 1) := by decide +kernel
theorem dX5_mean_34 : decode cX5_mean 34 = .ok (.iload 6, 2) := by decide +kernel
theorem dX5_mean_36 : decode cX5_mean 36 = .ok (.iadd, 1) := by decide +kernel
theorem dX5_mean_37 : decode cX5_mean 37 = .ok (.iaload, 1) := by decide +kernel
theorem dX5_mean_38 : decode cX5_mean 38 = .ok (.sipush (-10000), 3) := by decide +kernel
theorem dX5_mean_41 : decode cX5_mean 41 = .ok (.if_icmp .ne 6, 3) := by decide +kernel
theorem dX5_mean_44 : decode cX5_mean 44 = .ok (.goto 39, 3) := by decide +kernel
theorem dX5_mean_47 : decode cX5_mean 47 = .ok (.iload 4, 2) := by decide +kernel
theorem dX5_mean_49 : decode cX5_mean 49 = .ok (.aload_n 0, 1) := by decide +kernel
theorem dX5_mean_50 : decode cX5_mean 50 = .ok (.getfield 30, 3) := by decide +kernel
theorem dX5_mean_53 : decode cX5_mean 53 = .ok (.iload 6, 2) := by decide +kernel
theorem dX5_mean_55 : decode cX5_mean 55 = .ok (.iaload, 1) := by decide +kernel
theorem dX5_mean_56 : decode cX5_mean 56 = .ok (.aload_n 0, 1) := by decide +kernel
theorem dX5_mean_57 : decode cX5_mean 57 = .ok (.getfield 39, 3) := by decide +kernel
theorem dX5_mean_60 : decode cX5_mean 60 = .ok (.iconst 5, 1) := by decide +kernel
theorem dX5_mean_61 : decode cX5_mean 61 = .ok (.iload_n 3, 1) := by decide +kernel
theorem dX5_mean_62 : decode cX5_mean 62 = .ok (.imul, 1) := by decide +kernel
theorem dX5_mean_63 : decode cX5_mean 63 = .ok (.iload 6, 2) := by decide +kernel
theorem dX5_mean_65 : decode cX5_mean 65 = .ok (.iadd, 1) := by decide +kernel
theorem dX5_mean_66 : decode cX5_mean 66 = .ok (.iaload, 1) := by decide +kernel
theorem dX5_mean_67 : decode cX5_mean 67 = .ok (.imul, 1) := by decide +kernel
theorem dX5_mean_68 : decode cX5_mean 68 = .ok (.iadd, 1) := by decide +kernel
theorem dX5_mean_69 : decode cX5_mean 69 = .ok (.istore 4, 2) := by decide +kernel
theorem dX5_mean_71 : decode cX5_mean 71 = .ok (.iload 5, 2) := by decide +kernel
theorem dX5_mean_73 : decode cX5_mean 73 = .ok (.aload_n 0, 1) := by decide +kernel
theorem dX5_mean_74 : decode cX5_mean 74 = .ok (.getfield 30, 3) := by decide +kernel
theorem dX5_mean_77 : decode cX5_mean 77 = .ok (.iload 6, 2) := by decide +kernel
theorem dX5_mean_79 : decode cX5_mean 79 = .ok (.iaload, 1) := by decide +kernel
theorem dX5_mean_80 : decode cX5_mean 80 = .ok (.iadd, 1) := by decide +kernel
theorem dX5_mean_81 : decode cX5_mean 81 = .ok (.istore 5, 2) := by decide +kernel
theorem dX5_mean_83 : decode cX5_mean 83 = .ok (.iinc 6 1, 3) := by decide +kernel
theorem dX5_mean_86 : decode cX5_mean 86 = .ok (.goto (-69), 3) := by decide +kernel
theorem dX5_mean_89 : decode cX5_mean 89 = .ok (.iload 5, 2) := by decide +kernel
theorem dX5_mean_91 : decode cX5_mean 91 = .ok (.ifCond .ne 7, 3) := by decide +kernel
theorem dX5_mean_94 : decode cX5_mean 94 = .ok (.iconst 0, 1) := by decide +kernel
theorem dX5_mean_95 : decode cX5_mean 95 = .ok (.goto 10, 3) := by decide +kernel
theorem dX5_mean_98 : decode cX5_mean 98 = .ok (.iload 4, 2) := by decide +kernel
theorem dX5_mean_100 : decode cX5_mean 100 = .ok (.iload 5, 2) := by decide +kernel
theorem dX5_mean_102 : decode cX5_mean 102 = .ok (.invokestatic 124, 3) := by decide +kernel
theorem dX5_mean_105 : decode cX5_mean 105 = .ok (.ireturn, 1) := by decide +kernel
set_option maxRecDepth 20000 in
theorem ggX5_part_X5_lastOf : GoodIn wsX5_part wsX5_lastOf := goodIn_r _ [8, 9, 10, 23, 24, 25, 26, 27, 28, 29, 30, 31, 32, 33, 34, 35, 36, 37, 38, 39, 40, 41, 42, 43] (by decide +kernel) (by decide +kernel)
set_option maxRecDepth 20000 in
theorem gX5_part_X5_lastOf : GoodIn wsX5_part (wsV RX5 120 RX5 yX5_lastOf wsX5_lastOf) := goodIn_app (goodIn_of _ (by decide +kernel)) ggX5_part_X5_lastOf
set_option maxRecDepth 20000 in
theorem ggX5_part_X5_style_ : GoodIn wsX5_part wsX5_style_ := goodIn_r _ [14, 2, 4, 5, 6, 7, 8, 9, 10, 23, 24, 25, 26, 27, 28, 29, 30, 31, 32, 33, 34, 35, 36, 37, 38, 39, 40, 41, 42, 43] (by decide +kernel) (by decide +kernel)
set_option maxRecDepth 20000 in
theorem gX5_part_X5_style_ : GoodIn wsX5_part (wsV RX5 127 RX5 yX5_style_ wsX5_style_) := goodIn_app (goodIn_of _ (by decide +kernel)) ggX5_part_X5_style_
set_option maxRecDepth 20000 in
theorem ggX5_part_X5_mean : GoodIn wsX5_part wsX5_mean := goodIn_r _ [18, 2, 19, 4, 5, 6, 7, 8, 9, 10, 20, 21, 22, 23, 24, 25, 26, 27, 28, 29, 30, 31, 32, 33, 34, 35, 36, 37, 38, 39, 40, 41, 42, 43] (by decide +kernel) (by decide +kernel)
set_option maxRecDepth 20000 in
theorem gX5_part_X5_mean : GoodIn wsX5_part (wsV RX5 130 RX5 yX5_mean wsX5_mean) := goodIn_app (goodIn_of _ (by decide +kernel)) ggX5_part_X5_mean
set_option maxRecDepth 20000 in
theorem ggX5_part_X5_nearest : GoodIn wsX5_part wsX5_nearest := goodIn_r _ [22] (by decide +kernel) (by decide +kernel)
set_option maxRecDepth 20000 in
theorem gX5_part_X5_nearest : GoodIn wsX5_part (va_wsS RX5 124 yX5_nearest wsX5_nearest) := goodIn_app (goodIn_of _ (by decide +kernel)) ggX5_part_X5_nearest
theorem dX5_part_0 : decode cX5_part 0 = .ok (.iconst 5, 1) := by decide +kernel
theorem dX5_part_1 : decode cX5_part 1 = .ok (.aload_n 0, 1) := by decide +kernel
theorem dX5_part_2 : decode cX5_part 2 = .ok (.iload_n 1, 1) := by decide +kernel
theorem dX5_part_3 : decode cX5_part 3 = .ok (.iconst 0, 1) := by decide +kernel
theorem dX5_part_4 : decode cX5_part 4 = .ok (.iload_n 2, 1) := by decide +kernel
theorem dX5_part_5 : decode cX5_part 5 = .ok (.invokevirtual 120, 3) := by decide +kernel
theorem dX5_part_8 : decode cX5_part 8 = .ok (.imul, 1) := by decide +kernel
theorem dX5_part_9 : decode cX5_part 9 = .ok (.istore 4, 2) := by decide +kernel
theorem dX5_part_11 : decode cX5_part 11 = .ok (.iload_n 3, 1) := by decide +kernel
theorem dX5_part_12 : decode cX5_part 12 = .ok (.tableswitch 128 1 3 #[28, 54, 61], 28) := by decide +kernel
theorem dX5_part_40 : decode cX5_part 40 = .ok (.sipush 1200, 3) := by decide +kernel
theorem dX5_part_43 : decode cX5_part 43 = .ok (.aload_n 0, 1) := by decide +kernel
theorem dX5_part_44 : decode cX5_part 44 = .ok (.getfield 13, 3) := by decide +kernel
theorem dX5_part_47 : decode cX5_part 47 = .ok (.iconst 1, 1) := by decide +kernel
theorem dX5_part_48 : decode cX5_part 48 = .ok (.iaload, 1) := by decide +kernel
theorem dX5_part_49 : decode cX5_part 49 = .ok (.aload_n 0, 1) := by decide +kernel
theorem dX5_part_50 : decode cX5_part 50 = .ok (.getfield 39, 3) := by decide +kernel
theorem dX5_part_53 : decode cX5_part 53 = .ok (.iload 4, 2) := by decide +kernel
theorem dX5_part_55 : decode cX5_part 55 = .ok (.iaload, 1) := by decide +kernel
theorem dX5_part_56 : decode cX5_part 56 = .ok (.aload_n 0, 1) := by decide +kernel
theorem dX5_part_57 : decode cX5_part 57 = .ok (.getfield 13, 3) := by decide +kernel
theorem dX5_part_60 : decode cX5_part 60 = .ok (.iconst 0, 1) := by decide +kernel
theorem dX5_part_61 : decode cX5_part 61 = .ok (.iaload, 1) := by decide +kernel
theorem dX5_part_62 : decode cX5_part 62 = .ok (.isub, 1) := by decide +kernel
theorem dX5_part_63 : decode cX5_part 63 = .ok (.imul, 1) := by decide +kernel
theorem dX5_part_64 : decode cX5_part 64 = .ok (.iadd, 1) := by decide +kernel
theorem dX5_part_65 : decode cX5_part 65 = .ok (.ireturn, 1) := by decide +kernel
theorem dX5_part_66 : decode cX5_part 66 = .ok (.aload_n 0, 1) := by decide +kernel
theorem dX5_part_67 : decode cX5_part 67 = .ok (.iload_n 1, 1) := by decide +kernel
theorem dX5_part_68 : decode cX5_part 68 = .ok (.iload_n 2, 1) := by decide +kernel
theorem dX5_part_69 : decode cX5_part 69 = .ok (.invokevirtual 127, 3) := by decide +kernel
theorem dX5_part_72 : decode cX5_part 72 = .ok (.ireturn, 1) := by decide +kernel
theorem dX5_part_73 : decode cX5_part 73 = .ok (.aload_n 0, 1) := by decide +kernel
theorem dX5_part_74 : decode cX5_part 74 = .ok (.getfield 39, 3) := by decide +kernel
theorem dX5_part_77 : decode cX5_part 77 = .ok (.iload 4, 2) := by decide +kernel
theorem dX5_part_79 : decode cX5_part 79 = .ok (.iconst 2, 1) := by decide +kernel
theorem dX5_part_80 : decode cX5_part 80 = .ok (.iadd, 1) := by decide +kernel
theorem dX5_part_81 : decode cX5_part 81 = .ok (.iaload, 1) := by decide +kernel
theorem dX5_part_82 : decode cX5_part 82 = .ok (.iconst 1, 1) := by decide +kernel
theorem dX5_part_83 : decode cX5_part 83 = .ok (.if_icmp .ne 33, 3) := by decide +kernel
theorem dX5_part_86 : decode cX5_part 86 = .ok (.bipush 100, 2) := by decide +kernel
theorem dX5_part_88 : decode cX5_part 88 = .ok (.aload_n 0, 1) := by decide +kernel
theorem dX5_part_89 : decode cX5_part 89 = .ok (.getfield 39, 3) := by decide +kernel
theorem dX5_part_92 : decode cX5_part 92 = .ok (.iload 4, 2) := by decide +kernel
theorem dX5_part_94 : decode cX5_part 94 = .ok (.iaload, 1) := by decide +kernel
theorem dX5_part_95 : decode cX5_part 95 = .ok (.imul, 1) := by decide +kernel
theorem dX5_part_96 : decode cX5_part 96 = .ok (.aload_n 0, 1) := by decide +kernel
theorem dX5_part_97 : decode cX5_part 97 = .ok (.getfield 13, 3) := by decide +kernel
theorem dX5_part_100 : decode cX5_part 100 = .ok (.iconst 4, 1) := by decide +kernel
theorem dX5_part_101 : decode cX5_part 101 = .ok (.iaload, 1) := by decide +kernel
theorem dX5_part_102 : decode cX5_part 102 = .ok (.aload_n 0, 1) := by decide +kernel
theorem dX5_part_103 : decode cX5_part 103 = .ok (.getfield 13, 3) := by decide +kernel
theorem dX5_part_106 : decode cX5_part 106 = .ok (.iconst 0, 1) := by decide +kernel
theorem dX5_part_107 : decode cX5_part 107 = .ok (.iaload, 1) := by decide +kernel
theorem dX5_part_108 : decode cX5_part 108 = .ok (.imul, 1) := by decide +kernel
theorem dX5_part_109 : decode cX5_part 109 = .ok (.if_icmp .ge 7, 3) := by decide +kernel
theorem dX5_part_112 : decode cX5_part 112 = .ok (.iconst 0, 1) := by decide +kernel
theorem dX5_part_113 : decode cX5_part 113 = .ok (.goto 26, 3) := by decide +kernel
theorem dX5_part_116 : decode cX5_part 116 = .ok (.iconst 2, 1) := by decide +kernel
theorem dX5_part_117 : decode cX5_part 117 = .ok (.aload_n 0, 1) := by decide +kernel
theorem dX5_part_118 : decode cX5_part 118 = .ok (.getfield 13, 3) := by decide +kernel
theorem dX5_part_121 : decode cX5_part 121 = .ok (.iconst 3, 1) := by decide +kernel
theorem dX5_part_122 : decode cX5_part 122 = .ok (.iaload, 1) := by decide +kernel
theorem dX5_part_123 : decode cX5_part 123 = .ok (.imul, 1) := by decide +kernel
theorem dX5_part_124 : decode cX5_part 124 = .ok (.aload_n 0, 1) := by decide +kernel
theorem dX5_part_125 : decode cX5_part 125 = .ok (.getfield 20, 3) := by decide +kernel
theorem dX5_part_128 : decode cX5_part 128 = .ok (.aload_n 0, 1) := by decide +kernel
theorem dX5_part_129 : decode cX5_part 129 = .ok (.getfield 39, 3) := by decide +kernel
theorem dX5_part_132 : decode cX5_part 132 = .ok (.iload 4, 2) := by decide +kernel
theorem dX5_part_134 : decode cX5_part 134 = .ok (.iconst 1, 1) := by decide +kernel
theorem dX5_part_135 : decode cX5_part 135 = .ok (.iadd, 1) := by decide +kernel
theorem dX5_part_136 : decode cX5_part 136 = .ok (.iaload, 1) := by decide +kernel
theorem dX5_part_137 : decode cX5_part 137 = .ok (.isub, 1) := by decide +kernel
theorem dX5_part_138 : decode cX5_part 138 = .ok (.imul, 1) := by decide +kernel
theorem dX5_part_139 : decode cX5_part 139 = .ok (.ireturn, 1) := by decide +kernel
theorem dX5_part_140 : decode cX5_part 140 = .ok (.bipush (-2), 2) := by decide +kernel
theorem dX5_part_142 : decode cX5_part 142 = .ok (.aload_n 0, 1) := by decide +kernel
theorem dX5_part_143 : decode cX5_part 143 = .ok (.iload_n 1, 1) := by decide +kernel
theorem dX5_part_144 : decode cX5_part 144 = .ok (.iload_n 2, 1) := by decide +kernel
theorem dX5_part_145 : decode cX5_part 145 = .ok (.invokevirtual 130, 3) := by decide +kernel
theorem dX5_part_148 : decode cX5_part 148 = .ok (.aload_n 0, 1) := by decide +kernel
theorem dX5_part_149 : decode cX5_part 149 = .ok (.getfield 13, 3) := by decide +kernel
theorem dX5_part_152 : decode cX5_part 152 = .ok (.iconst 2, 1) := by decide +kernel
theorem dX5_part_153 : decode cX5_part 153 = .ok (.iaload, 1) := by decide +kernel
theorem dX5_part_154 : decode cX5_part 154 = .ok (.imul, 1) := by decide +kernel
theorem dX5_part_155 : decode cX5_part 155 = .ok (.bipush 100, 2) := by decide +kernel
theorem dX5_part_157 : decode cX5_part 157 = .ok (.invokestatic 124, 3) := by decide +kernel
theorem dX5_part_160 : decode cX5_part 160 = .ok (.imul, 1) := by decide +kernel
theorem dX5_part_161 : decode cX5_part 161 = .ok (.ireturn, 1) := by decide +kernel
set_option maxRecDepth 20000 in
theorem ggX5_style__X5_lastOf : GoodIn wsX5_style_ wsX5_lastOf := goodIn_r _ [6, 7, 8, 9, 10, 11, 12, 13, 14, 15, 16, 17, 18, 19, 20, 21, 22, 23, 24, 25, 26, 27, 28, 29] (by decide +kernel) (by decide +kernel)
set_option maxRecDepth 20000 in
theorem gX5_style__X5_lastOf : GoodIn wsX5_style_ (wsV RX5 120 RX5 yX5_lastOf wsX5_lastOf) := goodIn_app (goodIn_of _ (by decide +kernel)) ggX5_style__X5_lastOf
theorem dX5_style__0 : decode cX5_style_ 0 = .ok (.aload_n 0, 1) := by decide +kernel
theorem dX5_style__1 : decode cX5_style_ 1 = .ok (.iload_n 1, 1) := by decide +kernel
theorem dX5_style__2 : decode cX5_style_ 2 = .ok (.iconst 2, 1) := by decide +kernel
theorem dX5_style__3 : decode cX5_style_ 3 = .ok (.iload_n 2, 1) := by decide +kernel
theorem dX5_style__4 : decode cX5_style_ 4 = .ok (.invokevirtual 120, 3) := by decide +kernel
theorem dX5_style__7 : decode cX5_style_ 7 = .ok (.istore_n 3, 1) := by decide +kernel
theorem dX5_style__8 : decode cX5_style_ 8 = .ok (.iload_n 3, 1) := by decide +kernel
theorem dX5_style__9 : decode cX5_style_ 9 = .ok (.ifCond .ge 5, 3) := by decide +kernel
theorem dX5_style__12 : decode cX5_style_ 12 = .ok (.iconst 0, 1) := by decide +kernel
theorem dX5_style__13 : decode cX5_style_ 13 = .ok (.ireturn, 1) := by decide +kernel
theorem dX5_style__14 : decode cX5_style_ 14 = .ok (.iconst 0, 1) := by decide +kernel
theorem dX5_style__15 : decode cX5_style_ 15 = .ok (.istore 4, 2) := by decide +kernel
theorem dX5_style__17 : decode cX5_style_ 17 = .ok (.bipush 40, 2) := by decide +kernel
theorem dX5_style__19 : decode cX5_style_ 19 = .ok (.istore 5, 2) := by decide +kernel
theorem dX5_style__21 : decode cX5_style_ 21 = .ok (.iconst 0, 1) := by decide +kernel
theorem dX5_style__22 : decode cX5_style_ 22 = .ok (.istore 6, 2) := by decide +kernel
theorem dX5_style__24 : decode cX5_style_ 24 = .ok (.iconst 0, 1) := by decide +kernel
theorem dX5_style__25 : decode cX5_style_ 25 = .ok (.istore 7, 2) := by decide +kernel
theorem dX5_style__27 : decode cX5_style_ 27 = .ok (.iload 7, 2) := by decide +kernel
theorem dX5_style__29 : decode cX5_style_ 29 = .ok (.iconst 5, 1) := by decide +kernel
theorem dX5_style__30 : decode cX5_style_ 30 = .ok (.if_icmp .ge 61, 3) := by decide +kernel
theorem dX5_style__33 : decode cX5_style_ 33 = .ok (.aload_n 0, 1) := by decide +kernel
theorem dX5_style__34 : decode cX5_style_ 34 = .ok (.getfield 39, 3) := by decide +kernel
theorem dX5_style__37 : decode cX5_style_ 37 = .ok (.iconst 5, 1) := by decide +kernel
theorem dX5_style__38 : decode cX5_style_ 38 = .ok (.iload_n 3, 1) := by decide +kernel
theorem dX5_style__39 : decode cX5_style_ 39 = .ok (.imul, 1) := by decide +kernel
theorem dX5_style__40 : decode cX5_style_ 40 = .ok (.iload 7, 2) := by decide +kernel
theorem dX5_style__42 : decode cX5_style_ 42 = .ok (.iadd, 1) := by decide +kernel
theorem dX5_style__43 : decode cX5_style_ 43 = .ok (.iaload, 1) := by decide +kernel
theorem dX5_style__44 : decode cX5_style_ 44 = .ok (.istore 8, 2) := by decide +kernel
theorem dX5_style__46 : decode cX5_style_ 46 = .ok (.iload 4, 2) := by decide +kernel
theorem dX5_style__48 : decode cX5_style_ 48 = .ok (.iload 8, 2) := by decide +kernel
theorem dX5_style__50 : decode cX5_style_ 50 = .ok (.iadd, 1) := by decide +kernel
theorem dX5_style__51 : decode cX5_style_ 51 = .ok (.istore 4, 2) := by decide +kernel
theorem dX5_style__53 : decode cX5_style_ 53 = .ok (.iload 8, 2) := by decide +kernel
theorem dX5_style__55 : decode cX5_style_ 55 = .ok (.iload 5, 2) := by decide +kernel
theorem dX5_style__57 : decode cX5_style_ 57 = .ok (.if_icmp .ge 8, 3) := by decide +kernel
theorem dX5_style__60 : decode cX5_style_ 60 = .ok (.iload 8, 2) := by decide +kernel
theorem dX5_style__62 : decode cX5_style_ 62 = .ok (.goto 5, 3) := by decide +kernel
theorem dX5_style__65 : decode cX5_style_ 65 = .ok (.iload 5, 2) := by decide +kernel
theorem dX5_style__67 : decode cX5_style_ 67 = .ok (.istore 5, 2) := by decide +kernel
theorem dX5_style__69 : decode cX5_style_ 69 = .ok (.iload 8, 2) := by decide +kernel
theorem dX5_style__71 : decode cX5_style_ 71 = .ok (.iload 6, 2) := by decide +kernel
theorem dX5_style__73 : decode cX5_style_ 73 = .ok (.if_icmp .le 8, 3) := by decide +kernel
theorem dX5_style__76 : decode cX5_style_ 76 = .ok (.iload 8, 2) := by decide +kernel
theorem dX5_style__78 : decode cX5_style_ 78 = .ok (.goto 5, 3) := by decide +kernel
theorem dX5_style__81 : decode cX5_style_ 81 = .ok (.iload 6, 2) := by decide +kernel
theorem dX5_style__83 : decode cX5_style_ 83 = .ok (.istore 6, 2) := by decide +kernel
theorem dX5_style__85 : decode cX5_style_ 85 = .ok (.iinc 7 1, 3) := by decide +kernel
theorem dX5_style__88 : decode cX5_style_ 88 = .ok (.goto (-61), 3) := by decide +kernel
theorem dX5_style__91 : decode cX5_style_ 91 = .ok (.bipush 10, 2) := by decide +kernel
theorem dX5_style__93 : decode cX5_style_ 93 = .ok (.iload 4, 2) := by decide +kernel
theorem dX5_style__95 : decode cX5_style_ 95 = .ok (.iload 5, 2) := by decide +kernel
theorem dX5_style__97 : decode cX5_style_ 97 = .ok (.isub, 1) := by decide +kernel
theorem dX5_style__98 : decode cX5_style_ 98 = .ok (.iload 6, 2) := by decide +kernel
theorem dX5_style__100 : decode cX5_style_ 100 = .ok (.isub, 1) := by decide +kernel
theorem dX5_style__101 : decode cX5_style_ 101 = .ok (.imul, 1) := by decide +kernel
theorem dX5_style__102 : decode cX5_style_ 102 = .ok (.ireturn, 1) := by decide +kernel
set_option maxRecDepth 20000 in
theorem ggX5_without_X5_part : GoodIn wsX5_without wsX5_part := goodIn_r _ [5, 6, 7, 8, 9, 10, 11, 4, 12, 13, 14, 15, 16, 17, 18, 19, 20, 21, 22, 23, 24, 25, 26, 27, 28, 29, 30, 31, 32, 33, 34, 35, 36, 37, 38, 39, 40, 41, 42, 43, 44, 45, 46, 47] (by decide +kernel) (by decide +kernel)
set_option maxRecDepth 20000 in
theorem gX5_without_X5_part : GoodIn wsX5_without (wsV RX5 133 RX5 yX5_part wsX5_part) := goodIn_app (goodIn_of _ (by decide +kernel)) ggX5_without_X5_part
theorem dX5_without_0 : decode cX5_without 0 = .ok (.iconst 0, 1) := by decide +kernel
theorem dX5_without_1 : decode cX5_without 1 = .ok (.istore 4, 2) := by decide +kernel
theorem dX5_without_3 : decode cX5_without 3 = .ok (.iconst 1, 1) := by decide +kernel
theorem dX5_without_4 : decode cX5_without 4 = .ok (.istore 5, 2) := by decide +kernel
theorem dX5_without_6 : decode cX5_without 6 = .ok (.iload 5, 2) := by decide +kernel
theorem dX5_without_8 : decode cX5_without 8 = .ok (.iconst 5, 1) := by decide +kernel
theorem dX5_without_9 : decode cX5_without 9 = .ok (.if_icmp .ge 32, 3) := by decide +kernel
theorem dX5_without_12 : decode cX5_without 12 = .ok (.iload 4, 2) := by decide +kernel
theorem dX5_without_14 : decode cX5_without 14 = .ok (.iload 5, 2) := by decide +kernel
theorem dX5_without_16 : decode cX5_without 16 = .ok (.iload_n 3, 1) := by decide +kernel
theorem dX5_without_17 : decode cX5_without 17 = .ok (.if_icmp .ne 7, 3) := by decide +kernel
theorem dX5_without_20 : decode cX5_without 20 = .ok (.iconst 0, 1) := by decide +kernel
theorem dX5_without_21 : decode cX5_without 21 = .ok (.goto 11, 3) := by decide +kernel
theorem dX5_without_24 : decode cX5_without 24 = .ok (.aload_n 0, 1) := by decide +kernel
theorem dX5_without_25 : decode cX5_without 25 = .ok (.iload_n 1, 1) := by decide +kernel
theorem dX5_without_26 : decode cX5_without 26 = .ok (.iload_n 2, 1) := by decide +kernel
theorem dX5_without_27 : decode cX5_without 27 = .ok (.iload 5, 2) := by decide +kernel
theorem dX5_without_29 : decode cX5_without 29 = .ok (.invokevirtual 133, 3) := by decide +kernel
theorem dX5_without_32 : decode cX5_without 32 = .ok (.iadd, 1) := by decide +kernel
theorem dX5_without_33 : decode cX5_without 33 = .ok (.istore 4, 2) := by decide +kernel
theorem dX5_without_35 : decode cX5_without 35 = .ok (.iinc 5 1, 3) := by decide +kernel
theorem dX5_without_38 : decode cX5_without 38 = .ok (.goto (-32), 3) := by decide +kernel
theorem dX5_without_41 : decode cX5_without 41 = .ok (.iload 4, 2) := by decide +kernel
theorem dX5_without_43 : decode cX5_without 43 = .ok (.ifCond .ge 7, 3) := by decide +kernel
theorem dX5_without_46 : decode cX5_without 46 = .ok (.iconst 0, 1) := by decide +kernel
theorem dX5_without_47 : decode cX5_without 47 = .ok (.goto 5, 3) := by decide +kernel
theorem dX5_without_50 : decode cX5_without 50 = .ok (.iload 4, 2) := by decide +kernel
theorem dX5_without_52 : decode cX5_without 52 = .ok (.ireturn, 1) := by decide +kernel
set_option maxRecDepth 20000 in
theorem ggX5_isKnowing_X5_lies : GoodIn wsX5_isKnowing wsX5_lies := goodIn_r _ [5] (by decide +kernel) (by decide +kernel)
set_option maxRecDepth 20000 in
theorem gX5_isKnowing_X5_lies : GoodIn wsX5_isKnowing (va_wsS RX5 75 yX5_lies wsX5_lies) := goodIn_app (goodIn_of _ (by decide +kernel)) ggX5_isKnowing_X5_lies
theorem dX5_isKnowing_0 : decode cX5_isKnowing 0 = .ok (.iload_n 1, 1) := by decide +kernel
theorem dX5_isKnowing_1 : decode cX5_isKnowing 1 = .ok (.iconst 0, 1) := by decide +kernel
theorem dX5_isKnowing_2 : decode cX5_isKnowing 2 = .ok (.aload_n 0, 1) := by decide +kernel
theorem dX5_isKnowing_3 : decode cX5_isKnowing 3 = .ok (.getfield 101, 3) := by decide +kernel
theorem dX5_isKnowing_6 : decode cX5_isKnowing 6 = .ok (.invokestatic 75, 3) := by decide +kernel
theorem dX5_isKnowing_9 : decode cX5_isKnowing 9 = .ok (.ireturn, 1) := by decide +kernel
set_option maxRecDepth 20000 in
theorem ggX5_points_X5_isKnowing : GoodIn wsX5_points wsX5_isKnowing := goodIn_r _ [5, 6, 7, 8, 4, 9, 52, 53, 54, 55, 56, 57, 58, 59, 60, 61, 62, 63, 64, 65, 66, 67, 68, 69, 70, 71, 72] (by decide +kernel) (by decide +kernel)
set_option maxRecDepth 20000 in
theorem gX5_points_X5_isKnowing : GoodIn wsX5_points (wsV RX5 136 RX5 yX5_isKnowing wsX5_isKnowing) := goodIn_app (goodIn_of _ (by decide +kernel)) ggX5_points_X5_isKnowing
set_option maxRecDepth 20000 in
theorem ggX5_points_X5_isJumper : GoodIn wsX5_points wsX5_isJumper := goodIn_r _ [13, 14, 7, 8, 4, 9, 52, 53, 54, 55, 56, 57, 58, 59, 60, 61, 62, 63, 64, 65, 66, 67, 68, 69, 70, 71, 72] (by decide +kernel) (by decide +kernel)
set_option maxRecDepth 20000 in
theorem gX5_points_X5_isJumper : GoodIn wsX5_points (wsV RX5 97 RX5 yX5_isJumper wsX5_isJumper) := goodIn_app (goodIn_of _ (by decide +kernel)) ggX5_points_X5_isJumper
set_option maxRecDepth 20000 in
theorem ggX5_points_X5_lies : GoodIn wsX5_points wsX5_lies := goodIn_r _ [9] (by decide +kernel) (by decide +kernel)
set_option maxRecDepth 20000 in
theorem gX5_points_X5_lies : GoodIn wsX5_points (va_wsS RX5 75 yX5_lies wsX5_lies) := goodIn_app (goodIn_of _ (by decide +kernel)) ggX5_points_X5_lies
set_option maxRecDepth 20000 in
theorem ggX5_points_X5_mean : GoodIn wsX5_points wsX5_mean := goodIn_r _ [18, 19, 20, 21, 22, 23, 4, 24, 25, 26, 27, 28, 29, 52, 53, 54, 55, 56, 57, 58, 59, 60, 61, 62, 63, 64, 65, 66, 67, 68, 69, 70, 71, 72] (by decide +kernel) (by decide +kernel)
set_option maxRecDepth 20000 in
theorem gX5_points_X5_mean : GoodIn wsX5_points (wsV RX5 130 RX5 yX5_mean wsX5_mean) := goodIn_app (goodIn_of _ (by decide +kernel)) ggX5_points_X5_mean
set_option maxRecDepth 20000 in
theorem ggX5_points_X5_has : GoodIn wsX5_points wsX5_has := goodIn_r _ [33, 21, 22, 23, 4, 24, 25, 26, 34, 35, 36, 37, 19, 52, 53, 54, 55, 56, 57, 58, 59, 60, 61, 62, 63, 64, 65, 66, 67, 68, 69, 70, 71, 72] (by decide +kernel) (by decide +kernel)
set_option maxRecDepth 20000 in
theorem gX5_points_X5_has : GoodIn wsX5_points (wsV RX5 139 RX5 yX5_has wsX5_has) := goodIn_app (goodIn_of _ (by decide +kernel)) ggX5_points_X5_has
set_option maxRecDepth 20000 in
theorem ggX5_points_X5_without : GoodIn wsX5_points wsX5_without := goodIn_r _ [41, 42, 43, 44, 4, 45, 46, 19, 47, 21, 22, 23, 24, 25, 26, 48, 49, 50, 51, 15, 16, 17, 18, 20, 27, 28, 29, 52, 53, 54, 55, 56, 57, 58, 59, 60, 61, 62, 63, 64, 65, 66, 67, 68, 69, 70, 71, 72] (by decide +kernel) (by decide +kernel)
set_option maxRecDepth 20000 in
theorem gX5_points_X5_without : GoodIn wsX5_points (wsV RX5 142 RX5 yX5_without wsX5_without) := goodIn_app (goodIn_of _ (by decide +kernel)) ggX5_points_X5_without
set_option maxRecDepth 20000 in
theorem ggX5_points_X5_part : GoodIn wsX5_points wsX5_part := goodIn_r _ [45, 46, 19, 47, 21, 22, 23, 4, 24, 25, 26, 48, 49, 50, 51, 15, 16, 17, 18, 20, 27, 28, 29, 52, 53, 54, 55, 56, 57, 58, 59, 60, 61, 62, 63, 64, 65, 66, 67, 68, 69, 70, 71, 72] (by decide +kernel) (by decide +kernel)
set_option maxRecDepth 20000 in
theorem gX5_points_X5_part : GoodIn wsX5_points (wsV RX5 133 RX5 yX5_part wsX5_part) := goodIn_app (goodIn_of _ (by decide +kernel)) ggX5_points_X5_part
theorem dX5_points_0 : decode cX5_points 0 = .ok (.aload_n 0, 1) := by decide +kernel
theorem dX5_points_1 : decode cX5_points 1 = .ok (.iload_n 1, 1) := by decide +kernel
theorem dX5_points_2 : decode cX5_points 2 = .ok (.invokevirtual 136, 3) := by decide +kernel
theorem dX5_points_5 : decode cX5_points 5 = .ok (.ifCond .eq 31, 3) := by decide +kernel
theorem dX5_points_8 : decode cX5_points 8 = .ok (.aload_n 0, 1) := by decide +kernel
theorem dX5_points_9 : decode cX5_points 9 = .ok (.iload_n 2, 1) := by decide +kernel
theorem dX5_points_10 : decode cX5_points 10 = .ok (.invokevirtual 97, 3) := by decide +kernel
theorem dX5_points_13 : decode cX5_points 13 = .ok (.ifCond .eq 23, 3) := by decide +kernel
theorem dX5_points_16 : decode cX5_points 16 = .ok (.iload_n 3, 1) := by decide +kernel
theorem dX5_points_17 : decode cX5_points 17 = .ok (.iconst 0, 1) := by decide +kernel
theorem dX5_points_18 : decode cX5_points 18 = .ok (.iconst 1, 1) := by decide +kernel
theorem dX5_points_19 : decode cX5_points 19 = .ok (.invokestatic 75, 3) := by decide +kernel
theorem dX5_points_22 : decode cX5_points 22 = .ok (.ifCond .eq 14, 3) := by decide +kernel
theorem dX5_points_25 : decode cX5_points 25 = .ok (.iload 4, 2) := by decide +kernel
theorem dX5_points_27 : decode cX5_points 27 = .ok (.iconst 0, 1) := by decide +kernel
theorem dX5_points_28 : decode cX5_points 28 = .ok (.bipush 7, 2) := by decide +kernel
theorem dX5_points_30 : decode cX5_points 30 = .ok (.invokestatic 75, 3) := by decide +kernel
theorem dX5_points_33 : decode cX5_points 33 = .ok (.ifCond .ne 7, 3) := by decide +kernel
theorem dX5_points_36 : decode cX5_points 36 = .ok (.sipush (-10000), 3) := by decide +kernel
theorem dX5_points_39 : decode cX5_points 39 = .ok (.ireturn, 1) := by decide +kernel
theorem dX5_points_40 : decode cX5_points 40 = .ok (.iload_n 2, 1) := by decide +kernel
theorem dX5_points_41 : decode cX5_points 41 = .ok (.bipush 32, 2) := by decide +kernel
theorem dX5_points_43 : decode cX5_points 43 = .ok (.iload_n 3, 1) := by decide +kernel
theorem dX5_points_44 : decode cX5_points 44 = .ok (.imul, 1) := by decide +kernel
theorem dX5_points_45 : decode cX5_points 45 = .ok (.iadd, 1) := by decide +kernel
theorem dX5_points_46 : decode cX5_points 46 = .ok (.istore 5, 2) := by decide +kernel
theorem dX5_points_48 : decode cX5_points 48 = .ok (.iload 4, 2) := by decide +kernel
theorem dX5_points_50 : decode cX5_points 50 = .ok (.bipush 7, 2) := by decide +kernel
theorem dX5_points_52 : decode cX5_points 52 = .ok (.if_icmp .ne 11, 3) := by decide +kernel
theorem dX5_points_55 : decode cX5_points 55 = .ok (.aload_n 0, 1) := by decide +kernel
theorem dX5_points_56 : decode cX5_points 56 = .ok (.iload_n 1, 1) := by decide +kernel
theorem dX5_points_57 : decode cX5_points 57 = .ok (.iload 5, 2) := by decide +kernel
theorem dX5_points_59 : decode cX5_points 59 = .ok (.invokevirtual 130, 3) := by decide +kernel
theorem dX5_points_62 : decode cX5_points 62 = .ok (.ireturn, 1) := by decide +kernel
theorem dX5_points_63 : decode cX5_points 63 = .ok (.aload_n 0, 1) := by decide +kernel
theorem dX5_points_64 : decode cX5_points 64 = .ok (.iload_n 1, 1) := by decide +kernel
theorem dX5_points_65 : decode cX5_points 65 = .ok (.iload 5, 2) := by decide +kernel
theorem dX5_points_67 : decode cX5_points 67 = .ok (.invokevirtual 139, 3) := by decide +kernel
theorem dX5_points_70 : decode cX5_points 70 = .ok (.ifCond .ne 7, 3) := by decide +kernel
theorem dX5_points_73 : decode cX5_points 73 = .ok (.sipush (-10000), 3) := by decide +kernel
theorem dX5_points_76 : decode cX5_points 76 = .ok (.ireturn, 1) := by decide +kernel
theorem dX5_points_77 : decode cX5_points 77 = .ok (.iload 4, 2) := by decide +kernel
theorem dX5_points_79 : decode cX5_points 79 = .ok (.ifCond .ne 12, 3) := by decide +kernel
theorem dX5_points_82 : decode cX5_points 82 = .ok (.aload_n 0, 1) := by decide +kernel
theorem dX5_points_83 : decode cX5_points 83 = .ok (.iload_n 1, 1) := by decide +kernel
theorem dX5_points_84 : decode cX5_points 84 = .ok (.iload 5, 2) := by decide +kernel
theorem dX5_points_86 : decode cX5_points 86 = .ok (.iconst 0, 1) := by decide +kernel
theorem dX5_points_87 : decode cX5_points 87 = .ok (.invokevirtual 142, 3) := by decide +kernel
theorem dX5_points_90 : decode cX5_points 90 = .ok (.ireturn, 1) := by decide +kernel
theorem dX5_points_91 : decode cX5_points 91 = .ok (.iload 4, 2) := by decide +kernel
theorem dX5_points_93 : decode cX5_points 93 = .ok (.iconst 5, 1) := by decide +kernel
theorem dX5_points_94 : decode cX5_points 94 = .ok (.if_icmp .ge 15, 3) := by decide +kernel
theorem dX5_points_97 : decode cX5_points 97 = .ok (.aload_n 0, 1) := by decide +kernel
theorem dX5_points_98 : decode cX5_points 98 = .ok (.iload_n 1, 1) := by decide +kernel
theorem dX5_points_99 : decode cX5_points 99 = .ok (.iload 5, 2) := by decide +kernel
theorem dX5_points_101 : decode cX5_points 101 = .ok (.iload 4, 2) := by decide +kernel
theorem dX5_points_103 : decode cX5_points 103 = .ok (.invokevirtual 133, 3) := by decide +kernel
theorem dX5_points_106 : decode cX5_points 106 = .ok (.goto 23, 3) := by decide +kernel
theorem dX5_points_109 : decode cX5_points 109 = .ok (.aload_n 0, 1) := by decide +kernel
theorem dX5_points_110 : decode cX5_points 110 = .ok (.iload_n 1, 1) := by decide +kernel
theorem dX5_points_111 : decode cX5_points 111 = .ok (.iload 5, 2) := by decide +kernel
theorem dX5_points_113 : decode cX5_points 113 = .ok (.iconst 0, 1) := by decide +kernel
theorem dX5_points_114 : decode cX5_points 114 = .ok (.invokevirtual 142, 3) := by decide +kernel
theorem dX5_points_117 : decode cX5_points 117 = .ok (.aload_n 0, 1) := by decide +kernel
theorem dX5_points_118 : decode cX5_points 118 = .ok (.iload_n 1, 1) := by decide +kernel
theorem dX5_points_119 : decode cX5_points 119 = .ok (.iload 5, 2) := by decide +kernel
theorem dX5_points_121 : decode cX5_points 121 = .ok (.iload 4, 2) := by decide +kernel
theorem dX5_points_123 : decode cX5_points 123 = .ok (.iconst 2, 1) := by decide +kernel
theorem dX5_points_124 : decode cX5_points 124 = .ok (.isub, 1) := by decide +kernel
theorem dX5_points_125 : decode cX5_points 125 = .ok (.invokevirtual 142, 3) := by decide +kernel
theorem dX5_points_128 : decode cX5_points 128 = .ok (.isub, 1) := by decide +kernel
theorem dX5_points_129 : decode cX5_points 129 = .ok (.ireturn, 1) := by decide +kernel
set_option maxRecDepth 20000 in
theorem ggX5_works_X5_has : GoodIn wsX5_works wsX5_has := goodIn_r _ [11, 12, 13, 14, 10, 15, 16, 17, 18, 19, 20, 21, 22, 44, 45, 46, 47, 48, 49, 50, 51, 52, 53, 54, 55, 56, 57, 58, 59, 60, 61, 62, 63, 64] (by decide +kernel) (by decide +kernel)
set_option maxRecDepth 20000 in
theorem gX5_works_X5_has : GoodIn wsX5_works (wsV RX5 139 RX5 yX5_has wsX5_has) := goodIn_app (goodIn_of _ (by decide +kernel)) ggX5_works_X5_has
set_option maxRecDepth 20000 in
theorem ggX5_works_X5_without : GoodIn wsX5_works wsX5_without := goodIn_r _ [26, 27, 28, 29, 10, 30, 5, 22, 31, 12, 13, 14, 15, 16, 17, 32, 33, 34, 35, 36, 37, 38, 39, 40, 41, 42, 43, 44, 45, 46, 47, 48, 49, 50, 51, 52, 53, 54, 55, 56, 57, 58, 59, 60, 61, 62, 63, 64] (by decide +kernel) (by decide +kernel)
set_option maxRecDepth 20000 in
theorem gX5_works_X5_without : GoodIn wsX5_works (wsV RX5 142 RX5 yX5_without wsX5_without) := goodIn_app (goodIn_of _ (by decide +kernel)) ggX5_works_X5_without
theorem dX5_works_0 : decode cX5_works 0 = .ok (.iconst 0, 1) := by decide +kernel
theorem dX5_works_1 : decode cX5_works 1 = .ok (.istore_n 2, 1) := by decide +kernel
theorem dX5_works_2 : decode cX5_works 2 = .ok (.iload_n 2, 1) := by decide +kernel
theorem dX5_works_3 : decode cX5_works 3 = .ok (.aload_n 0, 1) := by decide +kernel
theorem dX5_works_4 : decode cX5_works 4 = .ok (.getfield 94, 3) := by decide +kernel
theorem dX5_works_7 : decode cX5_works 7 = .ok (.if_icmp .ge 49, 3) := by decide +kernel
theorem dX5_works_10 : decode cX5_works 10 = .ok (.aload_n 0, 1) := by decide +kernel
theorem dX5_works_11 : decode cX5_works 11 = .ok (.getfield 48, 3) := by decide +kernel
theorem dX5_works_14 : decode cX5_works 14 = .ok (.iload_n 2, 1) := by decide +kernel
theorem dX5_works_15 : decode cX5_works 15 = .ok (.aload_n 0, 1) := by decide +kernel
theorem dX5_works_16 : decode cX5_works 16 = .ok (.iload_n 1, 1) := by decide +kernel
theorem dX5_works_17 : decode cX5_works 17 = .ok (.iload_n 2, 1) := by decide +kernel
theorem dX5_works_18 : decode cX5_works 18 = .ok (.invokevirtual 139, 3) := by decide +kernel
theorem dX5_works_21 : decode cX5_works 21 = .ok (.bastore, 1) := by decide +kernel
theorem dX5_works_22 : decode cX5_works 22 = .ok (.aload_n 0, 1) := by decide +kernel
theorem dX5_works_23 : decode cX5_works 23 = .ok (.getfield 55, 3) := by decide +kernel
theorem dX5_works_26 : decode cX5_works 26 = .ok (.iload_n 2, 1) := by decide +kernel
theorem dX5_works_27 : decode cX5_works 27 = .ok (.aload_n 0, 1) := by decide +kernel
theorem dX5_works_28 : decode cX5_works 28 = .ok (.getfield 48, 3) := by decide +kernel
theorem dX5_works_31 : decode cX5_works 31 = .ok (.iload_n 2, 1) := by decide +kernel
theorem dX5_works_32 : decode cX5_works 32 = .ok (.baload, 1) := by decide +kernel
theorem dX5_works_33 : decode cX5_works 33 = .ok (.ifCond .eq 13, 3) := by decide +kernel
theorem dX5_works_36 : decode cX5_works 36 = .ok (.aload_n 0, 1) := by decide +kernel
theorem dX5_works_37 : decode cX5_works 37 = .ok (.iload_n 1, 1) := by decide +kernel
theorem dX5_works_38 : decode cX5_works 38 = .ok (.iload_n 2, 1) := by decide +kernel
theorem dX5_works_39 : decode cX5_works 39 = .ok (.iconst 0, 1) := by decide +kernel
theorem dX5_works_40 : decode cX5_works 40 = .ok (.invokevirtual 142, 3) := by decide +kernel
theorem dX5_works_43 : decode cX5_works 43 = .ok (.goto 6, 3) := by decide +kernel
theorem dX5_works_46 : decode cX5_works 46 = .ok (.sipush (-10000), 3) := by decide +kernel
theorem dX5_works_49 : decode cX5_works 49 = .ok (.iastore, 1) := by decide +kernel
theorem dX5_works_50 : decode cX5_works 50 = .ok (.iinc 2 1, 3) := by decide +kernel
theorem dX5_works_53 : decode cX5_works 53 = .ok (.goto (-51), 3) := by decide +kernel
theorem dX5_works_56 : decode cX5_works 56 = .ok (.iconst 0, 1) := by decide +kernel
theorem dX5_works_57 : decode cX5_works 57 = .ok (.istore_n 2, 1) := by decide +kernel
theorem dX5_works_58 : decode cX5_works 58 = .ok (.iload_n 2, 1) := by decide +kernel
theorem dX5_works_59 : decode cX5_works 59 = .ok (.aload_n 0, 1) := by decide +kernel
theorem dX5_works_60 : decode cX5_works 60 = .ok (.getfield 94, 3) := by decide +kernel
theorem dX5_works_63 : decode cX5_works 63 = .ok (.if_icmp .ge 220, 3) := by decide +kernel
theorem dX5_works_66 : decode cX5_works 66 = .ok (.iconst 0, 1) := by decide +kernel
theorem dX5_works_67 : decode cX5_works 67 = .ok (.istore_n 3, 1) := by decide +kernel
theorem dX5_works_68 : decode cX5_works 68 = .ok (.iconst 0, 1) := by decide +kernel
theorem dX5_works_69 : decode cX5_works 69 = .ok (.istore 4, 2) := by decide +kernel
theorem dX5_works_71 : decode cX5_works 71 = .ok (.iconst 0, 1) := by decide +kernel
theorem dX5_works_72 : decode cX5_works 72 = .ok (.istore 5, 2) := by decide +kernel
theorem dX5_works_74 : decode cX5_works 74 = .ok (.iload 5, 2) := by decide +kernel
theorem dX5_works_76 : decode cX5_works 76 = .ok (.aload_n 0, 1) := by decide +kernel
theorem dX5_works_77 : decode cX5_works 77 = .ok (.getfield 94, 3) := by decide +kernel
theorem dX5_works_80 : decode cX5_works 80 = .ok (.if_icmp .ge 94, 3) := by decide +kernel
theorem dX5_works_83 : decode cX5_works 83 = .ok (.aload_n 0, 1) := by decide +kernel
theorem dX5_works_84 : decode cX5_works 84 = .ok (.getfield 48, 3) := by decide +kernel
theorem dX5_works_87 : decode cX5_works 87 = .ok (.iload 5, 2) := by decide +kernel
theorem dX5_works_89 : decode cX5_works 89 = .ok (.baload, 1) := by decide +kernel
theorem dX5_works_90 : decode cX5_works 90 = .ok (.ifCond .ne 6, 3) := by decide +kernel
theorem dX5_works_93 : decode cX5_works 93 = .ok (.goto 75, 3) := by decide +kernel
theorem dX5_works_96 : decode cX5_works 96 = .ok (.iload 4, 2) := by decide +kernel
theorem dX5_works_98 : decode cX5_works 98 = .ok (.aload_n 0, 1) := by decide +kernel
theorem dX5_works_99 : decode cX5_works 99 = .ok (.getfield 55, 3) := by decide +kernel
theorem dX5_works_102 : decode cX5_works 102 = .ok (.iload 5, 2) := by decide +kernel
theorem dX5_works_104 : decode cX5_works 104 = .ok (.iaload, 1) := by decide +kernel
theorem dX5_works_105 : decode cX5_works 105 = .ok (.aload_n 0, 1) := by decide +kernel
theorem dX5_works_106 : decode cX5_works 106 = .ok (.getfield 55, 3) := by decide +kernel
theorem dX5_works_109 : decode cX5_works 109 = .ok (.iload_n 2, 1) := by decide +kernel
theorem dX5_works_110 : decode cX5_works 110 = .ok (.iaload, 1) := by decide +kernel
theorem dX5_works_111 : decode cX5_works 111 = .ok (.if_icmp .le 7, 3) := by decide +kernel
theorem dX5_works_114 : decode cX5_works 114 = .ok (.iconst 1, 1) := by decide +kernel
theorem dX5_works_115 : decode cX5_works 115 = .ok (.goto 4, 3) := by decide +kernel
theorem dX5_works_118 : decode cX5_works 118 = .ok (.iconst 0, 1) := by decide +kernel
theorem dX5_works_119 : decode cX5_works 119 = .ok (.iadd, 1) := by decide +kernel
theorem dX5_works_120 : decode cX5_works 120 = .ok (.istore 4, 2) := by decide +kernel
theorem dX5_works_122 : decode cX5_works 122 = .ok (.iload_n 3, 1) := by decide +kernel
theorem dX5_works_123 : decode cX5_works 123 = .ok (.aload_n 0, 1) := by decide +kernel
theorem dX5_works_124 : decode cX5_works 124 = .ok (.getfield 55, 3) := by decide +kernel
theorem dX5_works_127 : decode cX5_works 127 = .ok (.iload 5, 2) := by decide +kernel
theorem dX5_works_129 : decode cX5_works 129 = .ok (.iaload, 1) := by decide +kernel
theorem dX5_works_130 : decode cX5_works 130 = .ok (.aload_n 0, 1) := by decide +kernel
theorem dX5_works_131 : decode cX5_works 131 = .ok (.getfield 55, 3) := by decide +kernel
theorem dX5_works_134 : decode cX5_works 134 = .ok (.iload_n 2, 1) := by decide +kernel
theorem dX5_works_135 : decode cX5_works 135 = .ok (.iaload, 1) := by decide +kernel
theorem dX5_works_136 : decode cX5_works 136 = .ok (.if_icmp .gt 25, 3) := by decide +kernel
theorem dX5_works_139 : decode cX5_works 139 = .ok (.aload_n 0, 1) := by decide +kernel
theorem dX5_works_140 : decode cX5_works 140 = .ok (.getfield 55, 3) := by decide +kernel
theorem dX5_works_143 : decode cX5_works 143 = .ok (.iload 5, 2) := by decide +kernel
theorem dX5_works_145 : decode cX5_works 145 = .ok (.iaload, 1) := by decide +kernel
theorem dX5_works_146 : decode cX5_works 146 = .ok (.aload_n 0, 1) := by decide +kernel
theorem dX5_works_147 : decode cX5_works 147 = .ok (.getfield 55, 3) := by decide +kernel
theorem dX5_works_150 : decode cX5_works 150 = .ok (.iload_n 2, 1) := by decide +kernel
theorem dX5_works_151 : decode cX5_works 151 = .ok (.iaload, 1) := by decide +kernel
theorem dX5_works_152 : decode cX5_works 152 = .ok (.if_icmp .ne 13, 3) := by decide +kernel
theorem dX5_works_155 : decode cX5_works 155 = .ok (.iload 5, 2) := by decide +kernel
theorem dX5_works_157 : decode cX5_works 157 = .ok (.iload_n 2, 1) := by decide +kernel
theorem dX5_works_158 : decode cX5_works 158 = .ok (.if_icmp .ge 7, 3) := by decide +kernel
theorem dX5_works_161 : decode cX5_works 161 = .ok (.iconst 1, 1) := by decide +kernel
theorem dX5_works_162 : decode cX5_works 162 = .ok (.goto 4, 3) := by decide +kernel
theorem dX5_works_165 : decode cX5_works 165 = .ok (.iconst 0, 1) := by decide +kernel
theorem dX5_works_166 : decode cX5_works 166 = .ok (.iadd, 1) := by decide +kernel
theorem dX5_works_167 : decode cX5_works 167 = .ok (.istore_n 3, 1) := by decide +kernel
theorem dX5_works_168 : decode cX5_works 168 = .ok (.iinc 5 1, 3) := by decide +kernel
theorem dX5_works_171 : decode cX5_works 171 = .ok (.goto (-97), 3) := by decide +kernel
theorem dX5_works_174 : decode cX5_works 174 = .ok (.aload_n 0, 1) := by decide +kernel
theorem dX5_works_175 : decode cX5_works 175 = .ok (.getfield 52, 3) := by decide +kernel
theorem dX5_works_178 : decode cX5_works 178 = .ok (.iload_n 2, 1) := by decide +kernel
theorem dX5_works_179 : decode cX5_works 179 = .ok (.aload_n 0, 1) := by decide +kernel
theorem dX5_works_180 : decode cX5_works 180 = .ok (.getfield 48, 3) := by decide +kernel
theorem dX5_works_183 : decode cX5_works 183 = .ok (.iload_n 2, 1) := by decide +kernel
theorem dX5_works_184 : decode cX5_works 184 = .ok (.baload, 1) := by decide +kernel
theorem dX5_works_185 : decode cX5_works 185 = .ok (.ifCond .eq 42, 3) := by decide +kernel
theorem dX5_works_188 : decode cX5_works 188 = .ok (.aload_n 0, 1) := by decide +kernel
theorem dX5_works_189 : decode cX5_works 189 = .ok (.getfield 13, 3) := by decide +kernel
theorem dX5_works_192 : decode cX5_works 192 = .ok (.bipush 6, 2) := by decide +kernel
theorem dX5_works_194 : decode cX5_works 194 = .ok (.iaload, 1) := by decide +kernel
theorem dX5_works_195 : decode cX5_works 195 = .ok (.iconst 1, 1) := by decide +kernel
theorem dX5_works_196 : decode cX5_works 196 = .ok (.if_icmp .ne 17, 3) := by decide +kernel
theorem dX5_works_199 : decode cX5_works 199 = .ok (.iload 4, 2) := by decide +kernel
theorem dX5_works_201 : decode cX5_works 201 = .ok (.aload_n 0, 1) := by decide +kernel
theorem dX5_works_202 : decode cX5_works 202 = .ok (.getfield 13, 3) := by decide +kernel
theorem dX5_works_205 : decode cX5_works 205 = .ok (.iconst 5, 1) := by decide +kernel
theorem dX5_works_206 : decode cX5_works 206 = .ok (.iaload, 1) := by decide +kernel
theorem dX5_works_207 : decode cX5_works 207 = .ok (.if_icmp .ge 20, 3) := by decide +kernel
theorem dX5_works_210 : decode cX5_works 210 = .ok (.goto 13, 3) := by decide +kernel
theorem dX5_works_213 : decode cX5_works 213 = .ok (.iload_n 3, 1) := by decide +kernel
theorem dX5_works_214 : decode cX5_works 214 = .ok (.aload_n 0, 1) := by decide +kernel
theorem dX5_works_215 : decode cX5_works 215 = .ok (.getfield 13, 3) := by decide +kernel
theorem dX5_works_218 : decode cX5_works 218 = .ok (.iconst 5, 1) := by decide +kernel
theorem dX5_works_219 : decode cX5_works 219 = .ok (.iaload, 1) := by decide +kernel
theorem dX5_works_220 : decode cX5_works 220 = .ok (.if_icmp .ge 7, 3) := by decide +kernel
theorem dX5_works_223 : decode cX5_works 223 = .ok (.iconst 1, 1) := by decide +kernel
theorem dX5_works_224 : decode cX5_works 224 = .ok (.goto 4, 3) := by decide +kernel
theorem dX5_works_227 : decode cX5_works 227 = .ok (.iconst 0, 1) := by decide +kernel
theorem dX5_works_228 : decode cX5_works 228 = .ok (.bastore, 1) := by decide +kernel
theorem dX5_works_229 : decode cX5_works 229 = .ok (.aload_n 0, 1) := by decide +kernel
theorem dX5_works_230 : decode cX5_works 230 = .ok (.getfield 58, 3) := by decide +kernel
theorem dX5_works_233 : decode cX5_works 233 = .ok (.iload_n 2, 1) := by decide +kernel
theorem dX5_works_234 : decode cX5_works 234 = .ok (.aload_n 0, 1) := by decide +kernel
theorem dX5_works_235 : decode cX5_works 235 = .ok (.getfield 55, 3) := by decide +kernel
theorem dX5_works_238 : decode cX5_works 238 = .ok (.iload_n 2, 1) := by decide +kernel
theorem dX5_works_239 : decode cX5_works 239 = .ok (.iaload, 1) := by decide +kernel
theorem dX5_works_240 : decode cX5_works 240 = .ok (.aload_n 0, 1) := by decide +kernel
theorem dX5_works_241 : decode cX5_works 241 = .ok (.getfield 52, 3) := by decide +kernel
theorem dX5_works_244 : decode cX5_works 244 = .ok (.iload_n 2, 1) := by decide +kernel
theorem dX5_works_245 : decode cX5_works 245 = .ok (.baload, 1) := by decide +kernel
theorem dX5_works_246 : decode cX5_works 246 = .ok (.ifCond .eq 28, 3) := by decide +kernel
theorem dX5_works_249 : decode cX5_works 249 = .ok (.aload_n 0, 1) := by decide +kernel
theorem dX5_works_250 : decode cX5_works 250 = .ok (.iload_n 1, 1) := by decide +kernel
theorem dX5_works_251 : decode cX5_works 251 = .ok (.iload_n 2, 1) := by decide +kernel
theorem dX5_works_252 : decode cX5_works 252 = .ok (.bipush 32, 2) := by decide +kernel
theorem dX5_works_254 : decode cX5_works 254 = .ok (.iadd, 1) := by decide +kernel
theorem dX5_works_255 : decode cX5_works 255 = .ok (.invokevirtual 139, 3) := by decide +kernel
theorem dX5_works_258 : decode cX5_works 258 = .ok (.ifCond .eq 16, 3) := by decide +kernel
theorem dX5_works_261 : decode cX5_works 261 = .ok (.aload_n 0, 1) := by decide +kernel
theorem dX5_works_262 : decode cX5_works 262 = .ok (.iload_n 1, 1) := by decide +kernel
theorem dX5_works_263 : decode cX5_works 263 = .ok (.iload_n 2, 1) := by decide +kernel
theorem dX5_works_264 : decode cX5_works 264 = .ok (.bipush 32, 2) := by decide +kernel
theorem dX5_works_266 : decode cX5_works 266 = .ok (.iadd, 1) := by decide +kernel
theorem dX5_works_267 : decode cX5_works 267 = .ok (.iconst 0, 1) := by decide +kernel
theorem dX5_works_268 : decode cX5_works 268 = .ok (.invokevirtual 142, 3) := by decide +kernel
theorem dX5_works_271 : decode cX5_works 271 = .ok (.goto 4, 3) := by decide +kernel
theorem dX5_works_274 : decode cX5_works 274 = .ok (.iconst 0, 1) := by decide +kernel
theorem dX5_works_275 : decode cX5_works 275 = .ok (.iadd, 1) := by decide +kernel
theorem dX5_works_276 : decode cX5_works 276 = .ok (.iastore, 1) := by decide +kernel
theorem dX5_works_277 : decode cX5_works 277 = .ok (.iinc 2 1, 3) := by decide +kernel
theorem dX5_works_280 : decode cX5_works 280 = .ok (.goto (-222), 3) := by decide +kernel
theorem dX5_works_283 : decode cX5_works 283 = .ok (.return_, 1) := by decide +kernel
theorem dX5_isBefore_0 : decode cX5_isBefore 0 = .ok (.aload_n 0, 1) := by decide +kernel
theorem dX5_isBefore_1 : decode cX5_isBefore 1 = .ok (.getfield 48, 3) := by decide +kernel
theorem dX5_isBefore_4 : decode cX5_isBefore 4 = .ok (.iload_n 1, 1) := by decide +kernel
theorem dX5_isBefore_5 : decode cX5_isBefore 5 = .ok (.baload, 1) := by decide +kernel
theorem dX5_isBefore_6 : decode cX5_isBefore 6 = .ok (.ifCond .eq 49, 3) := by decide +kernel
theorem dX5_isBefore_9 : decode cX5_isBefore 9 = .ok (.aload_n 0, 1) := by decide +kernel
theorem dX5_isBefore_10 : decode cX5_isBefore 10 = .ok (.getfield 52, 3) := by decide +kernel
theorem dX5_isBefore_13 : decode cX5_isBefore 13 = .ok (.iload_n 1, 1) := by decide +kernel
theorem dX5_isBefore_14 : decode cX5_isBefore 14 = .ok (.baload, 1) := by decide +kernel
theorem dX5_isBefore_15 : decode cX5_isBefore 15 = .ok (.aload_n 0, 1) := by decide +kernel
theorem dX5_isBefore_16 : decode cX5_isBefore 16 = .ok (.getfield 52, 3) := by decide +kernel
theorem dX5_isBefore_19 : decode cX5_isBefore 19 = .ok (.iload_n 2, 1) := by decide +kernel
theorem dX5_isBefore_20 : decode cX5_isBefore 20 = .ok (.baload, 1) := by decide +kernel
theorem dX5_isBefore_21 : decode cX5_isBefore 21 = .ok (.if_icmp .eq 15, 3) := by decide +kernel
theorem dX5_isBefore_24 : decode cX5_isBefore 24 = .ok (.aload_n 0, 1) := by decide +kernel
theorem dX5_isBefore_25 : decode cX5_isBefore 25 = .ok (.getfield 52, 3) := by decide +kernel
theorem dX5_isBefore_28 : decode cX5_isBefore 28 = .ok (.iload_n 1, 1) := by decide +kernel
theorem dX5_isBefore_29 : decode cX5_isBefore 29 = .ok (.baload, 1) := by decide +kernel
theorem dX5_isBefore_30 : decode cX5_isBefore 30 = .ok (.ifCond .eq 25, 3) := by decide +kernel
theorem dX5_isBefore_33 : decode cX5_isBefore 33 = .ok (.goto 18, 3) := by decide +kernel
theorem dX5_isBefore_36 : decode cX5_isBefore 36 = .ok (.aload_n 0, 1) := by decide +kernel
theorem dX5_isBefore_37 : decode cX5_isBefore 37 = .ok (.getfield 58, 3) := by decide +kernel
theorem dX5_isBefore_40 : decode cX5_isBefore 40 = .ok (.iload_n 1, 1) := by decide +kernel
theorem dX5_isBefore_41 : decode cX5_isBefore 41 = .ok (.iaload, 1) := by decide +kernel
theorem dX5_isBefore_42 : decode cX5_isBefore 42 = .ok (.aload_n 0, 1) := by decide +kernel
theorem dX5_isBefore_43 : decode cX5_isBefore 43 = .ok (.getfield 58, 3) := by decide +kernel
theorem dX5_isBefore_46 : decode cX5_isBefore 46 = .ok (.iload_n 2, 1) := by decide +kernel
theorem dX5_isBefore_47 : decode cX5_isBefore 47 = .ok (.iaload, 1) := by decide +kernel
theorem dX5_isBefore_48 : decode cX5_isBefore 48 = .ok (.if_icmp .le 7, 3) := by decide +kernel
theorem dX5_isBefore_51 : decode cX5_isBefore 51 = .ok (.iconst 1, 1) := by decide +kernel
theorem dX5_isBefore_52 : decode cX5_isBefore 52 = .ok (.goto 4, 3) := by decide +kernel
theorem dX5_isBefore_55 : decode cX5_isBefore 55 = .ok (.iconst 0, 1) := by decide +kernel
theorem dX5_isBefore_56 : decode cX5_isBefore 56 = .ok (.ireturn, 1) := by decide +kernel
set_option maxRecDepth 20000 in
theorem ggX5_place_X5_isBefore : GoodIn wsX5_place wsX5_isBefore := goodIn_r _ [6, 7, 8, 9, 10, 11, 12, 13, 14, 15, 16, 17, 18, 19, 20, 21, 22, 23, 24, 25, 26, 27, 28, 29, 30] (by decide +kernel) (by decide +kernel)
set_option maxRecDepth 20000 in
theorem gX5_place_X5_isBefore : GoodIn wsX5_place (wsV RX5 145 RX5 yX5_isBefore wsX5_isBefore) := goodIn_app (goodIn_of _ (by decide +kernel)) ggX5_place_X5_isBefore
theorem dX5_place_0 : decode cX5_place 0 = .ok (.iconst 1, 1) := by decide +kernel
theorem dX5_place_1 : decode cX5_place 1 = .ok (.istore_n 2, 1) := by decide +kernel
theorem dX5_place_2 : decode cX5_place 2 = .ok (.iconst 0, 1) := by decide +kernel
theorem dX5_place_3 : decode cX5_place 3 = .ok (.istore_n 3, 1) := by decide +kernel
theorem dX5_place_4 : decode cX5_place 4 = .ok (.iload_n 3, 1) := by decide +kernel
theorem dX5_place_5 : decode cX5_place 5 = .ok (.aload_n 0, 1) := by decide +kernel
theorem dX5_place_6 : decode cX5_place 6 = .ok (.getfield 94, 3) := by decide +kernel
theorem dX5_place_9 : decode cX5_place 9 = .ok (.if_icmp .ge 26, 3) := by decide +kernel
theorem dX5_place_12 : decode cX5_place 12 = .ok (.iload_n 2, 1) := by decide +kernel
theorem dX5_place_13 : decode cX5_place 13 = .ok (.aload_n 0, 1) := by decide +kernel
theorem dX5_place_14 : decode cX5_place 14 = .ok (.iload_n 3, 1) := by decide +kernel
theorem dX5_place_15 : decode cX5_place 15 = .ok (.iload_n 1, 1) := by decide +kernel
theorem dX5_place_16 : decode cX5_place 16 = .ok (.invokevirtual 145, 3) := by decide +kernel
theorem dX5_place_19 : decode cX5_place 19 = .ok (.ifCond .eq 7, 3) := by decide +kernel
theorem dX5_place_22 : decode cX5_place 22 = .ok (.iconst 1, 1) := by decide +kernel
theorem dX5_place_23 : decode cX5_place 23 = .ok (.goto 4, 3) := by decide +kernel
theorem dX5_place_26 : decode cX5_place 26 = .ok (.iconst 0, 1) := by decide +kernel
theorem dX5_place_27 : decode cX5_place 27 = .ok (.iadd, 1) := by decide +kernel
theorem dX5_place_28 : decode cX5_place 28 = .ok (.istore_n 2, 1) := by decide +kernel
theorem dX5_place_29 : decode cX5_place 29 = .ok (.iinc 3 1, 3) := by decide +kernel
theorem dX5_place_32 : decode cX5_place 32 = .ok (.goto (-28), 3) := by decide +kernel
theorem dX5_place_35 : decode cX5_place 35 = .ok (.iload_n 2, 1) := by decide +kernel
theorem dX5_place_36 : decode cX5_place 36 = .ok (.ireturn, 1) := by decide +kernel
set_option maxRecDepth 20000 in
theorem ggX5_told_X5_isJumper : GoodIn wsX5_told wsX5_isJumper := goodIn_r _ [10, 11, 12, 13, 9, 14, 70, 71, 72, 73, 74, 75, 76, 77, 78, 79, 80, 81, 82, 83, 84, 85, 86, 87, 88, 89, 90] (by decide +kernel) (by decide +kernel)
set_option maxRecDepth 20000 in
theorem gX5_told_X5_isJumper : GoodIn wsX5_told (wsV RX5 97 RX5 yX5_isJumper wsX5_isJumper) := goodIn_app (goodIn_of _ (by decide +kernel)) ggX5_told_X5_isJumper
set_option maxRecDepth 20000 in
theorem ggX5_told_X5_isKnowing : GoodIn wsX5_told wsX5_isKnowing := goodIn_r _ [18, 19, 12, 13, 9, 14, 70, 71, 72, 73, 74, 75, 76, 77, 78, 79, 80, 81, 82, 83, 84, 85, 86, 87, 88, 89, 90] (by decide +kernel) (by decide +kernel)
set_option maxRecDepth 20000 in
theorem gX5_told_X5_isKnowing : GoodIn wsX5_told (wsV RX5 136 RX5 yX5_isKnowing wsX5_isKnowing) := goodIn_app (goodIn_of _ (by decide +kernel)) ggX5_told_X5_isKnowing
set_option maxRecDepth 20000 in
theorem ggX5_told_X5_lies : GoodIn wsX5_told wsX5_lies := goodIn_r _ [14] (by decide +kernel) (by decide +kernel)
set_option maxRecDepth 20000 in
theorem gX5_told_X5_lies : GoodIn wsX5_told (va_wsS RX5 75 yX5_lies wsX5_lies) := goodIn_app (goodIn_of _ (by decide +kernel)) ggX5_told_X5_lies
set_option maxRecDepth 20000 in
theorem ggX5_told_X5_works : GoodIn wsX5_told wsX5_works := goodIn_r _ [23, 11, 4, 24, 3, 25, 5, 26, 27, 28, 9, 29, 30, 31, 32, 33, 34, 35, 36, 37, 38, 39, 40, 41, 42, 43, 44, 45, 46, 47, 48, 49, 50, 51, 52, 53, 54, 55, 56, 57, 58, 59, 60, 61, 70, 71, 72, 73, 74, 75, 76, 77, 78, 79, 80, 81, 82, 83, 84, 85, 86, 87, 88, 89, 90] (by decide +kernel) (by decide +kernel)
set_option maxRecDepth 20000 in
theorem gX5_told_X5_works : GoodIn wsX5_told (wsV RX5 148 RX5 yX5_works wsX5_works) := goodIn_app (goodIn_of _ (by decide +kernel)) ggX5_told_X5_works
set_option maxRecDepth 20000 in
theorem ggX5_told_X5_place : GoodIn wsX5_told wsX5_place := goodIn_r _ [65, 11, 66, 67, 68, 9, 69, 4, 3, 5, 70, 71, 72, 73, 74, 75, 76, 77, 78, 79, 80, 81, 82, 83, 84, 85, 86, 87, 88, 89, 90] (by decide +kernel) (by decide +kernel)
set_option maxRecDepth 20000 in
theorem gX5_told_X5_place : GoodIn wsX5_told (wsV RX5 151 RX5 yX5_place wsX5_place) := goodIn_app (goodIn_of _ (by decide +kernel)) ggX5_told_X5_place
theorem dX5_told_0 : decode cX5_told 0 = .ok (.aload_n 0, 1) := by decide +kernel
theorem dX5_told_1 : decode cX5_told 1 = .ok (.iload_n 2, 1) := by decide +kernel
theorem dX5_told_2 : decode cX5_told 2 = .ok (.invokevirtual 97, 3) := by decide +kernel
theorem dX5_told_5 : decode cX5_told 5 = .ok (.ifCond .ne 7, 3) := by decide +kernel
theorem dX5_told_8 : decode cX5_told 8 = .ok (.sipush (-10000), 3) := by decide +kernel
theorem dX5_told_11 : decode cX5_told 11 = .ok (.ireturn, 1) := by decide +kernel
theorem dX5_told_12 : decode cX5_told 12 = .ok (.iload_n 3, 1) := by decide +kernel
theorem dX5_told_13 : decode cX5_told 13 = .ok (.iconst 3, 1) := by decide +kernel
theorem dX5_told_14 : decode cX5_told 14 = .ok (.if_icmp .ne 10, 3) := by decide +kernel
theorem dX5_told_17 : decode cX5_told 17 = .ok (.aload_n 0, 1) := by decide +kernel
theorem dX5_told_18 : decode cX5_told 18 = .ok (.getfield 24, 3) := by decide +kernel
theorem dX5_told_21 : decode cX5_told 21 = .ok (.iload_n 2, 1) := by decide +kernel
theorem dX5_told_22 : decode cX5_told 22 = .ok (.iaload, 1) := by decide +kernel
theorem dX5_told_23 : decode cX5_told 23 = .ok (.ireturn, 1) := by decide +kernel
theorem dX5_told_24 : decode cX5_told 24 = .ok (.iload_n 3, 1) := by decide +kernel
theorem dX5_told_25 : decode cX5_told 25 = .ok (.iconst 4, 1) := by decide +kernel
theorem dX5_told_26 : decode cX5_told 26 = .ok (.if_icmp .ne 10, 3) := by decide +kernel
theorem dX5_told_29 : decode cX5_told 29 = .ok (.aload_n 0, 1) := by decide +kernel
theorem dX5_told_30 : decode cX5_told 30 = .ok (.getfield 27, 3) := by decide +kernel
theorem dX5_told_33 : decode cX5_told 33 = .ok (.iload_n 2, 1) := by decide +kernel
theorem dX5_told_34 : decode cX5_told 34 = .ok (.iaload, 1) := by decide +kernel
theorem dX5_told_35 : decode cX5_told 35 = .ok (.ireturn, 1) := by decide +kernel
theorem dX5_told_36 : decode cX5_told 36 = .ok (.aload_n 0, 1) := by decide +kernel
theorem dX5_told_37 : decode cX5_told 37 = .ok (.iload_n 1, 1) := by decide +kernel
theorem dX5_told_38 : decode cX5_told 38 = .ok (.invokevirtual 136, 3) := by decide +kernel
theorem dX5_told_41 : decode cX5_told 41 = .ok (.ifCond .eq 12, 3) := by decide +kernel
theorem dX5_told_44 : decode cX5_told 44 = .ok (.iload_n 3, 1) := by decide +kernel
theorem dX5_told_45 : decode cX5_told 45 = .ok (.iconst 0, 1) := by decide +kernel
theorem dX5_told_46 : decode cX5_told 46 = .ok (.iconst 2, 1) := by decide +kernel
theorem dX5_told_47 : decode cX5_told 47 = .ok (.invokestatic 75, 3) := by decide +kernel
theorem dX5_told_50 : decode cX5_told 50 = .ok (.ifCond .ne 7, 3) := by decide +kernel
theorem dX5_told_53 : decode cX5_told 53 = .ok (.sipush (-10000), 3) := by decide +kernel
theorem dX5_told_56 : decode cX5_told 56 = .ok (.ireturn, 1) := by decide +kernel
theorem dX5_told_57 : decode cX5_told 57 = .ok (.aload_n 0, 1) := by decide +kernel
theorem dX5_told_58 : decode cX5_told 58 = .ok (.iload_n 1, 1) := by decide +kernel
theorem dX5_told_59 : decode cX5_told 59 = .ok (.invokevirtual 148, 3) := by decide +kernel
theorem dX5_told_62 : decode cX5_told 62 = .ok (.iload_n 3, 1) := by decide +kernel
theorem dX5_told_63 : decode cX5_told 63 = .ok (.ifCond .ne 18, 3) := by decide +kernel
theorem dX5_told_66 : decode cX5_told 66 = .ok (.aload_n 0, 1) := by decide +kernel
theorem dX5_told_67 : decode cX5_told 67 = .ok (.getfield 52, 3) := by decide +kernel
theorem dX5_told_70 : decode cX5_told 70 = .ok (.iload_n 2, 1) := by decide +kernel
theorem dX5_told_71 : decode cX5_told 71 = .ok (.baload, 1) := by decide +kernel
theorem dX5_told_72 : decode cX5_told 72 = .ok (.ifCond .eq 7, 3) := by decide +kernel
theorem dX5_told_75 : decode cX5_told 75 = .ok (.iconst 1, 1) := by decide +kernel
theorem dX5_told_76 : decode cX5_told 76 = .ok (.goto 4, 3) := by decide +kernel
theorem dX5_told_79 : decode cX5_told 79 = .ok (.iconst 0, 1) := by decide +kernel
theorem dX5_told_80 : decode cX5_told 80 = .ok (.ireturn, 1) := by decide +kernel
theorem dX5_told_81 : decode cX5_told 81 = .ok (.aload_n 0, 1) := by decide +kernel
theorem dX5_told_82 : decode cX5_told 82 = .ok (.getfield 48, 3) := by decide +kernel
theorem dX5_told_85 : decode cX5_told 85 = .ok (.iload_n 2, 1) := by decide +kernel
theorem dX5_told_86 : decode cX5_told 86 = .ok (.baload, 1) := by decide +kernel
theorem dX5_told_87 : decode cX5_told 87 = .ok (.ifCond .ne 9, 3) := by decide +kernel
theorem dX5_told_90 : decode cX5_told 90 = .ok (.sipush (-10000), 3) := by decide +kernel
theorem dX5_told_93 : decode cX5_told 93 = .ok (.goto 22, 3) := by decide +kernel
theorem dX5_told_96 : decode cX5_told 96 = .ok (.iload_n 3, 1) := by decide +kernel
theorem dX5_told_97 : decode cX5_told 97 = .ok (.iconst 1, 1) := by decide +kernel
theorem dX5_told_98 : decode cX5_told 98 = .ok (.if_icmp .ne 12, 3) := by decide +kernel
theorem dX5_told_101 : decode cX5_told 101 = .ok (.aload_n 0, 1) := by decide +kernel
theorem dX5_told_102 : decode cX5_told 102 = .ok (.getfield 58, 3) := by decide +kernel
theorem dX5_told_105 : decode cX5_told 105 = .ok (.iload_n 2, 1) := by decide +kernel
theorem dX5_told_106 : decode cX5_told 106 = .ok (.iaload, 1) := by decide +kernel
theorem dX5_told_107 : decode cX5_told 107 = .ok (.goto 8, 3) := by decide +kernel
theorem dX5_told_110 : decode cX5_told 110 = .ok (.aload_n 0, 1) := by decide +kernel
theorem dX5_told_111 : decode cX5_told 111 = .ok (.iload_n 2, 1) := by decide +kernel
theorem dX5_told_112 : decode cX5_told 112 = .ok (.invokevirtual 151, 3) := by decide +kernel
theorem dX5_told_115 : decode cX5_told 115 = .ok (.ireturn, 1) := by decide +kernel
set_option maxRecDepth 20000 in
theorem ggX5_list_X5_isKnowing : GoodIn wsX5_list wsX5_isKnowing := goodIn_r _ [9, 10, 11, 12, 8, 13, 64, 65, 66, 67, 68, 69, 70, 71, 72, 73, 74, 75, 76, 77, 78, 79, 80, 81, 82, 83, 84] (by decide +kernel) (by decide +kernel)
set_option maxRecDepth 20000 in
theorem gX5_list_X5_isKnowing : GoodIn wsX5_list (wsV RX5 136 RX5 yX5_isKnowing wsX5_isKnowing) := goodIn_app (goodIn_of _ (by decide +kernel)) ggX5_list_X5_isKnowing
set_option maxRecDepth 20000 in
theorem ggX5_list_X5_works : GoodIn wsX5_list wsX5_works := goodIn_r _ [17, 1, 2, 18, 3, 19, 4, 20, 21, 22, 8, 23, 24, 25, 26, 27, 28, 29, 30, 31, 32, 33, 34, 35, 36, 37, 38, 39, 40, 41, 42, 43, 44, 45, 46, 47, 48, 49, 50, 51, 52, 53, 54, 55, 64, 65, 66, 67, 68, 69, 70, 71, 72, 73, 74, 75, 76, 77, 78, 79, 80, 81, 82, 83, 84] (by decide +kernel) (by decide +kernel)
set_option maxRecDepth 20000 in
theorem gX5_list_X5_works : GoodIn wsX5_list (wsV RX5 148 RX5 yX5_works wsX5_works) := goodIn_app (goodIn_of _ (by decide +kernel)) ggX5_list_X5_works
set_option maxRecDepth 20000 in
theorem ggX5_list_X5_place : GoodIn wsX5_list wsX5_place := goodIn_r _ [59, 1, 60, 61, 62, 8, 63, 2, 3, 4, 64, 65, 66, 67, 68, 69, 70, 71, 72, 73, 74, 75, 76, 77, 78, 79, 80, 81, 82, 83, 84] (by decide +kernel) (by decide +kernel)
set_option maxRecDepth 20000 in
theorem gX5_list_X5_place : GoodIn wsX5_list (wsV RX5 151 RX5 yX5_place wsX5_place) := goodIn_app (goodIn_of _ (by decide +kernel)) ggX5_list_X5_place
theorem dX5_list_0 : decode cX5_list 0 = .ok (.aload_n 0, 1) := by decide +kernel
theorem dX5_list_1 : decode cX5_list 1 = .ok (.iload_n 1, 1) := by decide +kernel
theorem dX5_list_2 : decode cX5_list 2 = .ok (.invokevirtual 136, 3) := by decide +kernel
theorem dX5_list_5 : decode cX5_list 5 = .ok (.ifCond .ne 7, 3) := by decide +kernel
theorem dX5_list_8 : decode cX5_list 8 = .ok (.sipush (-10000), 3) := by decide +kernel
theorem dX5_list_11 : decode cX5_list 11 = .ok (.ireturn, 1) := by decide +kernel
theorem dX5_list_12 : decode cX5_list 12 = .ok (.aload_n 0, 1) := by decide +kernel
theorem dX5_list_13 : decode cX5_list 13 = .ok (.iload_n 1, 1) := by decide +kernel
theorem dX5_list_14 : decode cX5_list 14 = .ok (.invokevirtual 148, 3) := by decide +kernel
theorem dX5_list_17 : decode cX5_list 17 = .ok (.iconst 0, 1) := by decide +kernel
theorem dX5_list_18 : decode cX5_list 18 = .ok (.istore_n 3, 1) := by decide +kernel
theorem dX5_list_19 : decode cX5_list 19 = .ok (.iload_n 3, 1) := by decide +kernel
theorem dX5_list_20 : decode cX5_list 20 = .ok (.aload_n 0, 1) := by decide +kernel
theorem dX5_list_21 : decode cX5_list 21 = .ok (.getfield 94, 3) := by decide +kernel
theorem dX5_list_24 : decode cX5_list 24 = .ok (.if_icmp .ge 105, 3) := by decide +kernel
theorem dX5_list_27 : decode cX5_list 27 = .ok (.aload_n 0, 1) := by decide +kernel
theorem dX5_list_28 : decode cX5_list 28 = .ok (.getfield 48, 3) := by decide +kernel
theorem dX5_list_31 : decode cX5_list 31 = .ok (.iload_n 3, 1) := by decide +kernel
theorem dX5_list_32 : decode cX5_list 32 = .ok (.baload, 1) := by decide +kernel
theorem dX5_list_33 : decode cX5_list 33 = .ok (.ifCond .ne 6, 3) := by decide +kernel
theorem dX5_list_36 : decode cX5_list 36 = .ok (.goto 87, 3) := by decide +kernel
theorem dX5_list_39 : decode cX5_list 39 = .ok (.aload_n 0, 1) := by decide +kernel
theorem dX5_list_40 : decode cX5_list 40 = .ok (.iload_n 3, 1) := by decide +kernel
theorem dX5_list_41 : decode cX5_list 41 = .ok (.invokevirtual 151, 3) := by decide +kernel
theorem dX5_list_44 : decode cX5_list 44 = .ok (.iconst 1, 1) := by decide +kernel
theorem dX5_list_45 : decode cX5_list 45 = .ok (.isub, 1) := by decide +kernel
theorem dX5_list_46 : decode cX5_list 46 = .ok (.istore 4, 2) := by decide +kernel
theorem dX5_list_48 : decode cX5_list 48 = .ok (.iconst 0, 1) := by decide +kernel
theorem dX5_list_49 : decode cX5_list 49 = .ok (.istore 5, 2) := by decide +kernel
theorem dX5_list_51 : decode cX5_list 51 = .ok (.iload 5, 2) := by decide +kernel
theorem dX5_list_53 : decode cX5_list 53 = .ok (.iload_n 3, 1) := by decide +kernel
theorem dX5_list_54 : decode cX5_list 54 = .ok (.if_icmp .ge 61, 3) := by decide +kernel
theorem dX5_list_57 : decode cX5_list 57 = .ok (.iload 4, 2) := by decide +kernel
theorem dX5_list_59 : decode cX5_list 59 = .ok (.aload_n 0, 1) := by decide +kernel
theorem dX5_list_60 : decode cX5_list 60 = .ok (.getfield 48, 3) := by decide +kernel
theorem dX5_list_63 : decode cX5_list 63 = .ok (.iload 5, 2) := by decide +kernel
theorem dX5_list_65 : decode cX5_list 65 = .ok (.baload, 1) := by decide +kernel
theorem dX5_list_66 : decode cX5_list 66 = .ok (.ifCond .eq 39, 3) := by decide +kernel
theorem dX5_list_69 : decode cX5_list 69 = .ok (.aload_n 0, 1) := by decide +kernel
theorem dX5_list_70 : decode cX5_list 70 = .ok (.getfield 52, 3) := by decide +kernel
theorem dX5_list_73 : decode cX5_list 73 = .ok (.iload 5, 2) := by decide +kernel
theorem dX5_list_75 : decode cX5_list 75 = .ok (.baload, 1) := by decide +kernel
theorem dX5_list_76 : decode cX5_list 76 = .ok (.aload_n 0, 1) := by decide +kernel
theorem dX5_list_77 : decode cX5_list 77 = .ok (.getfield 52, 3) := by decide +kernel
theorem dX5_list_80 : decode cX5_list 80 = .ok (.iload_n 3, 1) := by decide +kernel
theorem dX5_list_81 : decode cX5_list 81 = .ok (.baload, 1) := by decide +kernel
theorem dX5_list_82 : decode cX5_list 82 = .ok (.if_icmp .ne 23, 3) := by decide +kernel
theorem dX5_list_85 : decode cX5_list 85 = .ok (.aload_n 0, 1) := by decide +kernel
theorem dX5_list_86 : decode cX5_list 86 = .ok (.getfield 58, 3) := by decide +kernel
theorem dX5_list_89 : decode cX5_list 89 = .ok (.iload 5, 2) := by decide +kernel
theorem dX5_list_91 : decode cX5_list 91 = .ok (.iaload, 1) := by decide +kernel
theorem dX5_list_92 : decode cX5_list 92 = .ok (.aload_n 0, 1) := by decide +kernel
theorem dX5_list_93 : decode cX5_list 93 = .ok (.getfield 58, 3) := by decide +kernel
theorem dX5_list_96 : decode cX5_list 96 = .ok (.iload_n 3, 1) := by decide +kernel
theorem dX5_list_97 : decode cX5_list 97 = .ok (.iaload, 1) := by decide +kernel
theorem dX5_list_98 : decode cX5_list 98 = .ok (.if_icmp .ne 7, 3) := by decide +kernel
theorem dX5_list_101 : decode cX5_list 101 = .ok (.iconst 1, 1) := by decide +kernel
theorem dX5_list_102 : decode cX5_list 102 = .ok (.goto 4, 3) := by decide +kernel
theorem dX5_list_105 : decode cX5_list 105 = .ok (.iconst 0, 1) := by decide +kernel
theorem dX5_list_106 : decode cX5_list 106 = .ok (.iadd, 1) := by decide +kernel
theorem dX5_list_107 : decode cX5_list 107 = .ok (.istore 4, 2) := by decide +kernel
theorem dX5_list_109 : decode cX5_list 109 = .ok (.iinc 5 1, 3) := by decide +kernel
theorem dX5_list_112 : decode cX5_list 112 = .ok (.goto (-61), 3) := by decide +kernel
theorem dX5_list_115 : decode cX5_list 115 = .ok (.iload 4, 2) := by decide +kernel
theorem dX5_list_117 : decode cX5_list 117 = .ok (.iload_n 2, 1) := by decide +kernel
theorem dX5_list_118 : decode cX5_list 118 = .ok (.if_icmp .ne 5, 3) := by decide +kernel
theorem dX5_list_121 : decode cX5_list 121 = .ok (.iload_n 3, 1) := by decide +kernel
theorem dX5_list_122 : decode cX5_list 122 = .ok (.ireturn, 1) := by decide +kernel
theorem dX5_list_123 : decode cX5_list 123 = .ok (.iinc 3 1, 3) := by decide +kernel
theorem dX5_list_126 : decode cX5_list 126 = .ok (.goto (-107), 3) := by decide +kernel
theorem dX5_list_129 : decode cX5_list 129 = .ok (.sipush (-10000), 3) := by decide +kernel
theorem dX5_list_132 : decode cX5_list 132 = .ok (.ireturn, 1) := by decide +kernel
set_option maxRecDepth 20000 in
theorem ggX5_start_X5_isKnowing : GoodIn wsX5_start wsX5_isKnowing := goodIn_r _ [8, 9, 10, 11, 7, 12, 60, 61, 62, 63, 64, 65, 66, 67, 68, 69, 70, 71, 72, 73, 74, 75, 76, 77, 78, 79, 80] (by decide +kernel) (by decide +kernel)
set_option maxRecDepth 20000 in
theorem gX5_start_X5_isKnowing : GoodIn wsX5_start (wsV RX5 136 RX5 yX5_isKnowing wsX5_isKnowing) := goodIn_app (goodIn_of _ (by decide +kernel)) ggX5_start_X5_isKnowing
set_option maxRecDepth 20000 in
theorem ggX5_start_X5_lies : GoodIn wsX5_start wsX5_lies := goodIn_r _ [12] (by decide +kernel) (by decide +kernel)
set_option maxRecDepth 20000 in
theorem gX5_start_X5_lies : GoodIn wsX5_start (va_wsS RX5 75 yX5_lies wsX5_lies) := goodIn_app (goodIn_of _ (by decide +kernel)) ggX5_start_X5_lies
set_option maxRecDepth 20000 in
theorem ggX5_start_X5_isJumper : GoodIn wsX5_start wsX5_isJumper := goodIn_r _ [16, 1, 10, 11, 7, 12, 60, 61, 62, 63, 64, 65, 66, 67, 68, 69, 70, 71, 72, 73, 74, 75, 76, 77, 78, 79, 80] (by decide +kernel) (by decide +kernel)
set_option maxRecDepth 20000 in
theorem gX5_start_X5_isJumper : GoodIn wsX5_start (wsV RX5 97 RX5 yX5_isJumper wsX5_isJumper) := goodIn_app (goodIn_of _ (by decide +kernel)) ggX5_start_X5_isJumper
set_option maxRecDepth 20000 in
theorem ggX5_start_X5_works : GoodIn wsX5_start wsX5_works := goodIn_r _ [20, 1, 21, 3, 2, 22, 23, 24, 25, 26, 7, 27, 28, 29, 30, 31, 32, 33, 34, 35, 36, 37, 38, 39, 40, 41, 42, 43, 44, 45, 46, 47, 48, 49, 50, 51, 52, 53, 54, 55, 56, 57, 58, 59, 60, 61, 62, 63, 64, 65, 66, 67, 68, 69, 70, 71, 72, 73, 74, 75, 76, 77, 78, 79, 80] (by decide +kernel) (by decide +kernel)
set_option maxRecDepth 20000 in
theorem gX5_start_X5_works : GoodIn wsX5_start (wsV RX5 148 RX5 yX5_works wsX5_works) := goodIn_app (goodIn_of _ (by decide +kernel)) ggX5_start_X5_works
theorem dX5_start_0 : decode cX5_start 0 = .ok (.aload_n 0, 1) := by decide +kernel
theorem dX5_start_1 : decode cX5_start 1 = .ok (.iload_n 1, 1) := by decide +kernel
theorem dX5_start_2 : decode cX5_start 2 = .ok (.invokevirtual 136, 3) := by decide +kernel
theorem dX5_start_5 : decode cX5_start 5 = .ok (.ifCond .eq 12, 3) := by decide +kernel
theorem dX5_start_8 : decode cX5_start 8 = .ok (.iload_n 2, 1) := by decide +kernel
theorem dX5_start_9 : decode cX5_start 9 = .ok (.iconst 0, 1) := by decide +kernel
theorem dX5_start_10 : decode cX5_start 10 = .ok (.iconst 1, 1) := by decide +kernel
theorem dX5_start_11 : decode cX5_start 11 = .ok (.invokestatic 75, 3) := by decide +kernel
theorem dX5_start_14 : decode cX5_start 14 = .ok (.ifCond .ne 7, 3) := by decide +kernel
theorem dX5_start_17 : decode cX5_start 17 = .ok (.sipush (-10000), 3) := by decide +kernel
theorem dX5_start_20 : decode cX5_start 20 = .ok (.ireturn, 1) := by decide +kernel
theorem dX5_start_21 : decode cX5_start 21 = .ok (.iload_n 2, 1) := by decide +kernel
theorem dX5_start_22 : decode cX5_start 22 = .ok (.ifCond .ne 19, 3) := by decide +kernel
theorem dX5_start_25 : decode cX5_start 25 = .ok (.aload_n 0, 1) := by decide +kernel
theorem dX5_start_26 : decode cX5_start 26 = .ok (.iload_n 3, 1) := by decide +kernel
theorem dX5_start_27 : decode cX5_start 27 = .ok (.invokevirtual 97, 3) := by decide +kernel
theorem dX5_start_30 : decode cX5_start 30 = .ok (.ifCond .eq 7, 3) := by decide +kernel
theorem dX5_start_33 : decode cX5_start 33 = .ok (.iload_n 3, 1) := by decide +kernel
theorem dX5_start_34 : decode cX5_start 34 = .ok (.goto 6, 3) := by decide +kernel
theorem dX5_start_37 : decode cX5_start 37 = .ok (.sipush (-10000), 3) := by decide +kernel
theorem dX5_start_40 : decode cX5_start 40 = .ok (.ireturn, 1) := by decide +kernel
theorem dX5_start_41 : decode cX5_start 41 = .ok (.aload_n 0, 1) := by decide +kernel
theorem dX5_start_42 : decode cX5_start 42 = .ok (.iload_n 1, 1) := by decide +kernel
theorem dX5_start_43 : decode cX5_start 43 = .ok (.invokevirtual 148, 3) := by decide +kernel
theorem dX5_start_46 : decode cX5_start 46 = .ok (.iconst 0, 1) := by decide +kernel
theorem dX5_start_47 : decode cX5_start 47 = .ok (.istore 4, 2) := by decide +kernel
theorem dX5_start_49 : decode cX5_start 49 = .ok (.iload 4, 2) := by decide +kernel
theorem dX5_start_51 : decode cX5_start 51 = .ok (.aload_n 0, 1) := by decide +kernel
theorem dX5_start_52 : decode cX5_start 52 = .ok (.getfield 94, 3) := by decide +kernel
theorem dX5_start_55 : decode cX5_start 55 = .ok (.if_icmp .ge 113, 3) := by decide +kernel
theorem dX5_start_58 : decode cX5_start 58 = .ok (.aload_n 0, 1) := by decide +kernel
theorem dX5_start_59 : decode cX5_start 59 = .ok (.getfield 52, 3) := by decide +kernel
theorem dX5_start_62 : decode cX5_start 62 = .ok (.iload 4, 2) := by decide +kernel
theorem dX5_start_64 : decode cX5_start 64 = .ok (.baload, 1) := by decide +kernel
theorem dX5_start_65 : decode cX5_start 65 = .ok (.ifCond .ne 6, 3) := by decide +kernel
theorem dX5_start_68 : decode cX5_start 68 = .ok (.goto 94, 3) := by decide +kernel
theorem dX5_start_71 : decode cX5_start 71 = .ok (.iconst 0, 1) := by decide +kernel
theorem dX5_start_72 : decode cX5_start 72 = .ok (.istore 5, 2) := by decide +kernel
theorem dX5_start_74 : decode cX5_start 74 = .ok (.iconst 0, 1) := by decide +kernel
theorem dX5_start_75 : decode cX5_start 75 = .ok (.istore 6, 2) := by decide +kernel
theorem dX5_start_77 : decode cX5_start 77 = .ok (.iload 6, 2) := by decide +kernel
theorem dX5_start_79 : decode cX5_start 79 = .ok (.aload_n 0, 1) := by decide +kernel
theorem dX5_start_80 : decode cX5_start 80 = .ok (.getfield 94, 3) := by decide +kernel
theorem dX5_start_83 : decode cX5_start 83 = .ok (.if_icmp .ge 70, 3) := by decide +kernel
theorem dX5_start_86 : decode cX5_start 86 = .ok (.iload 5, 2) := by decide +kernel
theorem dX5_start_88 : decode cX5_start 88 = .ok (.aload_n 0, 1) := by decide +kernel
theorem dX5_start_89 : decode cX5_start 89 = .ok (.getfield 52, 3) := by decide +kernel
theorem dX5_start_92 : decode cX5_start 92 = .ok (.iload 6, 2) := by decide +kernel
theorem dX5_start_94 : decode cX5_start 94 = .ok (.baload, 1) := by decide +kernel
theorem dX5_start_95 : decode cX5_start 95 = .ok (.ifCond .eq 48, 3) := by decide +kernel
theorem dX5_start_98 : decode cX5_start 98 = .ok (.aload_n 0, 1) := by decide +kernel
theorem dX5_start_99 : decode cX5_start 99 = .ok (.getfield 55, 3) := by decide +kernel
theorem dX5_start_102 : decode cX5_start 102 = .ok (.iload 6, 2) := by decide +kernel
theorem dX5_start_104 : decode cX5_start 104 = .ok (.iaload, 1) := by decide +kernel
theorem dX5_start_105 : decode cX5_start 105 = .ok (.aload_n 0, 1) := by decide +kernel
theorem dX5_start_106 : decode cX5_start 106 = .ok (.getfield 55, 3) := by decide +kernel
theorem dX5_start_109 : decode cX5_start 109 = .ok (.iload 4, 2) := by decide +kernel
theorem dX5_start_111 : decode cX5_start 111 = .ok (.iaload, 1) := by decide +kernel
theorem dX5_start_112 : decode cX5_start 112 = .ok (.if_icmp .lt 27, 3) := by decide +kernel
theorem dX5_start_115 : decode cX5_start 115 = .ok (.aload_n 0, 1) := by decide +kernel
theorem dX5_start_116 : decode cX5_start 116 = .ok (.getfield 55, 3) := by decide +kernel
theorem dX5_start_119 : decode cX5_start 119 = .ok (.iload 6, 2) := by decide +kernel
theorem dX5_start_121 : decode cX5_start 121 = .ok (.iaload, 1) := by decide +kernel
theorem dX5_start_122 : decode cX5_start 122 = .ok (.aload_n 0, 1) := by decide +kernel
theorem dX5_start_123 : decode cX5_start 123 = .ok (.getfield 55, 3) := by decide +kernel
theorem dX5_start_126 : decode cX5_start 126 = .ok (.iload 4, 2) := by decide +kernel
theorem dX5_start_128 : decode cX5_start 128 = .ok (.iaload, 1) := by decide +kernel
theorem dX5_start_129 : decode cX5_start 129 = .ok (.if_icmp .ne 14, 3) := by decide +kernel
theorem dX5_start_132 : decode cX5_start 132 = .ok (.iload 6, 2) := by decide +kernel
theorem dX5_start_134 : decode cX5_start 134 = .ok (.iload 4, 2) := by decide +kernel
theorem dX5_start_136 : decode cX5_start 136 = .ok (.if_icmp .le 7, 3) := by decide +kernel
theorem dX5_start_139 : decode cX5_start 139 = .ok (.iconst 1, 1) := by decide +kernel
theorem dX5_start_140 : decode cX5_start 140 = .ok (.goto 4, 3) := by decide +kernel
theorem dX5_start_143 : decode cX5_start 143 = .ok (.iconst 0, 1) := by decide +kernel
theorem dX5_start_144 : decode cX5_start 144 = .ok (.iadd, 1) := by decide +kernel
theorem dX5_start_145 : decode cX5_start 145 = .ok (.istore 5, 2) := by decide +kernel
theorem dX5_start_147 : decode cX5_start 147 = .ok (.iinc 6 1, 3) := by decide +kernel
theorem dX5_start_150 : decode cX5_start 150 = .ok (.goto (-73), 3) := by decide +kernel
theorem dX5_start_153 : decode cX5_start 153 = .ok (.iload 5, 2) := by decide +kernel
theorem dX5_start_155 : decode cX5_start 155 = .ok (.iload_n 3, 1) := by decide +kernel
theorem dX5_start_156 : decode cX5_start 156 = .ok (.if_icmp .ne 6, 3) := by decide +kernel
theorem dX5_start_159 : decode cX5_start 159 = .ok (.iload 4, 2) := by decide +kernel
theorem dX5_start_161 : decode cX5_start 161 = .ok (.ireturn, 1) := by decide +kernel
theorem dX5_start_162 : decode cX5_start 162 = .ok (.iinc 4 1, 3) := by decide +kernel
theorem dX5_start_165 : decode cX5_start 165 = .ok (.goto (-116), 3) := by decide +kernel
theorem dX5_start_168 : decode cX5_start 168 = .ok (.sipush (-10000), 3) := by decide +kernel
theorem dX5_start_171 : decode cX5_start 171 = .ok (.ireturn, 1) := by decide +kernel
set_option maxRecDepth 20000 in
theorem ggX5_team_X5_isKnowing : GoodIn wsX5_team wsX5_isKnowing := goodIn_r _ [9, 10, 11, 12, 8, 13, 57, 58, 59, 60, 61, 62, 63, 64, 65, 66, 67, 68, 69, 70, 71, 72, 73, 74, 75, 76, 77] (by decide +kernel) (by decide +kernel)
set_option maxRecDepth 20000 in
theorem gX5_team_X5_isKnowing : GoodIn wsX5_team (wsV RX5 136 RX5 yX5_isKnowing wsX5_isKnowing) := goodIn_app (goodIn_of _ (by decide +kernel)) ggX5_team_X5_isKnowing
set_option maxRecDepth 20000 in
theorem ggX5_team_X5_lies : GoodIn wsX5_team wsX5_lies := goodIn_r _ [13] (by decide +kernel) (by decide +kernel)
set_option maxRecDepth 20000 in
theorem gX5_team_X5_lies : GoodIn wsX5_team (va_wsS RX5 75 yX5_lies wsX5_lies) := goodIn_app (goodIn_of _ (by decide +kernel)) ggX5_team_X5_lies
set_option maxRecDepth 20000 in
theorem ggX5_team_X5_works : GoodIn wsX5_team wsX5_works := goodIn_r _ [17, 1, 2, 18, 19, 20, 4, 21, 22, 23, 8, 24, 25, 26, 27, 28, 29, 30, 31, 32, 33, 34, 35, 36, 37, 38, 39, 40, 41, 42, 43, 44, 45, 46, 47, 48, 49, 50, 51, 52, 53, 54, 55, 56, 57, 58, 59, 60, 61, 62, 63, 64, 65, 66, 67, 68, 69, 70, 71, 72, 73, 74, 75, 76, 77] (by decide +kernel) (by decide +kernel)
set_option maxRecDepth 20000 in
theorem gX5_team_X5_works : GoodIn wsX5_team (wsV RX5 148 RX5 yX5_works wsX5_works) := goodIn_app (goodIn_of _ (by decide +kernel)) ggX5_team_X5_works
theorem dX5_team_0 : decode cX5_team 0 = .ok (.aload_n 0, 1) := by decide +kernel
theorem dX5_team_1 : decode cX5_team 1 = .ok (.iload_n 1, 1) := by decide +kernel
theorem dX5_team_2 : decode cX5_team 2 = .ok (.invokevirtual 136, 3) := by decide +kernel
theorem dX5_team_5 : decode cX5_team 5 = .ok (.ifCond .eq 12, 3) := by decide +kernel
theorem dX5_team_8 : decode cX5_team 8 = .ok (.iload_n 2, 1) := by decide +kernel
theorem dX5_team_9 : decode cX5_team 9 = .ok (.iconst 0, 1) := by decide +kernel
theorem dX5_team_10 : decode cX5_team 10 = .ok (.iconst 5, 1) := by decide +kernel
theorem dX5_team_11 : decode cX5_team 11 = .ok (.invokestatic 75, 3) := by decide +kernel
theorem dX5_team_14 : decode cX5_team 14 = .ok (.ifCond .ne 7, 3) := by decide +kernel
theorem dX5_team_17 : decode cX5_team 17 = .ok (.sipush (-10000), 3) := by decide +kernel
theorem dX5_team_20 : decode cX5_team 20 = .ok (.ireturn, 1) := by decide +kernel
theorem dX5_team_21 : decode cX5_team 21 = .ok (.aload_n 0, 1) := by decide +kernel
theorem dX5_team_22 : decode cX5_team 22 = .ok (.iload_n 1, 1) := by decide +kernel
theorem dX5_team_23 : decode cX5_team 23 = .ok (.invokevirtual 148, 3) := by decide +kernel
theorem dX5_team_26 : decode cX5_team 26 = .ok (.iconst 0, 1) := by decide +kernel
theorem dX5_team_27 : decode cX5_team 27 = .ok (.istore_n 3, 1) := by decide +kernel
theorem dX5_team_28 : decode cX5_team 28 = .ok (.iconst 0, 1) := by decide +kernel
theorem dX5_team_29 : decode cX5_team 29 = .ok (.istore 4, 2) := by decide +kernel
theorem dX5_team_31 : decode cX5_team 31 = .ok (.iconst 0, 1) := by decide +kernel
theorem dX5_team_32 : decode cX5_team 32 = .ok (.istore 5, 2) := by decide +kernel
theorem dX5_team_34 : decode cX5_team 34 = .ok (.iload 5, 2) := by decide +kernel
theorem dX5_team_36 : decode cX5_team 36 = .ok (.aload_n 0, 1) := by decide +kernel
theorem dX5_team_37 : decode cX5_team 37 = .ok (.getfield 94, 3) := by decide +kernel
theorem dX5_team_40 : decode cX5_team 40 = .ok (.if_icmp .ge 151, 3) := by decide +kernel
theorem dX5_team_43 : decode cX5_team 43 = .ok (.aload_n 0, 1) := by decide +kernel
theorem dX5_team_44 : decode cX5_team 44 = .ok (.getfield 48, 3) := by decide +kernel
theorem dX5_team_47 : decode cX5_team 47 = .ok (.iload 5, 2) := by decide +kernel
theorem dX5_team_49 : decode cX5_team 49 = .ok (.baload, 1) := by decide +kernel
theorem dX5_team_50 : decode cX5_team 50 = .ok (.ifCond .eq 135, 3) := by decide +kernel
theorem dX5_team_53 : decode cX5_team 53 = .ok (.aload_n 0, 1) := by decide +kernel
theorem dX5_team_54 : decode cX5_team 54 = .ok (.getfield 24, 3) := by decide +kernel
theorem dX5_team_57 : decode cX5_team 57 = .ok (.iload 5, 2) := by decide +kernel
theorem dX5_team_59 : decode cX5_team 59 = .ok (.iaload, 1) := by decide +kernel
theorem dX5_team_60 : decode cX5_team 60 = .ok (.iload_n 2, 1) := by decide +kernel
theorem dX5_team_61 : decode cX5_team 61 = .ok (.if_icmp .eq 6, 3) := by decide +kernel
theorem dX5_team_64 : decode cX5_team 64 = .ok (.goto 121, 3) := by decide +kernel
theorem dX5_team_67 : decode cX5_team 67 = .ok (.iinc 3 1, 3) := by decide +kernel
theorem dX5_team_70 : decode cX5_team 70 = .ok (.iconst 0, 1) := by decide +kernel
theorem dX5_team_71 : decode cX5_team 71 = .ok (.istore 6, 2) := by decide +kernel
theorem dX5_team_73 : decode cX5_team 73 = .ok (.iconst 0, 1) := by decide +kernel
theorem dX5_team_74 : decode cX5_team 74 = .ok (.istore 7, 2) := by decide +kernel
theorem dX5_team_76 : decode cX5_team 76 = .ok (.iload 7, 2) := by decide +kernel
theorem dX5_team_78 : decode cX5_team 78 = .ok (.aload_n 0, 1) := by decide +kernel
theorem dX5_team_79 : decode cX5_team 79 = .ok (.getfield 94, 3) := by decide +kernel
theorem dX5_team_82 : decode cX5_team 82 = .ok (.if_icmp .ge 81, 3) := by decide +kernel
theorem dX5_team_85 : decode cX5_team 85 = .ok (.iload 6, 2) := by decide +kernel
theorem dX5_team_87 : decode cX5_team 87 = .ok (.aload_n 0, 1) := by decide +kernel
theorem dX5_team_88 : decode cX5_team 88 = .ok (.getfield 48, 3) := by decide +kernel
theorem dX5_team_91 : decode cX5_team 91 = .ok (.iload 7, 2) := by decide +kernel
theorem dX5_team_93 : decode cX5_team 93 = .ok (.baload, 1) := by decide +kernel
theorem dX5_team_94 : decode cX5_team 94 = .ok (.ifCond .eq 59, 3) := by decide +kernel
theorem dX5_team_97 : decode cX5_team 97 = .ok (.aload_n 0, 1) := by decide +kernel
theorem dX5_team_98 : decode cX5_team 98 = .ok (.getfield 24, 3) := by decide +kernel
theorem dX5_team_101 : decode cX5_team 101 = .ok (.iload 7, 2) := by decide +kernel
theorem dX5_team_103 : decode cX5_team 103 = .ok (.iaload, 1) := by decide +kernel
theorem dX5_team_104 : decode cX5_team 104 = .ok (.iload_n 2, 1) := by decide +kernel
theorem dX5_team_105 : decode cX5_team 105 = .ok (.if_icmp .ne 48, 3) := by decide +kernel
theorem dX5_team_108 : decode cX5_team 108 = .ok (.aload_n 0, 1) := by decide +kernel
theorem dX5_team_109 : decode cX5_team 109 = .ok (.getfield 58, 3) := by decide +kernel
theorem dX5_team_112 : decode cX5_team 112 = .ok (.iload 7, 2) := by decide +kernel
theorem dX5_team_114 : decode cX5_team 114 = .ok (.iaload, 1) := by decide +kernel
theorem dX5_team_115 : decode cX5_team 115 = .ok (.aload_n 0, 1) := by decide +kernel
theorem dX5_team_116 : decode cX5_team 116 = .ok (.getfield 58, 3) := by decide +kernel
theorem dX5_team_119 : decode cX5_team 119 = .ok (.iload 5, 2) := by decide +kernel
theorem dX5_team_121 : decode cX5_team 121 = .ok (.iaload, 1) := by decide +kernel
theorem dX5_team_122 : decode cX5_team 122 = .ok (.if_icmp .gt 27, 3) := by decide +kernel
theorem dX5_team_125 : decode cX5_team 125 = .ok (.aload_n 0, 1) := by decide +kernel
theorem dX5_team_126 : decode cX5_team 126 = .ok (.getfield 58, 3) := by decide +kernel
theorem dX5_team_129 : decode cX5_team 129 = .ok (.iload 7, 2) := by decide +kernel
theorem dX5_team_131 : decode cX5_team 131 = .ok (.iaload, 1) := by decide +kernel
theorem dX5_team_132 : decode cX5_team 132 = .ok (.aload_n 0, 1) := by decide +kernel
theorem dX5_team_133 : decode cX5_team 133 = .ok (.getfield 58, 3) := by decide +kernel
theorem dX5_team_136 : decode cX5_team 136 = .ok (.iload 5, 2) := by decide +kernel
theorem dX5_team_138 : decode cX5_team 138 = .ok (.iaload, 1) := by decide +kernel
theorem dX5_team_139 : decode cX5_team 139 = .ok (.if_icmp .ne 14, 3) := by decide +kernel
theorem dX5_team_142 : decode cX5_team 142 = .ok (.iload 7, 2) := by decide +kernel
theorem dX5_team_144 : decode cX5_team 144 = .ok (.iload 5, 2) := by decide +kernel
theorem dX5_team_146 : decode cX5_team 146 = .ok (.if_icmp .ge 7, 3) := by decide +kernel
theorem dX5_team_149 : decode cX5_team 149 = .ok (.iconst 1, 1) := by decide +kernel
theorem dX5_team_150 : decode cX5_team 150 = .ok (.goto 4, 3) := by decide +kernel
theorem dX5_team_153 : decode cX5_team 153 = .ok (.iconst 0, 1) := by decide +kernel
theorem dX5_team_154 : decode cX5_team 154 = .ok (.iadd, 1) := by decide +kernel
theorem dX5_team_155 : decode cX5_team 155 = .ok (.istore 6, 2) := by decide +kernel
theorem dX5_team_157 : decode cX5_team 157 = .ok (.iinc 7 1, 3) := by decide +kernel
theorem dX5_team_160 : decode cX5_team 160 = .ok (.goto (-84), 3) := by decide +kernel
theorem dX5_team_163 : decode cX5_team 163 = .ok (.iload 4, 2) := by decide +kernel
theorem dX5_team_165 : decode cX5_team 165 = .ok (.iload 6, 2) := by decide +kernel
theorem dX5_team_167 : decode cX5_team 167 = .ok (.iconst 4, 1) := by decide +kernel
theorem dX5_team_168 : decode cX5_team 168 = .ok (.if_icmp .ge 13, 3) := by decide +kernel
theorem dX5_team_171 : decode cX5_team 171 = .ok (.aload_n 0, 1) := by decide +kernel
theorem dX5_team_172 : decode cX5_team 172 = .ok (.getfield 58, 3) := by decide +kernel
theorem dX5_team_175 : decode cX5_team 175 = .ok (.iload 5, 2) := by decide +kernel
theorem dX5_team_177 : decode cX5_team 177 = .ok (.iaload, 1) := by decide +kernel
theorem dX5_team_178 : decode cX5_team 178 = .ok (.goto 4, 3) := by decide +kernel
theorem dX5_team_181 : decode cX5_team 181 = .ok (.iconst 0, 1) := by decide +kernel
theorem dX5_team_182 : decode cX5_team 182 = .ok (.iadd, 1) := by decide +kernel
theorem dX5_team_183 : decode cX5_team 183 = .ok (.istore 4, 2) := by decide +kernel
theorem dX5_team_185 : decode cX5_team 185 = .ok (.iinc 5 1, 3) := by decide +kernel
theorem dX5_team_188 : decode cX5_team 188 = .ok (.goto (-154), 3) := by decide +kernel
theorem dX5_team_191 : decode cX5_team 191 = .ok (.iload_n 3, 1) := by decide +kernel
theorem dX5_team_192 : decode cX5_team 192 = .ok (.ifCond .ne 9, 3) := by decide +kernel
theorem dX5_team_195 : decode cX5_team 195 = .ok (.sipush (-10000), 3) := by decide +kernel
theorem dX5_team_198 : decode cX5_team 198 = .ok (.goto 5, 3) := by decide +kernel
theorem dX5_team_201 : decode cX5_team 201 = .ok (.iload 4, 2) := by decide +kernel
theorem dX5_team_203 : decode cX5_team 203 = .ok (.ireturn, 1) := by decide +kernel
set_option maxRecDepth 20000 in
theorem ggX5_isClean_X5_lastOf : GoodIn wsX5_isClean wsX5_lastOf := goodIn_r _ [7, 8, 9, 10, 11, 12, 13, 14, 15, 16, 17, 18, 19, 20, 21, 22, 23, 24, 25, 26, 27, 28, 29, 30] (by decide +kernel) (by decide +kernel)
set_option maxRecDepth 20000 in
theorem gX5_isClean_X5_lastOf : GoodIn wsX5_isClean (wsV RX5 120 RX5 yX5_lastOf wsX5_lastOf) := goodIn_app (goodIn_of _ (by decide +kernel)) ggX5_isClean_X5_lastOf
theorem dX5_isClean_0 : decode cX5_isClean 0 = .ok (.aload_n 0, 1) := by decide +kernel
theorem dX5_isClean_1 : decode cX5_isClean 1 = .ok (.aload_n 0, 1) := by decide +kernel
theorem dX5_isClean_2 : decode cX5_isClean 2 = .ok (.getfield 101, 3) := by decide +kernel
theorem dX5_isClean_5 : decode cX5_isClean 5 = .ok (.iconst 2, 1) := by decide +kernel
theorem dX5_isClean_6 : decode cX5_isClean 6 = .ok (.iload_n 1, 1) := by decide +kernel
theorem dX5_isClean_7 : decode cX5_isClean 7 = .ok (.invokevirtual 120, 3) := by decide +kernel
theorem dX5_isClean_10 : decode cX5_isClean 10 = .ok (.istore_n 2, 1) := by decide +kernel
theorem dX5_isClean_11 : decode cX5_isClean 11 = .ok (.iload_n 2, 1) := by decide +kernel
theorem dX5_isClean_12 : decode cX5_isClean 12 = .ok (.ifCond .ge 5, 3) := by decide +kernel
theorem dX5_isClean_15 : decode cX5_isClean 15 = .ok (.iconst 0, 1) := by decide +kernel
theorem dX5_isClean_16 : decode cX5_isClean 16 = .ok (.ireturn, 1) := by decide +kernel
theorem dX5_isClean_17 : decode cX5_isClean 17 = .ok (.iconst 0, 1) := by decide +kernel
theorem dX5_isClean_18 : decode cX5_isClean 18 = .ok (.istore_n 3, 1) := by decide +kernel
theorem dX5_isClean_19 : decode cX5_isClean 19 = .ok (.iload_n 3, 1) := by decide +kernel
theorem dX5_isClean_20 : decode cX5_isClean 20 = .ok (.iconst 5, 1) := by decide +kernel
theorem dX5_isClean_21 : decode cX5_isClean 21 = .ok (.if_icmp .ge 26, 3) := by decide +kernel
theorem dX5_isClean_24 : decode cX5_isClean 24 = .ok (.aload_n 0, 1) := by decide +kernel
theorem dX5_isClean_25 : decode cX5_isClean 25 = .ok (.getfield 39, 3) := by decide +kernel
theorem dX5_isClean_28 : decode cX5_isClean 28 = .ok (.iconst 5, 1) := by decide +kernel
theorem dX5_isClean_29 : decode cX5_isClean 29 = .ok (.iload_n 2, 1) := by decide +kernel
theorem dX5_isClean_30 : decode cX5_isClean 30 = .ok (.imul, 1) := by decide +kernel
theorem dX5_isClean_31 : decode cX5_isClean 31 = .ok (.iload_n 3, 1) := by decide +kernel
theorem dX5_isClean_32 : decode cX5_isClean 32 = .ok (.iadd, 1) := by decide +kernel
theorem dX5_isClean_33 : decode cX5_isClean 33 = .ok (.iaload, 1) := by decide +kernel
theorem dX5_isClean_34 : decode cX5_isClean 34 = .ok (.bipush 20, 2) := by decide +kernel
theorem dX5_isClean_36 : decode cX5_isClean 36 = .ok (.if_icmp .ge 5, 3) := by decide +kernel
theorem dX5_isClean_39 : decode cX5_isClean 39 = .ok (.iconst 0, 1) := by decide +kernel
theorem dX5_isClean_40 : decode cX5_isClean 40 = .ok (.ireturn, 1) := by decide +kernel
theorem dX5_isClean_41 : decode cX5_isClean 41 = .ok (.iinc 3 1, 3) := by decide +kernel
theorem dX5_isClean_44 : decode cX5_isClean 44 = .ok (.goto (-25), 3) := by decide +kernel
theorem dX5_isClean_47 : decode cX5_isClean 47 = .ok (.iconst 1, 1) := by decide +kernel
theorem dX5_isClean_48 : decode cX5_isClean 48 = .ok (.ireturn, 1) := by decide +kernel
set_option maxRecDepth 20000 in
theorem ggX5_longest_X5_lastOf : GoodIn wsX5_longest wsX5_lastOf := goodIn_r _ [9, 3, 2, 22, 23, 24, 25, 26, 27, 28, 29, 30, 31, 32, 33, 34, 35, 36, 37, 38, 39, 40, 41, 42] (by decide +kernel) (by decide +kernel)
set_option maxRecDepth 20000 in
theorem gX5_longest_X5_lastOf : GoodIn wsX5_longest (wsV RX5 120 RX5 yX5_lastOf wsX5_lastOf) := goodIn_app (goodIn_of _ (by decide +kernel)) ggX5_longest_X5_lastOf
set_option maxRecDepth 20000 in
theorem ggX5_longest_X5_has : GoodIn wsX5_longest wsX5_has := goodIn_r _ [13, 5, 6, 7, 8, 9, 3, 2, 14, 15, 16, 17, 4, 22, 23, 24, 25, 26, 27, 28, 29, 30, 31, 32, 33, 34, 35, 36, 37, 38, 39, 40, 41, 42] (by decide +kernel) (by decide +kernel)
set_option maxRecDepth 20000 in
theorem gX5_longest_X5_has : GoodIn wsX5_longest (wsV RX5 139 RX5 yX5_has wsX5_has) := goodIn_app (goodIn_of _ (by decide +kernel)) ggX5_longest_X5_has
set_option maxRecDepth 20000 in
theorem ggX5_longest_X5_isClean : GoodIn wsX5_longest wsX5_isClean := goodIn_r _ [21, 1, 4, 5, 6, 7, 8, 9, 3, 2, 22, 23, 24, 25, 26, 27, 28, 29, 30, 31, 32, 33, 34, 35, 36, 37, 38, 39, 40, 41, 42] (by decide +kernel) (by decide +kernel)
set_option maxRecDepth 20000 in
theorem gX5_longest_X5_isClean : GoodIn wsX5_longest (wsV RX5 154 RX5 yX5_isClean wsX5_isClean) := goodIn_app (goodIn_of _ (by decide +kernel)) ggX5_longest_X5_isClean
theorem dX5_longest_0 : decode cX5_longest 0 = .ok (.sipush (-10000), 3) := by decide +kernel
theorem dX5_longest_3 : decode cX5_longest 3 = .ok (.istore_n 1, 1) := by decide +kernel
theorem dX5_longest_4 : decode cX5_longest 4 = .ok (.iconst 0, 1) := by decide +kernel
theorem dX5_longest_5 : decode cX5_longest 5 = .ok (.istore_n 2, 1) := by decide +kernel
theorem dX5_longest_6 : decode cX5_longest 6 = .ok (.iload_n 2, 1) := by decide +kernel
theorem dX5_longest_7 : decode cX5_longest 7 = .ok (.aload_n 0, 1) := by decide +kernel
theorem dX5_longest_8 : decode cX5_longest 8 = .ok (.getfield 101, 3) := by decide +kernel
theorem dX5_longest_11 : decode cX5_longest 11 = .ok (.if_icmp .ge 87, 3) := by decide +kernel
theorem dX5_longest_14 : decode cX5_longest 14 = .ok (.aload_n 0, 1) := by decide +kernel
theorem dX5_longest_15 : decode cX5_longest 15 = .ok (.getfield 36, 3) := by decide +kernel
theorem dX5_longest_18 : decode cX5_longest 18 = .ok (.iload_n 2, 1) := by decide +kernel
theorem dX5_longest_19 : decode cX5_longest 19 = .ok (.iaload, 1) := by decide +kernel
theorem dX5_longest_20 : decode cX5_longest 20 = .ok (.istore_n 3, 1) := by decide +kernel
theorem dX5_longest_21 : decode cX5_longest 21 = .ok (.aload_n 0, 1) := by decide +kernel
theorem dX5_longest_22 : decode cX5_longest 22 = .ok (.getfield 33, 3) := by decide +kernel
theorem dX5_longest_25 : decode cX5_longest 25 = .ok (.iload_n 2, 1) := by decide +kernel
theorem dX5_longest_26 : decode cX5_longest 26 = .ok (.iaload, 1) := by decide +kernel
theorem dX5_longest_27 : decode cX5_longest 27 = .ok (.ifCond .ne 65, 3) := by decide +kernel
theorem dX5_longest_30 : decode cX5_longest 30 = .ok (.aload_n 0, 1) := by decide +kernel
theorem dX5_longest_31 : decode cX5_longest 31 = .ok (.aload_n 0, 1) := by decide +kernel
theorem dX5_longest_32 : decode cX5_longest 32 = .ok (.getfield 101, 3) := by decide +kernel
theorem dX5_longest_35 : decode cX5_longest 35 = .ok (.iconst 0, 1) := by decide +kernel
theorem dX5_longest_36 : decode cX5_longest 36 = .ok (.iload_n 3, 1) := by decide +kernel
theorem dX5_longest_37 : decode cX5_longest 37 = .ok (.invokevirtual 120, 3) := by decide +kernel
theorem dX5_longest_40 : decode cX5_longest 40 = .ok (.iload_n 2, 1) := by decide +kernel
theorem dX5_longest_41 : decode cX5_longest 41 = .ok (.if_icmp .ne 51, 3) := by decide +kernel
theorem dX5_longest_44 : decode cX5_longest 44 = .ok (.aload_n 0, 1) := by decide +kernel
theorem dX5_longest_45 : decode cX5_longest 45 = .ok (.aload_n 0, 1) := by decide +kernel
theorem dX5_longest_46 : decode cX5_longest 46 = .ok (.getfield 101, 3) := by decide +kernel
theorem dX5_longest_49 : decode cX5_longest 49 = .ok (.iload_n 3, 1) := by decide +kernel
theorem dX5_longest_50 : decode cX5_longest 50 = .ok (.invokevirtual 139, 3) := by decide +kernel
theorem dX5_longest_53 : decode cX5_longest 53 = .ok (.ifCond .eq 39, 3) := by decide +kernel
theorem dX5_longest_56 : decode cX5_longest 56 = .ok (.aload_n 0, 1) := by decide +kernel
theorem dX5_longest_57 : decode cX5_longest 57 = .ok (.iload_n 3, 1) := by decide +kernel
theorem dX5_longest_58 : decode cX5_longest 58 = .ok (.invokevirtual 154, 3) := by decide +kernel
theorem dX5_longest_61 : decode cX5_longest 61 = .ok (.ifCond .ne 6, 3) := by decide +kernel
theorem dX5_longest_64 : decode cX5_longest 64 = .ok (.goto 28, 3) := by decide +kernel
theorem dX5_longest_67 : decode cX5_longest 67 = .ok (.iload_n 1, 1) := by decide +kernel
theorem dX5_longest_68 : decode cX5_longest 68 = .ok (.ifCond .lt 22, 3) := by decide +kernel
theorem dX5_longest_71 : decode cX5_longest 71 = .ok (.aload_n 0, 1) := by decide +kernel
theorem dX5_longest_72 : decode cX5_longest 72 = .ok (.getfield 39, 3) := by decide +kernel
theorem dX5_longest_75 : decode cX5_longest 75 = .ok (.iconst 5, 1) := by decide +kernel
theorem dX5_longest_76 : decode cX5_longest 76 = .ok (.iload_n 2, 1) := by decide +kernel
theorem dX5_longest_77 : decode cX5_longest 77 = .ok (.imul, 1) := by decide +kernel
theorem dX5_longest_78 : decode cX5_longest 78 = .ok (.iaload, 1) := by decide +kernel
theorem dX5_longest_79 : decode cX5_longest 79 = .ok (.aload_n 0, 1) := by decide +kernel
theorem dX5_longest_80 : decode cX5_longest 80 = .ok (.getfield 39, 3) := by decide +kernel
theorem dX5_longest_83 : decode cX5_longest 83 = .ok (.iconst 5, 1) := by decide +kernel
theorem dX5_longest_84 : decode cX5_longest 84 = .ok (.iload_n 1, 1) := by decide +kernel
theorem dX5_longest_85 : decode cX5_longest 85 = .ok (.imul, 1) := by decide +kernel
theorem dX5_longest_86 : decode cX5_longest 86 = .ok (.iaload, 1) := by decide +kernel
theorem dX5_longest_87 : decode cX5_longest 87 = .ok (.if_icmp .le 5, 3) := by decide +kernel
theorem dX5_longest_90 : decode cX5_longest 90 = .ok (.iload_n 2, 1) := by decide +kernel
theorem dX5_longest_91 : decode cX5_longest 91 = .ok (.istore_n 1, 1) := by decide +kernel
theorem dX5_longest_92 : decode cX5_longest 92 = .ok (.iinc 2 1, 3) := by decide +kernel
theorem dX5_longest_95 : decode cX5_longest 95 = .ok (.goto (-89), 3) := by decide +kernel
theorem dX5_longest_98 : decode cX5_longest 98 = .ok (.iload_n 1, 1) := by decide +kernel
theorem dX5_longest_99 : decode cX5_longest 99 = .ok (.ireturn, 1) := by decide +kernel
theorem dX5_isGreater_0 : decode cX5_isGreater 0 = .ok (.iload_n 1, 1) := by decide +kernel
theorem dX5_isGreater_1 : decode cX5_isGreater 1 = .ok (.ifCond .lt 32, 3) := by decide +kernel
theorem dX5_isGreater_4 : decode cX5_isGreater 4 = .ok (.aload_n 0, 1) := by decide +kernel
theorem dX5_isGreater_5 : decode cX5_isGreater 5 = .ok (.getfield 42, 3) := by decide +kernel
theorem dX5_isGreater_8 : decode cX5_isGreater 8 = .ok (.sipush (-10000), 3) := by decide +kernel
theorem dX5_isGreater_11 : decode cX5_isGreater 11 = .ok (.if_icmp .eq 18, 3) := by decide +kernel
theorem dX5_isGreater_14 : decode cX5_isGreater 14 = .ok (.aload_n 0, 1) := by decide +kernel
theorem dX5_isGreater_15 : decode cX5_isGreater 15 = .ok (.getfield 39, 3) := by decide +kernel
theorem dX5_isGreater_18 : decode cX5_isGreater 18 = .ok (.iconst 5, 1) := by decide +kernel
theorem dX5_isGreater_19 : decode cX5_isGreater 19 = .ok (.iload_n 1, 1) := by decide +kernel
theorem dX5_isGreater_20 : decode cX5_isGreater 20 = .ok (.imul, 1) := by decide +kernel
theorem dX5_isGreater_21 : decode cX5_isGreater 21 = .ok (.iaload, 1) := by decide +kernel
theorem dX5_isGreater_22 : decode cX5_isGreater 22 = .ok (.aload_n 0, 1) := by decide +kernel
theorem dX5_isGreater_23 : decode cX5_isGreater 23 = .ok (.getfield 42, 3) := by decide +kernel
theorem dX5_isGreater_26 : decode cX5_isGreater 26 = .ok (.if_icmp .le 7, 3) := by decide +kernel
theorem dX5_isGreater_29 : decode cX5_isGreater 29 = .ok (.iconst 1, 1) := by decide +kernel
theorem dX5_isGreater_30 : decode cX5_isGreater 30 = .ok (.goto 4, 3) := by decide +kernel
theorem dX5_isGreater_33 : decode cX5_isGreater 33 = .ok (.iconst 0, 1) := by decide +kernel
theorem dX5_isGreater_34 : decode cX5_isGreater 34 = .ok (.ireturn, 1) := by decide +kernel
set_option maxRecDepth 20000 in
theorem ggX5_record_X5_lies : GoodIn wsX5_record wsX5_lies := goodIn_r _ [8] (by decide +kernel) (by decide +kernel)
set_option maxRecDepth 20000 in
theorem gX5_record_X5_lies : GoodIn wsX5_record (va_wsS RX5 75 yX5_lies wsX5_lies) := goodIn_app (goodIn_of _ (by decide +kernel)) ggX5_record_X5_lies
set_option maxRecDepth 20000 in
theorem ggX5_record_X5_longest : GoodIn wsX5_record wsX5_longest := goodIn_r _ [12, 13, 4, 14, 3, 15, 16, 17, 7, 18, 19, 20, 21, 22, 23, 24, 25, 26, 27, 28, 29, 30, 35, 36, 37, 38, 39, 40, 41, 42, 43, 44, 45, 46, 47, 48, 49, 50, 51, 52, 53, 54, 55] (by decide +kernel) (by decide +kernel)
set_option maxRecDepth 20000 in
theorem gX5_record_X5_longest : GoodIn wsX5_record (wsV RX5 157 RX5 yX5_longest wsX5_longest) := goodIn_app (goodIn_of _ (by decide +kernel)) ggX5_record_X5_longest
set_option maxRecDepth 20000 in
theorem ggX5_record_X5_isGreater : GoodIn wsX5_record wsX5_isGreater := goodIn_r _ [34, 1, 3, 35, 36, 37, 38, 39, 40, 41, 42, 43, 44, 45, 46, 47, 48, 49, 50, 51, 52, 53, 54, 55] (by decide +kernel) (by decide +kernel)
set_option maxRecDepth 20000 in
theorem gX5_record_X5_isGreater : GoodIn wsX5_record (wsV RX5 161 RX5 yX5_isGreater wsX5_isGreater) := goodIn_app (goodIn_of _ (by decide +kernel)) ggX5_record_X5_isGreater
theorem dX5_record_0 : decode cX5_record 0 = .ok (.iload_n 1, 1) := by decide +kernel
theorem dX5_record_1 : decode cX5_record 1 = .ok (.iconst 0, 1) := by decide +kernel
theorem dX5_record_2 : decode cX5_record 2 = .ok (.iconst 1, 1) := by decide +kernel
theorem dX5_record_3 : decode cX5_record 3 = .ok (.invokestatic 75, 3) := by decide +kernel
theorem dX5_record_6 : decode cX5_record 6 = .ok (.ifCond .ne 7, 3) := by decide +kernel
theorem dX5_record_9 : decode cX5_record 9 = .ok (.sipush (-10000), 3) := by decide +kernel
theorem dX5_record_12 : decode cX5_record 12 = .ok (.ireturn, 1) := by decide +kernel
theorem dX5_record_13 : decode cX5_record 13 = .ok (.aload_n 0, 1) := by decide +kernel
theorem dX5_record_14 : decode cX5_record 14 = .ok (.invokevirtual 157, 3) := by decide +kernel
theorem dX5_record_17 : decode cX5_record 17 = .ok (.istore_n 2, 1) := by decide +kernel
theorem dX5_record_18 : decode cX5_record 18 = .ok (.aload_n 0, 1) := by decide +kernel
theorem dX5_record_19 : decode cX5_record 19 = .ok (.iload_n 2, 1) := by decide +kernel
theorem dX5_record_20 : decode cX5_record 20 = .ok (.invokevirtual 161, 3) := by decide +kernel
theorem dX5_record_23 : decode cX5_record 23 = .ok (.ifCond .ne 19, 3) := by decide +kernel
theorem dX5_record_26 : decode cX5_record 26 = .ok (.iload_n 1, 1) := by decide +kernel
theorem dX5_record_27 : decode cX5_record 27 = .ok (.ifCond .ne 10, 3) := by decide +kernel
theorem dX5_record_30 : decode cX5_record 30 = .ok (.aload_n 0, 1) := by decide +kernel
theorem dX5_record_31 : decode cX5_record 31 = .ok (.getfield 42, 3) := by decide +kernel
theorem dX5_record_34 : decode cX5_record 34 = .ok (.goto 7, 3) := by decide +kernel
theorem dX5_record_37 : decode cX5_record 37 = .ok (.aload_n 0, 1) := by decide +kernel
theorem dX5_record_38 : decode cX5_record 38 = .ok (.getfield 45, 3) := by decide +kernel
theorem dX5_record_41 : decode cX5_record 41 = .ok (.ireturn, 1) := by decide +kernel
theorem dX5_record_42 : decode cX5_record 42 = .ok (.iload_n 1, 1) := by decide +kernel
theorem dX5_record_43 : decode cX5_record 43 = .ok (.ifCond .ne 14, 3) := by decide +kernel
theorem dX5_record_46 : decode cX5_record 46 = .ok (.aload_n 0, 1) := by decide +kernel
theorem dX5_record_47 : decode cX5_record 47 = .ok (.getfield 39, 3) := by decide +kernel
theorem dX5_record_50 : decode cX5_record 50 = .ok (.iconst 5, 1) := by decide +kernel
theorem dX5_record_51 : decode cX5_record 51 = .ok (.iload_n 2, 1) := by decide +kernel
theorem dX5_record_52 : decode cX5_record 52 = .ok (.imul, 1) := by decide +kernel
theorem dX5_record_53 : decode cX5_record 53 = .ok (.iaload, 1) := by decide +kernel
theorem dX5_record_54 : decode cX5_record 54 = .ok (.goto 12, 3) := by decide +kernel
theorem dX5_record_57 : decode cX5_record 57 = .ok (.aload_n 0, 1) := by decide +kernel
theorem dX5_record_58 : decode cX5_record 58 = .ok (.getfield 36, 3) := by decide +kernel
theorem dX5_record_61 : decode cX5_record 61 = .ok (.iload_n 2, 1) := by decide +kernel
theorem dX5_record_62 : decode cX5_record 62 = .ok (.iaload, 1) := by decide +kernel
theorem dX5_record_63 : decode cX5_record 63 = .ok (.bipush 32, 2) := by decide +kernel
theorem dX5_record_65 : decode cX5_record 65 = .ok (.irem, 1) := by decide +kernel
theorem dX5_record_66 : decode cX5_record 66 = .ok (.ireturn, 1) := by decide +kernel
set_option maxRecDepth 20000 in
theorem ggX5_differ_X5_isKnowing : GoodIn wsX5_differ wsX5_isKnowing := goodIn_r _ [8, 9, 10, 11, 7, 12, 65, 66, 67, 68, 69, 70, 71, 72, 73, 74, 75, 76, 77, 78, 79, 80, 81, 82, 83, 84, 85] (by decide +kernel) (by decide +kernel)
set_option maxRecDepth 20000 in
theorem gX5_differ_X5_isKnowing : GoodIn wsX5_differ (wsV RX5 136 RX5 yX5_isKnowing wsX5_isKnowing) := goodIn_app (goodIn_of _ (by decide +kernel)) ggX5_differ_X5_isKnowing
set_option maxRecDepth 20000 in
theorem ggX5_differ_X5_works : GoodIn wsX5_differ wsX5_works := goodIn_r _ [16, 1, 3, 17, 18, 19, 20, 21, 22, 23, 7, 24, 25, 26, 27, 28, 29, 30, 31, 32, 33, 34, 35, 36, 37, 38, 39, 40, 41, 42, 43, 44, 45, 46, 47, 48, 49, 50, 51, 52, 53, 54, 55, 56, 65, 66, 67, 68, 69, 70, 71, 72, 73, 74, 75, 76, 77, 78, 79, 80, 81, 82, 83, 84, 85] (by decide +kernel) (by decide +kernel)
set_option maxRecDepth 20000 in
theorem gX5_differ_X5_works : GoodIn wsX5_differ (wsV RX5 148 RX5 yX5_works wsX5_works) := goodIn_app (goodIn_of _ (by decide +kernel)) ggX5_differ_X5_works
set_option maxRecDepth 20000 in
theorem ggX5_differ_X5_place : GoodIn wsX5_differ wsX5_place := goodIn_r _ [60, 1, 61, 62, 63, 7, 64, 3, 18, 20, 65, 66, 67, 68, 69, 70, 71, 72, 73, 74, 75, 76, 77, 78, 79, 80, 81, 82, 83, 84, 85] (by decide +kernel) (by decide +kernel)
set_option maxRecDepth 20000 in
theorem gX5_differ_X5_place : GoodIn wsX5_differ (wsV RX5 151 RX5 yX5_place wsX5_place) := goodIn_app (goodIn_of _ (by decide +kernel)) ggX5_differ_X5_place
theorem dX5_differ_0 : decode cX5_differ 0 = .ok (.aload_n 0, 1) := by decide +kernel
theorem dX5_differ_1 : decode cX5_differ 1 = .ok (.iload_n 1, 1) := by decide +kernel
theorem dX5_differ_2 : decode cX5_differ 2 = .ok (.invokevirtual 136, 3) := by decide +kernel
theorem dX5_differ_5 : decode cX5_differ 5 = .ok (.ifCond .eq 15, 3) := by decide +kernel
theorem dX5_differ_8 : decode cX5_differ 8 = .ok (.aload_n 0, 1) := by decide +kernel
theorem dX5_differ_9 : decode cX5_differ 9 = .ok (.iload_n 2, 1) := by decide +kernel
theorem dX5_differ_10 : decode cX5_differ 10 = .ok (.invokevirtual 136, 3) := by decide +kernel
theorem dX5_differ_13 : decode cX5_differ 13 = .ok (.ifCond .eq 7, 3) := by decide +kernel
theorem dX5_differ_16 : decode cX5_differ 16 = .ok (.iload_n 3, 1) := by decide +kernel
theorem dX5_differ_17 : decode cX5_differ 17 = .ok (.ifCond .ge 7, 3) := by decide +kernel
theorem dX5_differ_20 : decode cX5_differ 20 = .ok (.sipush (-10000), 3) := by decide +kernel
theorem dX5_differ_23 : decode cX5_differ 23 = .ok (.ireturn, 1) := by decide +kernel
theorem dX5_differ_24 : decode cX5_differ 24 = .ok (.aload_n 0, 1) := by decide +kernel
theorem dX5_differ_25 : decode cX5_differ 25 = .ok (.iload_n 1, 1) := by decide +kernel
theorem dX5_differ_26 : decode cX5_differ 26 = .ok (.invokevirtual 148, 3) := by decide +kernel
theorem dX5_differ_29 : decode cX5_differ 29 = .ok (.iconst 0, 1) := by decide +kernel
theorem dX5_differ_30 : decode cX5_differ 30 = .ok (.istore 4, 2) := by decide +kernel
theorem dX5_differ_32 : decode cX5_differ 32 = .ok (.iload 4, 2) := by decide +kernel
theorem dX5_differ_34 : decode cX5_differ 34 = .ok (.aload_n 0, 1) := by decide +kernel
theorem dX5_differ_35 : decode cX5_differ 35 = .ok (.getfield 94, 3) := by decide +kernel
theorem dX5_differ_38 : decode cX5_differ 38 = .ok (.if_icmp .ge 36, 3) := by decide +kernel
theorem dX5_differ_41 : decode cX5_differ 41 = .ok (.aload_n 0, 1) := by decide +kernel
theorem dX5_differ_42 : decode cX5_differ 42 = .ok (.getfield 61, 3) := by decide +kernel
theorem dX5_differ_45 : decode cX5_differ 45 = .ok (.iload 4, 2) := by decide +kernel
theorem dX5_differ_47 : decode cX5_differ 47 = .ok (.aload_n 0, 1) := by decide +kernel
theorem dX5_differ_48 : decode cX5_differ 48 = .ok (.getfield 48, 3) := by decide +kernel
theorem dX5_differ_51 : decode cX5_differ 51 = .ok (.iload 4, 2) := by decide +kernel
theorem dX5_differ_53 : decode cX5_differ 53 = .ok (.baload, 1) := by decide +kernel
theorem dX5_differ_54 : decode cX5_differ 54 = .ok (.ifCond .eq 12, 3) := by decide +kernel
theorem dX5_differ_57 : decode cX5_differ 57 = .ok (.aload_n 0, 1) := by decide +kernel
theorem dX5_differ_58 : decode cX5_differ 58 = .ok (.iload 4, 2) := by decide +kernel
theorem dX5_differ_60 : decode cX5_differ 60 = .ok (.invokevirtual 151, 3) := by decide +kernel
theorem dX5_differ_63 : decode cX5_differ 63 = .ok (.goto 4, 3) := by decide +kernel
theorem dX5_differ_66 : decode cX5_differ 66 = .ok (.iconst 0, 1) := by decide +kernel
theorem dX5_differ_67 : decode cX5_differ 67 = .ok (.iastore, 1) := by decide +kernel
theorem dX5_differ_68 : decode cX5_differ 68 = .ok (.iinc 4 1, 3) := by decide +kernel
theorem dX5_differ_71 : decode cX5_differ 71 = .ok (.goto (-39), 3) := by decide +kernel
theorem dX5_differ_74 : decode cX5_differ 74 = .ok (.aload_n 0, 1) := by decide +kernel
theorem dX5_differ_75 : decode cX5_differ 75 = .ok (.iload_n 2, 1) := by decide +kernel
theorem dX5_differ_76 : decode cX5_differ 76 = .ok (.invokevirtual 148, 3) := by decide +kernel
theorem dX5_differ_79 : decode cX5_differ 79 = .ok (.iconst 0, 1) := by decide +kernel
theorem dX5_differ_80 : decode cX5_differ 80 = .ok (.istore 4, 2) := by decide +kernel
theorem dX5_differ_82 : decode cX5_differ 82 = .ok (.iconst 0, 1) := by decide +kernel
theorem dX5_differ_83 : decode cX5_differ 83 = .ok (.istore 5, 2) := by decide +kernel
theorem dX5_differ_85 : decode cX5_differ 85 = .ok (.iload 5, 2) := by decide +kernel
theorem dX5_differ_87 : decode cX5_differ 87 = .ok (.aload_n 0, 1) := by decide +kernel
theorem dX5_differ_88 : decode cX5_differ 88 = .ok (.getfield 94, 3) := by decide +kernel
theorem dX5_differ_91 : decode cX5_differ 91 = .ok (.if_icmp .ge 54, 3) := by decide +kernel
theorem dX5_differ_94 : decode cX5_differ 94 = .ok (.aload_n 0, 1) := by decide +kernel
theorem dX5_differ_95 : decode cX5_differ 95 = .ok (.getfield 61, 3) := by decide +kernel
theorem dX5_differ_98 : decode cX5_differ 98 = .ok (.iload 5, 2) := by decide +kernel
theorem dX5_differ_100 : decode cX5_differ 100 = .ok (.iaload, 1) := by decide +kernel
theorem dX5_differ_101 : decode cX5_differ 101 = .ok (.aload_n 0, 1) := by decide +kernel
theorem dX5_differ_102 : decode cX5_differ 102 = .ok (.getfield 48, 3) := by decide +kernel
theorem dX5_differ_105 : decode cX5_differ 105 = .ok (.iload 5, 2) := by decide +kernel
theorem dX5_differ_107 : decode cX5_differ 107 = .ok (.baload, 1) := by decide +kernel
theorem dX5_differ_108 : decode cX5_differ 108 = .ok (.ifCond .eq 12, 3) := by decide +kernel
theorem dX5_differ_111 : decode cX5_differ 111 = .ok (.aload_n 0, 1) := by decide +kernel
theorem dX5_differ_112 : decode cX5_differ 112 = .ok (.iload 5, 2) := by decide +kernel
theorem dX5_differ_114 : decode cX5_differ 114 = .ok (.invokevirtual 151, 3) := by decide +kernel
theorem dX5_differ_117 : decode cX5_differ 117 = .ok (.goto 4, 3) := by decide +kernel
theorem dX5_differ_120 : decode cX5_differ 120 = .ok (.iconst 0, 1) := by decide +kernel
theorem dX5_differ_121 : decode cX5_differ 121 = .ok (.if_icmp .ne 6, 3) := by decide +kernel
theorem dX5_differ_124 : decode cX5_differ 124 = .ok (.goto 15, 3) := by decide +kernel
theorem dX5_differ_127 : decode cX5_differ 127 = .ok (.iload 4, 2) := by decide +kernel
theorem dX5_differ_129 : decode cX5_differ 129 = .ok (.iload_n 3, 1) := by decide +kernel
theorem dX5_differ_130 : decode cX5_differ 130 = .ok (.if_icmp .ne 6, 3) := by decide +kernel
theorem dX5_differ_133 : decode cX5_differ 133 = .ok (.iload 5, 2) := by decide +kernel
theorem dX5_differ_135 : decode cX5_differ 135 = .ok (.ireturn, 1) := by decide +kernel
theorem dX5_differ_136 : decode cX5_differ 136 = .ok (.iinc 4 1, 3) := by decide +kernel
theorem dX5_differ_139 : decode cX5_differ 139 = .ok (.iinc 5 1, 3) := by decide +kernel
theorem dX5_differ_142 : decode cX5_differ 142 = .ok (.goto (-57), 3) := by decide +kernel
theorem dX5_differ_145 : decode cX5_differ 145 = .ok (.sipush (-10000), 3) := by decide +kernel
theorem dX5_differ_148 : decode cX5_differ 148 = .ok (.ireturn, 1) := by decide +kernel
set_option maxRecDepth 20000 in
theorem ggX5_close_X5_works : GoodIn wsX5_close wsX5_works := goodIn_r _ [15, 2, 3, 16, 17, 18, 19, 20, 21, 22, 14, 23, 24, 25, 26, 27, 28, 8, 29, 30, 31, 32, 6, 33, 34, 35, 36, 37, 38, 39, 40, 41, 42, 43, 44, 45, 46, 47, 48, 49, 50, 51, 52, 53, 74, 75, 76, 77, 78, 79, 80, 81, 82, 83, 84, 85, 86, 87, 88, 89, 90, 91, 92, 93, 94] (by decide +kernel) (by decide +kernel)
set_option maxRecDepth 20000 in
theorem gX5_close_X5_works : GoodIn wsX5_close (wsV RX5 148 RX5 yX5_works wsX5_works) := goodIn_app (goodIn_of _ (by decide +kernel)) ggX5_close_X5_works
set_option maxRecDepth 20000 in
theorem ggX5_close_X5_place : GoodIn wsX5_close wsX5_place := goodIn_r _ [57, 2, 58, 59, 60, 14, 61, 3, 17, 19, 74, 75, 76, 77, 78, 79, 80, 81, 82, 83, 84, 85, 86, 87, 88, 89, 90, 91, 92, 93, 94] (by decide +kernel) (by decide +kernel)
set_option maxRecDepth 20000 in
theorem gX5_close_X5_place : GoodIn wsX5_close (wsV RX5 151 RX5 yX5_place wsX5_place) := goodIn_app (goodIn_of _ (by decide +kernel)) ggX5_close_X5_place
set_option maxRecDepth 20000 in
theorem ggX5_close_X5_longest : GoodIn wsX5_close wsX5_longest := goodIn_r _ [65, 1, 8, 28, 6, 24, 25, 26, 14, 27, 20, 21, 22, 23, 29, 30, 31, 32, 66, 67, 68, 69, 74, 75, 76, 77, 78, 79, 80, 81, 82, 83, 84, 85, 86, 87, 88, 89, 90, 91, 92, 93, 94] (by decide +kernel) (by decide +kernel)
set_option maxRecDepth 20000 in
theorem gX5_close_X5_longest : GoodIn wsX5_close (wsV RX5 157 RX5 yX5_longest wsX5_longest) := goodIn_app (goodIn_of _ (by decide +kernel)) ggX5_close_X5_longest
set_option maxRecDepth 20000 in
theorem ggX5_close_X5_isGreater : GoodIn wsX5_close wsX5_isGreater := goodIn_r _ [73, 7, 6, 74, 75, 76, 77, 78, 79, 80, 81, 82, 83, 84, 85, 86, 87, 88, 89, 90, 91, 92, 93, 94] (by decide +kernel) (by decide +kernel)
set_option maxRecDepth 20000 in
theorem gX5_close_X5_isGreater : GoodIn wsX5_close (wsV RX5 161 RX5 yX5_isGreater wsX5_isGreater) := goodIn_app (goodIn_of _ (by decide +kernel)) ggX5_close_X5_isGreater
theorem dX5_close_0 : decode cX5_close 0 = .ok (.aload_n 0, 1) := by decide +kernel
theorem dX5_close_1 : decode cX5_close 1 = .ok (.aload_n 0, 1) := by decide +kernel
theorem dX5_close_2 : decode cX5_close 2 = .ok (.getfield 101, 3) := by decide +kernel
theorem dX5_close_5 : decode cX5_close 5 = .ok (.invokevirtual 148, 3) := by decide +kernel
theorem dX5_close_8 : decode cX5_close 8 = .ok (.iconst 0, 1) := by decide +kernel
theorem dX5_close_9 : decode cX5_close 9 = .ok (.istore_n 1, 1) := by decide +kernel
theorem dX5_close_10 : decode cX5_close 10 = .ok (.iconst 0, 1) := by decide +kernel
theorem dX5_close_11 : decode cX5_close 11 = .ok (.istore_n 2, 1) := by decide +kernel
theorem dX5_close_12 : decode cX5_close 12 = .ok (.iload_n 2, 1) := by decide +kernel
theorem dX5_close_13 : decode cX5_close 13 = .ok (.aload_n 0, 1) := by decide +kernel
theorem dX5_close_14 : decode cX5_close 14 = .ok (.getfield 94, 3) := by decide +kernel
theorem dX5_close_17 : decode cX5_close 17 = .ok (.if_icmp .ge 44, 3) := by decide +kernel
theorem dX5_close_20 : decode cX5_close 20 = .ok (.aload_n 0, 1) := by decide +kernel
theorem dX5_close_21 : decode cX5_close 21 = .ok (.getfield 48, 3) := by decide +kernel
theorem dX5_close_24 : decode cX5_close 24 = .ok (.iload_n 2, 1) := by decide +kernel
theorem dX5_close_25 : decode cX5_close 25 = .ok (.baload, 1) := by decide +kernel
theorem dX5_close_26 : decode cX5_close 26 = .ok (.ifCond .ne 6, 3) := by decide +kernel
theorem dX5_close_29 : decode cX5_close 29 = .ok (.goto 26, 3) := by decide +kernel
theorem dX5_close_32 : decode cX5_close 32 = .ok (.aload_n 0, 1) := by decide +kernel
theorem dX5_close_33 : decode cX5_close 33 = .ok (.getfield 27, 3) := by decide +kernel
theorem dX5_close_36 : decode cX5_close 36 = .ok (.iload_n 2, 1) := by decide +kernel
theorem dX5_close_37 : decode cX5_close 37 = .ok (.dup2, 1) := by decide +kernel
theorem dX5_close_38 : decode cX5_close 38 = .ok (.iaload, 1) := by decide +kernel
theorem dX5_close_39 : decode cX5_close 39 = .ok (.getstatic 164, 3) := by decide +kernel
theorem dX5_close_42 : decode cX5_close 42 = .ok (.aload_n 0, 1) := by decide +kernel
theorem dX5_close_43 : decode cX5_close 43 = .ok (.iload_n 2, 1) := by decide +kernel
theorem dX5_close_44 : decode cX5_close 44 = .ok (.invokevirtual 151, 3) := by decide +kernel
theorem dX5_close_47 : decode cX5_close 47 = .ok (.iconst 1, 1) := by decide +kernel
theorem dX5_close_48 : decode cX5_close 48 = .ok (.isub, 1) := by decide +kernel
theorem dX5_close_49 : decode cX5_close 49 = .ok (.iaload, 1) := by decide +kernel
theorem dX5_close_50 : decode cX5_close 50 = .ok (.iadd, 1) := by decide +kernel
theorem dX5_close_51 : decode cX5_close 51 = .ok (.iastore, 1) := by decide +kernel
theorem dX5_close_52 : decode cX5_close 52 = .ok (.iinc 1 1, 3) := by decide +kernel
theorem dX5_close_55 : decode cX5_close 55 = .ok (.iinc 2 1, 3) := by decide +kernel
theorem dX5_close_58 : decode cX5_close 58 = .ok (.goto (-46), 3) := by decide +kernel
theorem dX5_close_61 : decode cX5_close 61 = .ok (.iload_n 1, 1) := by decide +kernel
theorem dX5_close_62 : decode cX5_close 62 = .ok (.ifCond .ne 7, 3) := by decide +kernel
theorem dX5_close_65 : decode cX5_close 65 = .ok (.sipush (-10000), 3) := by decide +kernel
theorem dX5_close_68 : decode cX5_close 68 = .ok (.ireturn, 1) := by decide +kernel
theorem dX5_close_69 : decode cX5_close 69 = .ok (.aload_n 0, 1) := by decide +kernel
theorem dX5_close_70 : decode cX5_close 70 = .ok (.invokevirtual 157, 3) := by decide +kernel
theorem dX5_close_73 : decode cX5_close 73 = .ok (.istore_n 2, 1) := by decide +kernel
theorem dX5_close_74 : decode cX5_close 74 = .ok (.aload_n 0, 1) := by decide +kernel
theorem dX5_close_75 : decode cX5_close 75 = .ok (.iload_n 2, 1) := by decide +kernel
theorem dX5_close_76 : decode cX5_close 76 = .ok (.invokevirtual 161, 3) := by decide +kernel
theorem dX5_close_79 : decode cX5_close 79 = .ok (.ifCond .eq 28, 3) := by decide +kernel
theorem dX5_close_82 : decode cX5_close 82 = .ok (.aload_n 0, 1) := by decide +kernel
theorem dX5_close_83 : decode cX5_close 83 = .ok (.aload_n 0, 1) := by decide +kernel
theorem dX5_close_84 : decode cX5_close 84 = .ok (.getfield 39, 3) := by decide +kernel
theorem dX5_close_87 : decode cX5_close 87 = .ok (.iconst 5, 1) := by decide +kernel
theorem dX5_close_88 : decode cX5_close 88 = .ok (.iload_n 2, 1) := by decide +kernel
theorem dX5_close_89 : decode cX5_close 89 = .ok (.imul, 1) := by decide +kernel
theorem dX5_close_90 : decode cX5_close 90 = .ok (.iaload, 1) := by decide +kernel
theorem dX5_close_91 : decode cX5_close 91 = .ok (.putfield 42, 3) := by decide +kernel
theorem dX5_close_94 : decode cX5_close 94 = .ok (.aload_n 0, 1) := by decide +kernel
theorem dX5_close_95 : decode cX5_close 95 = .ok (.aload_n 0, 1) := by decide +kernel
theorem dX5_close_96 : decode cX5_close 96 = .ok (.getfield 36, 3) := by decide +kernel
theorem dX5_close_99 : decode cX5_close 99 = .ok (.iload_n 2, 1) := by decide +kernel
theorem dX5_close_100 : decode cX5_close 100 = .ok (.iaload, 1) := by decide +kernel
theorem dX5_close_101 : decode cX5_close 101 = .ok (.bipush 32, 2) := by decide +kernel
theorem dX5_close_103 : decode cX5_close 103 = .ok (.irem, 1) := by decide +kernel
theorem dX5_close_104 : decode cX5_close 104 = .ok (.putfield 45, 3) := by decide +kernel
theorem dX5_close_107 : decode cX5_close 107 = .ok (.aload_n 0, 1) := by decide +kernel
theorem dX5_close_108 : decode cX5_close 108 = .ok (.iconst 0, 1) := by decide +kernel
theorem dX5_close_109 : decode cX5_close 109 = .ok (.putfield 101, 3) := by decide +kernel
theorem dX5_close_112 : decode cX5_close 112 = .ok (.aload_n 0, 1) := by decide +kernel
theorem dX5_close_113 : decode cX5_close 113 = .ok (.dup, 1) := by decide +kernel
theorem dX5_close_114 : decode cX5_close 114 = .ok (.getfield 167, 3) := by decide +kernel
theorem dX5_close_117 : decode cX5_close 117 = .ok (.iconst 1, 1) := by decide +kernel
theorem dX5_close_118 : decode cX5_close 118 = .ok (.iadd, 1) := by decide +kernel
theorem dX5_close_119 : decode cX5_close 119 = .ok (.putfield 167, 3) := by decide +kernel
theorem dX5_close_122 : decode cX5_close 122 = .ok (.iload_n 1, 1) := by decide +kernel
theorem dX5_close_123 : decode cX5_close 123 = .ok (.ireturn, 1) := by decide +kernel
set_option maxRecDepth 20000 in
theorem ggX5_count_X5_lies : GoodIn wsX5_count wsX5_lies := goodIn_r _ [12] (by decide +kernel) (by decide +kernel)
set_option maxRecDepth 20000 in
theorem gX5_count_X5_lies : GoodIn wsX5_count (va_wsS RX5 75 yX5_lies wsX5_lies) := goodIn_app (goodIn_of _ (by decide +kernel)) ggX5_count_X5_lies
set_option maxRecDepth 20000 in
theorem ggX5_count_X5_works : GoodIn wsX5_count wsX5_works := goodIn_r _ [16, 3, 4, 17, 5, 18, 19, 20, 21, 22, 11, 23, 24, 25, 26, 27, 28, 29, 30, 31, 32, 33, 34, 35, 36, 37, 38, 39, 40, 41, 42, 7, 43, 44, 45, 46, 47, 48, 49, 50, 1, 51, 52, 53, 54, 55, 56, 57, 58, 59, 60, 61, 62, 63, 64, 65, 66, 67, 68, 69, 70, 71, 72, 73, 74] (by decide +kernel) (by decide +kernel)
set_option maxRecDepth 20000 in
theorem gX5_count_X5_works : GoodIn wsX5_count (wsV RX5 148 RX5 yX5_works wsX5_works) := goodIn_app (goodIn_of _ (by decide +kernel)) ggX5_count_X5_works
theorem dX5_count_0 : decode cX5_count 0 = .ok (.iload_n 1, 1) := by decide +kernel
theorem dX5_count_1 : decode cX5_count 1 = .ok (.bipush 10, 2) := by decide +kernel
theorem dX5_count_3 : decode cX5_count 3 = .ok (.isub, 1) := by decide +kernel
theorem dX5_count_4 : decode cX5_count 4 = .ok (.iconst 0, 1) := by decide +kernel
theorem dX5_count_5 : decode cX5_count 5 = .ok (.iconst 4, 1) := by decide +kernel
theorem dX5_count_6 : decode cX5_count 6 = .ok (.invokestatic 75, 3) := by decide +kernel
theorem dX5_count_9 : decode cX5_count 9 = .ok (.ifCond .eq 13, 3) := by decide +kernel
theorem dX5_count_12 : decode cX5_count 12 = .ok (.aload_n 0, 1) := by decide +kernel
theorem dX5_count_13 : decode cX5_count 13 = .ok (.getfield 30, 3) := by decide +kernel
theorem dX5_count_16 : decode cX5_count 16 = .ok (.iload_n 1, 1) := by decide +kernel
theorem dX5_count_17 : decode cX5_count 17 = .ok (.bipush 10, 2) := by decide +kernel
theorem dX5_count_19 : decode cX5_count 19 = .ok (.isub, 1) := by decide +kernel
theorem dX5_count_20 : decode cX5_count 20 = .ok (.iaload, 1) := by decide +kernel
theorem dX5_count_21 : decode cX5_count 21 = .ok (.ireturn, 1) := by decide +kernel
theorem dX5_count_22 : decode cX5_count 22 = .ok (.iconst 0, 1) := by decide +kernel
theorem dX5_count_23 : decode cX5_count 23 = .ok (.istore_n 2, 1) := by decide +kernel
theorem dX5_count_24 : decode cX5_count 24 = .ok (.iconst 0, 1) := by decide +kernel
theorem dX5_count_25 : decode cX5_count 25 = .ok (.istore_n 3, 1) := by decide +kernel
theorem dX5_count_26 : decode cX5_count 26 = .ok (.aload_n 0, 1) := by decide +kernel
theorem dX5_count_27 : decode cX5_count 27 = .ok (.aload_n 0, 1) := by decide +kernel
theorem dX5_count_28 : decode cX5_count 28 = .ok (.getfield 101, 3) := by decide +kernel
theorem dX5_count_31 : decode cX5_count 31 = .ok (.invokevirtual 148, 3) := by decide +kernel
theorem dX5_count_34 : decode cX5_count 34 = .ok (.iconst 0, 1) := by decide +kernel
theorem dX5_count_35 : decode cX5_count 35 = .ok (.istore 4, 2) := by decide +kernel
theorem dX5_count_37 : decode cX5_count 37 = .ok (.iload 4, 2) := by decide +kernel
theorem dX5_count_39 : decode cX5_count 39 = .ok (.aload_n 0, 1) := by decide +kernel
theorem dX5_count_40 : decode cX5_count 40 = .ok (.getfield 94, 3) := by decide +kernel
theorem dX5_count_43 : decode cX5_count 43 = .ok (.if_icmp .ge 45, 3) := by decide +kernel
theorem dX5_count_46 : decode cX5_count 46 = .ok (.iload_n 2, 1) := by decide +kernel
theorem dX5_count_47 : decode cX5_count 47 = .ok (.aload_n 0, 1) := by decide +kernel
theorem dX5_count_48 : decode cX5_count 48 = .ok (.getfield 48, 3) := by decide +kernel
theorem dX5_count_51 : decode cX5_count 51 = .ok (.iload 4, 2) := by decide +kernel
theorem dX5_count_53 : decode cX5_count 53 = .ok (.baload, 1) := by decide +kernel
theorem dX5_count_54 : decode cX5_count 54 = .ok (.ifCond .eq 7, 3) := by decide +kernel
theorem dX5_count_57 : decode cX5_count 57 = .ok (.iconst 1, 1) := by decide +kernel
theorem dX5_count_58 : decode cX5_count 58 = .ok (.goto 4, 3) := by decide +kernel
theorem dX5_count_61 : decode cX5_count 61 = .ok (.iconst 0, 1) := by decide +kernel
theorem dX5_count_62 : decode cX5_count 62 = .ok (.iadd, 1) := by decide +kernel
theorem dX5_count_63 : decode cX5_count 63 = .ok (.istore_n 2, 1) := by decide +kernel
theorem dX5_count_64 : decode cX5_count 64 = .ok (.iload_n 3, 1) := by decide +kernel
theorem dX5_count_65 : decode cX5_count 65 = .ok (.aload_n 0, 1) := by decide +kernel
theorem dX5_count_66 : decode cX5_count 66 = .ok (.getfield 52, 3) := by decide +kernel
theorem dX5_count_69 : decode cX5_count 69 = .ok (.iload 4, 2) := by decide +kernel
theorem dX5_count_71 : decode cX5_count 71 = .ok (.baload, 1) := by decide +kernel
theorem dX5_count_72 : decode cX5_count 72 = .ok (.ifCond .eq 7, 3) := by decide +kernel
theorem dX5_count_75 : decode cX5_count 75 = .ok (.iconst 1, 1) := by decide +kernel
theorem dX5_count_76 : decode cX5_count 76 = .ok (.goto 4, 3) := by decide +kernel
theorem dX5_count_79 : decode cX5_count 79 = .ok (.iconst 0, 1) := by decide +kernel
theorem dX5_count_80 : decode cX5_count 80 = .ok (.iadd, 1) := by decide +kernel
theorem dX5_count_81 : decode cX5_count 81 = .ok (.istore_n 3, 1) := by decide +kernel
theorem dX5_count_82 : decode cX5_count 82 = .ok (.iinc 4 1, 3) := by decide +kernel
theorem dX5_count_85 : decode cX5_count 85 = .ok (.goto (-48), 3) := by decide +kernel
theorem dX5_count_88 : decode cX5_count 88 = .ok (.iload_n 1, 1) := by decide +kernel
theorem dX5_count_89 : decode cX5_count 89 = .ok (.tableswitch 72 0 6 #[43, 48, 53, 58, 63, 65, 67], 43) := by decide +kernel
theorem dX5_count_132 : decode cX5_count 132 = .ok (.aload_n 0, 1) := by decide +kernel
theorem dX5_count_133 : decode cX5_count 133 = .ok (.getfield 94, 3) := by decide +kernel
theorem dX5_count_136 : decode cX5_count 136 = .ok (.ireturn, 1) := by decide +kernel
theorem dX5_count_137 : decode cX5_count 137 = .ok (.aload_n 0, 1) := by decide +kernel
theorem dX5_count_138 : decode cX5_count 138 = .ok (.getfield 101, 3) := by decide +kernel
theorem dX5_count_141 : decode cX5_count 141 = .ok (.ireturn, 1) := by decide +kernel
theorem dX5_count_142 : decode cX5_count 142 = .ok (.aload_n 0, 1) := by decide +kernel
theorem dX5_count_143 : decode cX5_count 143 = .ok (.getfield 167, 3) := by decide +kernel
theorem dX5_count_146 : decode cX5_count 146 = .ok (.ireturn, 1) := by decide +kernel
theorem dX5_count_147 : decode cX5_count 147 = .ok (.aload_n 0, 1) := by decide +kernel
theorem dX5_count_148 : decode cX5_count 148 = .ok (.getfield 20, 3) := by decide +kernel
theorem dX5_count_151 : decode cX5_count 151 = .ok (.ireturn, 1) := by decide +kernel
theorem dX5_count_152 : decode cX5_count 152 = .ok (.iload_n 2, 1) := by decide +kernel
theorem dX5_count_153 : decode cX5_count 153 = .ok (.ireturn, 1) := by decide +kernel
theorem dX5_count_154 : decode cX5_count 154 = .ok (.iload_n 3, 1) := by decide +kernel
theorem dX5_count_155 : decode cX5_count 155 = .ok (.ireturn, 1) := by decide +kernel
theorem dX5_count_156 : decode cX5_count 156 = .ok (.aload_n 0, 1) := by decide +kernel
theorem dX5_count_157 : decode cX5_count 157 = .ok (.getfield 68, 3) := by decide +kernel
theorem dX5_count_160 : decode cX5_count 160 = .ok (.ireturn, 1) := by decide +kernel
theorem dX5_count_161 : decode cX5_count 161 = .ok (.sipush (-10000), 3) := by decide +kernel
theorem dX5_count_164 : decode cX5_count 164 = .ok (.ireturn, 1) := by decide +kernel
theorem dJ9_abs_0f7a4_0 : decode cJ9_abs_0f7a4 0 = .ok (.iload_n 0, 1) := by decide +kernel
theorem dJ9_abs_0f7a4_1 : decode cJ9_abs_0f7a4 1 = .ok (.ifCond .ge 8, 3) := by decide +kernel
theorem dJ9_abs_0f7a4_4 : decode cJ9_abs_0f7a4 4 = .ok (.iload_n 0, 1) := by decide +kernel
theorem dJ9_abs_0f7a4_5 : decode cJ9_abs_0f7a4 5 = .ok (.ineg, 1) := by decide +kernel
theorem dJ9_abs_0f7a4_6 : decode cJ9_abs_0f7a4 6 = .ok (.goto 4, 3) := by decide +kernel
theorem dJ9_abs_0f7a4_9 : decode cJ9_abs_0f7a4 9 = .ok (.iload_n 0, 1) := by decide +kernel
theorem dJ9_abs_0f7a4_10 : decode cJ9_abs_0f7a4 10 = .ok (.ireturn, 1) := by decide +kernel
theorem dJ9_max_7cf53_0 : decode cJ9_max_7cf53 0 = .ok (.iload_n 0, 1) := by decide +kernel
theorem dJ9_max_7cf53_1 : decode cJ9_max_7cf53 1 = .ok (.iload_n 1, 1) := by decide +kernel
theorem dJ9_max_7cf53_2 : decode cJ9_max_7cf53 2 = .ok (.if_icmp .lt 7, 3) := by decide +kernel
theorem dJ9_max_7cf53_5 : decode cJ9_max_7cf53 5 = .ok (.iload_n 0, 1) := by decide +kernel
theorem dJ9_max_7cf53_6 : decode cJ9_max_7cf53 6 = .ok (.goto 4, 3) := by decide +kernel
theorem dJ9_max_7cf53_9 : decode cJ9_max_7cf53 9 = .ok (.iload_n 1, 1) := by decide +kernel
theorem dJ9_max_7cf53_10 : decode cJ9_max_7cf53 10 = .ok (.ireturn, 1) := by decide +kernel
theorem dJ9_min_7cf53_0 : decode cJ9_min_7cf53 0 = .ok (.iload_n 0, 1) := by decide +kernel
theorem dJ9_min_7cf53_1 : decode cJ9_min_7cf53 1 = .ok (.iload_n 1, 1) := by decide +kernel
theorem dJ9_min_7cf53_2 : decode cJ9_min_7cf53 2 = .ok (.if_icmp .gt 7, 3) := by decide +kernel
theorem dJ9_min_7cf53_5 : decode cJ9_min_7cf53 5 = .ok (.iload_n 0, 1) := by decide +kernel
theorem dJ9_min_7cf53_6 : decode cJ9_min_7cf53 6 = .ok (.goto 4, 3) := by decide +kernel
theorem dJ9_min_7cf53_9 : decode cJ9_min_7cf53 9 = .ok (.iload_n 1, 1) := by decide +kernel
theorem dJ9_min_7cf53_10 : decode cJ9_min_7cf53 10 = .ok (.ireturn, 1) := by decide +kernel
theorem dJ7_fill_53178_0 : decode cJ7_fill_53178 0 = .ok (.iconst 0, 1) := by decide +kernel
theorem dJ7_fill_53178_1 : decode cJ7_fill_53178 1 = .ok (.istore_n 2, 1) := by decide +kernel
theorem dJ7_fill_53178_2 : decode cJ7_fill_53178 2 = .ok (.aload_n 0, 1) := by decide +kernel
theorem dJ7_fill_53178_3 : decode cJ7_fill_53178 3 = .ok (.arraylength, 1) := by decide +kernel
theorem dJ7_fill_53178_4 : decode cJ7_fill_53178 4 = .ok (.istore_n 3, 1) := by decide +kernel
theorem dJ7_fill_53178_5 : decode cJ7_fill_53178 5 = .ok (.iload_n 2, 1) := by decide +kernel
theorem dJ7_fill_53178_6 : decode cJ7_fill_53178 6 = .ok (.iload_n 3, 1) := by decide +kernel
theorem dJ7_fill_53178_7 : decode cJ7_fill_53178 7 = .ok (.if_icmp .ge 13, 3) := by decide +kernel
theorem dJ7_fill_53178_10 : decode cJ7_fill_53178 10 = .ok (.aload_n 0, 1) := by decide +kernel
theorem dJ7_fill_53178_11 : decode cJ7_fill_53178 11 = .ok (.iload_n 2, 1) := by decide +kernel
theorem dJ7_fill_53178_12 : decode cJ7_fill_53178 12 = .ok (.iload_n 1, 1) := by decide +kernel
theorem dJ7_fill_53178_13 : decode cJ7_fill_53178 13 = .ok (.iastore, 1) := by decide +kernel
theorem dJ7_fill_53178_14 : decode cJ7_fill_53178 14 = .ok (.iinc 2 1, 3) := by decide +kernel
theorem dJ7_fill_53178_17 : decode cJ7_fill_53178 17 = .ok (.goto (-12), 3) := by decide +kernel
theorem dJ7_fill_53178_20 : decode cJ7_fill_53178 20 = .ok (.return_, 1) := by decide +kernel
end
section
theorem zz_probe : True := trivial
end
