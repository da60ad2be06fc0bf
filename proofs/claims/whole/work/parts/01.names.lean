-- ===== PART A: goes FIRST, ahead of the names: the tables' words, and 'selects' of the private methods out of them =====
/-- a private method of a class that the tables say can be made, by its rows of tables_1 -/
def lw_okq (q : MethodName × Nat) : Prop := (q.1.cls ≠ "java/lang/invoke/MethodHandle" ∧ q.1.cls ≠ "java/lang/invoke/VarHandle") ∧ Cond.instantiable q.1.cls q.2 ∈ tables_1 ∧ Cond.privateMethod q.1 ∈ tables_1 ∧ Cond.instanceMethod q.1 ∈ tables_1
theorem lw_p0 : lw_okq (⟨"ApologyBricks$Told", "reset", "()V"⟩, 11) := ⟨⟨by decide +kernel, by decide +kernel⟩, List.mem_of_getElem? (i := 50) (by decide +kernel), List.mem_of_getElem? (i := 56) (by decide +kernel), List.mem_of_getElem? (i := 57) (by decide +kernel)⟩
theorem lw_p1 : lw_okq (⟨"ApologyBricks$Reader", "add", "(I)V"⟩, 6) := ⟨⟨by decide +kernel, by decide +kernel⟩, List.mem_of_getElem? (i := 23) (by decide +kernel), List.mem_of_getElem? (i := 267) (by decide +kernel), List.mem_of_getElem? (i := 268) (by decide +kernel)⟩
theorem lw_p2 : lw_okq (⟨"ApologyBricks$Reader", "read", "(LApologyBricks$Told;)I"⟩, 6) := ⟨⟨by decide +kernel, by decide +kernel⟩, List.mem_of_getElem? (i := 23) (by decide +kernel), List.mem_of_getElem? (i := 279) (by decide +kernel), List.mem_of_getElem? (i := 280) (by decide +kernel)⟩
theorem lw_p3 : lw_okq (⟨"ApologyBricks$Reader", "step", "()V"⟩, 6) := ⟨⟨by decide +kernel, by decide +kernel⟩, List.mem_of_getElem? (i := 23) (by decide +kernel), List.mem_of_getElem? (i := 284) (by decide +kernel), List.mem_of_getElem? (i := 285) (by decide +kernel)⟩
theorem lw_p4 : lw_okq (⟨"ApologyBricks$Reader", "endOfRun", "(ICC)I"⟩, 6) := ⟨⟨by decide +kernel, by decide +kernel⟩, List.mem_of_getElem? (i := 23) (by decide +kernel), List.mem_of_getElem? (i := 288) (by decide +kernel), List.mem_of_getElem? (i := 289) (by decide +kernel)⟩
theorem lw_p5 : lw_okq (⟨"ApologyBricks$Reader", "takeLetters", "()V"⟩, 6) := ⟨⟨by decide +kernel, by decide +kernel⟩, List.mem_of_getElem? (i := 23) (by decide +kernel), List.mem_of_getElem? (i := 292) (by decide +kernel), List.mem_of_getElem? (i := 293) (by decide +kernel)⟩
theorem lw_p6 : lw_okq (⟨"ApologyBricks$Reader", "takeNumber", "()V"⟩, 6) := ⟨⟨by decide +kernel, by decide +kernel⟩, List.mem_of_getElem? (i := 23) (by decide +kernel), List.mem_of_getElem? (i := 296) (by decide +kernel), List.mem_of_getElem? (i := 297) (by decide +kernel)⟩
theorem lw_p7 : lw_okq (⟨"ApologyBricks$Reader", "item", "(LApologyBricks$Told;I)Z"⟩, 6) := ⟨⟨by decide +kernel, by decide +kernel⟩, List.mem_of_getElem? (i := 23) (by decide +kernel), List.mem_of_getElem? (i := 300) (by decide +kernel), List.mem_of_getElem? (i := 301) (by decide +kernel)⟩
theorem lw_p8 : lw_okq (⟨"ApologyBricks$Reader", "wallItem", "(LApologyBricks$Told;)Z"⟩, 6) := ⟨⟨by decide +kernel, by decide +kernel⟩, List.mem_of_getElem? (i := 23) (by decide +kernel), List.mem_of_getElem? (i := 304) (by decide +kernel), List.mem_of_getElem? (i := 305) (by decide +kernel)⟩
theorem lw_p9 : lw_okq (⟨"ApologyBricks$Reader", "number", "(II)Z"⟩, 6) := ⟨⟨by decide +kernel, by decide +kernel⟩, List.mem_of_getElem? (i := 23) (by decide +kernel), List.mem_of_getElem? (i := 308) (by decide +kernel), List.mem_of_getElem? (i := 309) (by decide +kernel)⟩
theorem lw_p10 : lw_okq (⟨"ApologyBricks$Reader", "kinItem", "(LApologyBricks$Told;)Z"⟩, 6) := ⟨⟨by decide +kernel, by decide +kernel⟩, List.mem_of_getElem? (i := 23) (by decide +kernel), List.mem_of_getElem? (i := 312) (by decide +kernel), List.mem_of_getElem? (i := 313) (by decide +kernel)⟩
theorem lw_p11 : lw_okq (⟨"ApologyBricks$Told", "join", "(II)V"⟩, 11) := ⟨⟨by decide +kernel, by decide +kernel⟩, List.mem_of_getElem? (i := 50) (by decide +kernel), List.mem_of_getElem? (i := 316) (by decide +kernel), List.mem_of_getElem? (i := 317) (by decide +kernel)⟩
theorem lw_p12 : lw_okq (⟨"ApologyBricks$Reader", "brickItem", "(LApologyBricks$Told;)Z"⟩, 6) := ⟨⟨by decide +kernel, by decide +kernel⟩, List.mem_of_getElem? (i := 23) (by decide +kernel), List.mem_of_getElem? (i := 320) (by decide +kernel), List.mem_of_getElem? (i := 321) (by decide +kernel)⟩
theorem lw_p13 : lw_okq (⟨"ApologyBricks$Reader", "judgeItem", "(LApologyBricks$Told;)Z"⟩, 6) := ⟨⟨by decide +kernel, by decide +kernel⟩, List.mem_of_getElem? (i := 23) (by decide +kernel), List.mem_of_getElem? (i := 324) (by decide +kernel), List.mem_of_getElem? (i := 325) (by decide +kernel)⟩
theorem lw_p14 : lw_okq (⟨"ApologyBricks$Reader", "sortItem", "(LApologyBricks$Told;)Z"⟩, 6) := ⟨⟨by decide +kernel, by decide +kernel⟩, List.mem_of_getElem? (i := 23) (by decide +kernel), List.mem_of_getElem? (i := 328) (by decide +kernel), List.mem_of_getElem? (i := 329) (by decide +kernel)⟩
theorem lw_p15 : lw_okq (⟨"ApologyBricks$Reader", "stop", "()Z"⟩, 6) := ⟨⟨by decide +kernel, by decide +kernel⟩, List.mem_of_getElem? (i := 23) (by decide +kernel), List.mem_of_getElem? (i := 332) (by decide +kernel), List.mem_of_getElem? (i := 333) (by decide +kernel)⟩
def lw_privs_1 : List (MethodName × Nat) := [(⟨"ApologyBricks$Told", "reset", "()V"⟩, 11), (⟨"ApologyBricks$Reader", "add", "(I)V"⟩, 6), (⟨"ApologyBricks$Reader", "read", "(LApologyBricks$Told;)I"⟩, 6), (⟨"ApologyBricks$Reader", "step", "()V"⟩, 6), (⟨"ApologyBricks$Reader", "endOfRun", "(ICC)I"⟩, 6), (⟨"ApologyBricks$Reader", "takeLetters", "()V"⟩, 6), (⟨"ApologyBricks$Reader", "takeNumber", "()V"⟩, 6), (⟨"ApologyBricks$Reader", "item", "(LApologyBricks$Told;I)Z"⟩, 6), (⟨"ApologyBricks$Reader", "wallItem", "(LApologyBricks$Told;)Z"⟩, 6), (⟨"ApologyBricks$Reader", "number", "(II)Z"⟩, 6), (⟨"ApologyBricks$Reader", "kinItem", "(LApologyBricks$Told;)Z"⟩, 6), (⟨"ApologyBricks$Told", "join", "(II)V"⟩, 11), (⟨"ApologyBricks$Reader", "brickItem", "(LApologyBricks$Told;)Z"⟩, 6), (⟨"ApologyBricks$Reader", "judgeItem", "(LApologyBricks$Told;)Z"⟩, 6), (⟨"ApologyBricks$Reader", "sortItem", "(LApologyBricks$Told;)Z"⟩, 6), (⟨"ApologyBricks$Reader", "stop", "()Z"⟩, 6)]
theorem lw_r1 : ∀ q ∈ lw_privs_1, lw_okq q := List.forall_mem_cons.mpr ⟨lw_p0, List.forall_mem_cons.mpr ⟨lw_p1, List.forall_mem_cons.mpr ⟨lw_p2, List.forall_mem_cons.mpr ⟨lw_p3, List.forall_mem_cons.mpr ⟨lw_p4, List.forall_mem_cons.mpr ⟨lw_p5, List.forall_mem_cons.mpr ⟨lw_p6, List.forall_mem_cons.mpr ⟨lw_p7, List.forall_mem_cons.mpr ⟨lw_p8, List.forall_mem_cons.mpr ⟨lw_p9, List.forall_mem_cons.mpr ⟨lw_p10, List.forall_mem_cons.mpr ⟨lw_p11, List.forall_mem_cons.mpr ⟨lw_p12, List.forall_mem_cons.mpr ⟨lw_p13, List.forall_mem_cons.mpr ⟨lw_p14, List.forall_mem_cons.mpr ⟨lw_p15, fun _ h => absurd h List.not_mem_nil⟩⟩⟩⟩⟩⟩⟩⟩⟩⟩⟩⟩⟩⟩⟩⟩
theorem lw_p16 : lw_okq (⟨"ApologyBricks$Story", "begin", "(LApologyBricks$Told;)V"⟩, 3) := ⟨⟨by decide +kernel, by decide +kernel⟩, List.mem_of_getElem? (i := 127) (by decide +kernel), List.mem_of_getElem? (i := 336) (by decide +kernel), List.mem_of_getElem? (i := 337) (by decide +kernel)⟩
theorem lw_p17 : lw_okq (⟨"ApologyBricks$Scene", "begin", "(LApologyBricks$Told;)V"⟩, 5) := ⟨⟨by decide +kernel, by decide +kernel⟩, List.mem_of_getElem? (i := 133) (by decide +kernel), List.mem_of_getElem? (i := 340) (by decide +kernel), List.mem_of_getElem? (i := 341) (by decide +kernel)⟩
theorem lw_p18 : lw_okq (⟨"ApologyBricks", "noBrick", "(I)Z"⟩, 11) := ⟨⟨by decide +kernel, by decide +kernel⟩, List.mem_of_getElem? (i := 15) (by decide +kernel), List.mem_of_getElem? (i := 352) (by decide +kernel), List.mem_of_getElem? (i := 353) (by decide +kernel)⟩
theorem lw_p19 : lw_okq (⟨"ApologyBricks", "fits", "(I)I"⟩, 11) := ⟨⟨by decide +kernel, by decide +kernel⟩, List.mem_of_getElem? (i := 15) (by decide +kernel), List.mem_of_getElem? (i := 356) (by decide +kernel), List.mem_of_getElem? (i := 357) (by decide +kernel)⟩
theorem lw_p20 : lw_okq (⟨"ApologyBricks$Scene", "height", "(I)I"⟩, 5) := ⟨⟨by decide +kernel, by decide +kernel⟩, List.mem_of_getElem? (i := 133) (by decide +kernel), List.mem_of_getElem? (i := 360) (by decide +kernel), List.mem_of_getElem? (i := 361) (by decide +kernel)⟩
theorem lw_p21 : lw_okq (⟨"ApologyBricks", "noColumn", "(I)Z"⟩, 11) := ⟨⟨by decide +kernel, by decide +kernel⟩, List.mem_of_getElem? (i := 15) (by decide +kernel), List.mem_of_getElem? (i := 371) (by decide +kernel), List.mem_of_getElem? (i := 372) (by decide +kernel)⟩
theorem lw_p22 : lw_okq (⟨"ApologyBricks$Scene", "brickAt", "(II)I"⟩, 5) := ⟨⟨by decide +kernel, by decide +kernel⟩, List.mem_of_getElem? (i := 133) (by decide +kernel), List.mem_of_getElem? (i := 375) (by decide +kernel), List.mem_of_getElem? (i := 376) (by decide +kernel)⟩
theorem lw_p23 : lw_okq (⟨"ApologyBricks", "noJudge", "(I)Z"⟩, 11) := ⟨⟨by decide +kernel, by decide +kernel⟩, List.mem_of_getElem? (i := 15) (by decide +kernel), List.mem_of_getElem? (i := 390) (by decide +kernel), List.mem_of_getElem? (i := 391) (by decide +kernel)⟩
theorem lw_p24 : lw_okq (⟨"ApologyBricks", "wouldHold", "(I)I"⟩, 11) := ⟨⟨by decide +kernel, by decide +kernel⟩, List.mem_of_getElem? (i := 15) (by decide +kernel), List.mem_of_getElem? (i := 394) (by decide +kernel), List.mem_of_getElem? (i := 395) (by decide +kernel)⟩
theorem lw_p25 : lw_okq (⟨"ApologyBricks$Told", "isFor", "(II)Z"⟩, 11) := ⟨⟨by decide +kernel, by decide +kernel⟩, List.mem_of_getElem? (i := 50) (by decide +kernel), List.mem_of_getElem? (i := 398) (by decide +kernel), List.mem_of_getElem? (i := 399) (by decide +kernel)⟩
theorem lw_p26 : lw_okq (⟨"ApologyBricks$Story", "remember", "()V"⟩, 3) := ⟨⟨by decide +kernel, by decide +kernel⟩, List.mem_of_getElem? (i := 127) (by decide +kernel), List.mem_of_getElem? (i := 406) (by decide +kernel), List.mem_of_getElem? (i := 407) (by decide +kernel)⟩
theorem lw_p27 : lw_okq (⟨"ApologyBricks$Story", "dropOldest", "()V"⟩, 3) := ⟨⟨by decide +kernel, by decide +kernel⟩, List.mem_of_getElem? (i := 127) (by decide +kernel), List.mem_of_getElem? (i := 410) (by decide +kernel), List.mem_of_getElem? (i := 411) (by decide +kernel)⟩
theorem lw_p28 : lw_okq (⟨"ApologyBricks$Scene", "become", "(LApologyBricks$Scene;)V"⟩, 5) := ⟨⟨by decide +kernel, by decide +kernel⟩, List.mem_of_getElem? (i := 133) (by decide +kernel), List.mem_of_getElem? (i := 414) (by decide +kernel), List.mem_of_getElem? (i := 415) (by decide +kernel)⟩
theorem lw_p29 : lw_okq (⟨"ApologyBricks$Told", "reach", "(I)I"⟩, 11) := ⟨⟨by decide +kernel, by decide +kernel⟩, List.mem_of_getElem? (i := 50) (by decide +kernel), List.mem_of_getElem? (i := 418) (by decide +kernel), List.mem_of_getElem? (i := 419) (by decide +kernel)⟩
theorem lw_p30 : lw_okq (⟨"ApologyBricks$Told", "judgesFor", "(I)I"⟩, 11) := ⟨⟨by decide +kernel, by decide +kernel⟩, List.mem_of_getElem? (i := 50) (by decide +kernel), List.mem_of_getElem? (i := 430) (by decide +kernel), List.mem_of_getElem? (i := 431) (by decide +kernel)⟩
theorem lw_p31 : lw_okq (⟨"ApologyBricks$Told", "holds", "(I)Z"⟩, 11) := ⟨⟨by decide +kernel, by decide +kernel⟩, List.mem_of_getElem? (i := 50) (by decide +kernel), List.mem_of_getElem? (i := 435) (by decide +kernel), List.mem_of_getElem? (i := 436) (by decide +kernel)⟩
def lw_privs_2 : List (MethodName × Nat) := [(⟨"ApologyBricks$Story", "begin", "(LApologyBricks$Told;)V"⟩, 3), (⟨"ApologyBricks$Scene", "begin", "(LApologyBricks$Told;)V"⟩, 5), (⟨"ApologyBricks", "noBrick", "(I)Z"⟩, 11), (⟨"ApologyBricks", "fits", "(I)I"⟩, 11), (⟨"ApologyBricks$Scene", "height", "(I)I"⟩, 5), (⟨"ApologyBricks", "noColumn", "(I)Z"⟩, 11), (⟨"ApologyBricks$Scene", "brickAt", "(II)I"⟩, 5), (⟨"ApologyBricks", "noJudge", "(I)Z"⟩, 11), (⟨"ApologyBricks", "wouldHold", "(I)I"⟩, 11), (⟨"ApologyBricks$Told", "isFor", "(II)Z"⟩, 11), (⟨"ApologyBricks$Story", "remember", "()V"⟩, 3), (⟨"ApologyBricks$Story", "dropOldest", "()V"⟩, 3), (⟨"ApologyBricks$Scene", "become", "(LApologyBricks$Scene;)V"⟩, 5), (⟨"ApologyBricks$Told", "reach", "(I)I"⟩, 11), (⟨"ApologyBricks$Told", "judgesFor", "(I)I"⟩, 11), (⟨"ApologyBricks$Told", "holds", "(I)Z"⟩, 11)]
theorem lw_r2 : ∀ q ∈ lw_privs_2, lw_okq q := List.forall_mem_cons.mpr ⟨lw_p16, List.forall_mem_cons.mpr ⟨lw_p17, List.forall_mem_cons.mpr ⟨lw_p18, List.forall_mem_cons.mpr ⟨lw_p19, List.forall_mem_cons.mpr ⟨lw_p20, List.forall_mem_cons.mpr ⟨lw_p21, List.forall_mem_cons.mpr ⟨lw_p22, List.forall_mem_cons.mpr ⟨lw_p23, List.forall_mem_cons.mpr ⟨lw_p24, List.forall_mem_cons.mpr ⟨lw_p25, List.forall_mem_cons.mpr ⟨lw_p26, List.forall_mem_cons.mpr ⟨lw_p27, List.forall_mem_cons.mpr ⟨lw_p28, List.forall_mem_cons.mpr ⟨lw_p29, List.forall_mem_cons.mpr ⟨lw_p30, List.forall_mem_cons.mpr ⟨lw_p31, fun _ h => absurd h List.not_mem_nil⟩⟩⟩⟩⟩⟩⟩⟩⟩⟩⟩⟩⟩⟩⟩⟩
theorem lw_p32 : lw_okq (⟨"ApologyBricks$Story", "stepBack", "()V"⟩, 3) := ⟨⟨by decide +kernel, by decide +kernel⟩, List.mem_of_getElem? (i := 127) (by decide +kernel), List.mem_of_getElem? (i := 455) (by decide +kernel), List.mem_of_getElem? (i := 456) (by decide +kernel)⟩
theorem lw_p33 : lw_okq (⟨"ApologyBricks$Plan", "more", "(LApologyBricks$Told;LApologyBricks$Scene;)I"⟩, 6) := ⟨⟨by decide +kernel, by decide +kernel⟩, List.mem_of_getElem? (i := 192) (by decide +kernel), List.mem_of_getElem? (i := 463) (by decide +kernel), List.mem_of_getElem? (i := 464) (by decide +kernel)⟩
theorem lw_p34 : lw_okq (⟨"ApologyBricks$Plan", "tabulateHeld", "(LApologyBricks$Told;LApologyBricks$Scene;)I"⟩, 6) := ⟨⟨by decide +kernel, by decide +kernel⟩, List.mem_of_getElem? (i := 192) (by decide +kernel), List.mem_of_getElem? (i := 467) (by decide +kernel), List.mem_of_getElem? (i := 468) (by decide +kernel)⟩
theorem lw_p35 : lw_okq (⟨"ApologyBricks$Plan", "tabulate", "(LApologyBricks$Told;LApologyBricks$Scene;)I"⟩, 6) := ⟨⟨by decide +kernel, by decide +kernel⟩, List.mem_of_getElem? (i := 192) (by decide +kernel), List.mem_of_getElem? (i := 472) (by decide +kernel), List.mem_of_getElem? (i := 473) (by decide +kernel)⟩
theorem lw_p36 : lw_okq (⟨"ApologyBricks$Plan", "placeOfLeft", "()I"⟩, 6) := ⟨⟨by decide +kernel, by decide +kernel⟩, List.mem_of_getElem? (i := 192) (by decide +kernel), List.mem_of_getElem? (i := 477) (by decide +kernel), List.mem_of_getElem? (i := 478) (by decide +kernel)⟩
theorem lw_p37 : lw_okq (⟨"ApologyBricks$Plan", "tabulateColumn", "(II)V"⟩, 6) := ⟨⟨by decide +kernel, by decide +kernel⟩, List.mem_of_getElem? (i := 192) (by decide +kernel), List.mem_of_getElem? (i := 482) (by decide +kernel), List.mem_of_getElem? (i := 483) (by decide +kernel)⟩
theorem lw_p38 : lw_okq (⟨"ApologyBricks$Plan", "raise", "(II)V"⟩, 6) := ⟨⟨by decide +kernel, by decide +kernel⟩, List.mem_of_getElem? (i := 192) (by decide +kernel), List.mem_of_getElem? (i := 486) (by decide +kernel), List.mem_of_getElem? (i := 487) (by decide +kernel)⟩
theorem lw_p39 : lw_okq (⟨"ApologyBricks$Scene", "howMany", "(I)I"⟩, 5) := ⟨⟨by decide +kernel, by decide +kernel⟩, List.mem_of_getElem? (i := 133) (by decide +kernel), List.mem_of_getElem? (i := 491) (by decide +kernel), List.mem_of_getElem? (i := 492) (by decide +kernel)⟩
theorem lw_p40 : lw_okq (⟨"ApologyBricks$Plan", "heightOf", "(LApologyBricks$Told;LApologyBricks$Scene;I)I"⟩, 6) := ⟨⟨by decide +kernel, by decide +kernel⟩, List.mem_of_getElem? (i := 192) (by decide +kernel), List.mem_of_getElem? (i := 499) (by decide +kernel), List.mem_of_getElem? (i := 500) (by decide +kernel)⟩
theorem lw_p41 : lw_okq (⟨"ApologyBricks$Plan", "fewestToPrompt", "(LApologyBricks$Told;LApologyBricks$Scene;I)I"⟩, 6) := ⟨⟨by decide +kernel, by decide +kernel⟩, List.mem_of_getElem? (i := 192) (by decide +kernel), List.mem_of_getElem? (i := 507) (by decide +kernel), List.mem_of_getElem? (i := 508) (by decide +kernel)⟩
theorem lw_p42 : lw_okq (⟨"ApologyBricks$Plan", "gatherComers", "(LApologyBricks$Told;LApologyBricks$Scene;I)V"⟩, 6) := ⟨⟨by decide +kernel, by decide +kernel⟩, List.mem_of_getElem? (i := 192) (by decide +kernel), List.mem_of_getElem? (i := 511) (by decide +kernel), List.mem_of_getElem? (i := 512) (by decide +kernel)⟩
theorem lw_p43 : lw_okq (⟨"ApologyBricks$Wording", "shortest", "(LApologyBricks$Told;I)I"⟩, 1) := ⟨⟨by decide +kernel, by decide +kernel⟩, List.mem_of_getElem? (i := 217) (by decide +kernel), List.mem_of_getElem? (i := 527) (by decide +kernel), List.mem_of_getElem? (i := 528) (by decide +kernel)⟩
theorem lw_p44 : lw_okq (⟨"ApologyBricks$Wording", "fill", "(LApologyBricks$Told;III)Z"⟩, 1) := ⟨⟨by decide +kernel, by decide +kernel⟩, List.mem_of_getElem? (i := 217) (by decide +kernel), List.mem_of_getElem? (i := 531) (by decide +kernel), List.mem_of_getElem? (i := 532) (by decide +kernel)⟩
theorem lw_p45 : lw_okq (⟨"ApologyBricks", "spreadChances", "(II)V"⟩, 11) := ⟨⟨by decide +kernel, by decide +kernel⟩, List.mem_of_getElem? (i := 15) (by decide +kernel), List.mem_of_getElem? (i := 543) (by decide +kernel), List.mem_of_getElem? (i := 544) (by decide +kernel)⟩
theorem lw_p46 : lw_okq (⟨"ApologyBricks$Hearing", "add", "(IZ)V"⟩, 3) := ⟨⟨by decide +kernel, by decide +kernel⟩, List.mem_of_getElem? (i := 174) (by decide +kernel), List.mem_of_getElem? (i := 555) (by decide +kernel), List.mem_of_getElem? (i := 556) (by decide +kernel)⟩
theorem lw_p47 : lw_okq (⟨"ApologyBricks$Hearing", "howMany", "(LApologyBricks$Told;I)I"⟩, 3) := ⟨⟨by decide +kernel, by decide +kernel⟩, List.mem_of_getElem? (i := 174) (by decide +kernel), List.mem_of_getElem? (i := 567) (by decide +kernel), List.mem_of_getElem? (i := 568) (by decide +kernel)⟩
def lw_privs_3 : List (MethodName × Nat) := [(⟨"ApologyBricks$Story", "stepBack", "()V"⟩, 3), (⟨"ApologyBricks$Plan", "more", "(LApologyBricks$Told;LApologyBricks$Scene;)I"⟩, 6), (⟨"ApologyBricks$Plan", "tabulateHeld", "(LApologyBricks$Told;LApologyBricks$Scene;)I"⟩, 6), (⟨"ApologyBricks$Plan", "tabulate", "(LApologyBricks$Told;LApologyBricks$Scene;)I"⟩, 6), (⟨"ApologyBricks$Plan", "placeOfLeft", "()I"⟩, 6), (⟨"ApologyBricks$Plan", "tabulateColumn", "(II)V"⟩, 6), (⟨"ApologyBricks$Plan", "raise", "(II)V"⟩, 6), (⟨"ApologyBricks$Scene", "howMany", "(I)I"⟩, 5), (⟨"ApologyBricks$Plan", "heightOf", "(LApologyBricks$Told;LApologyBricks$Scene;I)I"⟩, 6), (⟨"ApologyBricks$Plan", "fewestToPrompt", "(LApologyBricks$Told;LApologyBricks$Scene;I)I"⟩, 6), (⟨"ApologyBricks$Plan", "gatherComers", "(LApologyBricks$Told;LApologyBricks$Scene;I)V"⟩, 6), (⟨"ApologyBricks$Wording", "shortest", "(LApologyBricks$Told;I)I"⟩, 1), (⟨"ApologyBricks$Wording", "fill", "(LApologyBricks$Told;III)Z"⟩, 1), (⟨"ApologyBricks", "spreadChances", "(II)V"⟩, 11), (⟨"ApologyBricks$Hearing", "add", "(IZ)V"⟩, 3), (⟨"ApologyBricks$Hearing", "howMany", "(LApologyBricks$Told;I)I"⟩, 3)]
theorem lw_r3 : ∀ q ∈ lw_privs_3, lw_okq q := List.forall_mem_cons.mpr ⟨lw_p32, List.forall_mem_cons.mpr ⟨lw_p33, List.forall_mem_cons.mpr ⟨lw_p34, List.forall_mem_cons.mpr ⟨lw_p35, List.forall_mem_cons.mpr ⟨lw_p36, List.forall_mem_cons.mpr ⟨lw_p37, List.forall_mem_cons.mpr ⟨lw_p38, List.forall_mem_cons.mpr ⟨lw_p39, List.forall_mem_cons.mpr ⟨lw_p40, List.forall_mem_cons.mpr ⟨lw_p41, List.forall_mem_cons.mpr ⟨lw_p42, List.forall_mem_cons.mpr ⟨lw_p43, List.forall_mem_cons.mpr ⟨lw_p44, List.forall_mem_cons.mpr ⟨lw_p45, List.forall_mem_cons.mpr ⟨lw_p46, List.forall_mem_cons.mpr ⟨lw_p47, fun _ h => absurd h List.not_mem_nil⟩⟩⟩⟩⟩⟩⟩⟩⟩⟩⟩⟩⟩⟩⟩⟩
theorem lw_p48 : lw_okq (⟨"ApologyBricks$Hearing", "agrees", "(LApologyBricks$Told;I)Z"⟩, 3) := ⟨⟨by decide +kernel, by decide +kernel⟩, List.mem_of_getElem? (i := 174) (by decide +kernel), List.mem_of_getElem? (i := 571) (by decide +kernel), List.mem_of_getElem? (i := 572) (by decide +kernel)⟩
theorem lw_p49 : lw_okq (⟨"ApologyBricks$Hearing", "least", "(LApologyBricks$Told;)I"⟩, 3) := ⟨⟨by decide +kernel, by decide +kernel⟩, List.mem_of_getElem? (i := 174) (by decide +kernel), List.mem_of_getElem? (i := 576) (by decide +kernel), List.mem_of_getElem? (i := 577) (by decide +kernel)⟩
theorem lw_p50 : lw_okq (⟨"ApologyBricks$Hearing", "greatest", "(LApologyBricks$Told;)I"⟩, 3) := ⟨⟨by decide +kernel, by decide +kernel⟩, List.mem_of_getElem? (i := 174) (by decide +kernel), List.mem_of_getElem? (i := 580) (by decide +kernel), List.mem_of_getElem? (i := 581) (by decide +kernel)⟩
theorem lw_p51 : lw_okq (⟨"ApologyBricks$Hearing", "whomToAsk", "(LApologyBricks$Told;)I"⟩, 3) := ⟨⟨by decide +kernel, by decide +kernel⟩, List.mem_of_getElem? (i := 174) (by decide +kernel), List.mem_of_getElem? (i := 588) (by decide +kernel), List.mem_of_getElem? (i := 589) (by decide +kernel)⟩
theorem lw_p52 : lw_okq (⟨"ApologyBricks", "markOfBrick", "(I)I"⟩, 11) := ⟨⟨by decide +kernel, by decide +kernel⟩, List.mem_of_getElem? (i := 15) (by decide +kernel), List.mem_of_getElem? (i := 601) (by decide +kernel), List.mem_of_getElem? (i := 602) (by decide +kernel)⟩
theorem lw_p53 : lw_okq (⟨"ApologyBricks", "markOfArch", "(I)I"⟩, 11) := ⟨⟨by decide +kernel, by decide +kernel⟩, List.mem_of_getElem? (i := 15) (by decide +kernel), List.mem_of_getElem? (i := 605) (by decide +kernel), List.mem_of_getElem? (i := 606) (by decide +kernel)⟩
theorem lw_p54 : lw_okq (⟨"ApologyBricks", "markOfFont", "(I)I"⟩, 11) := ⟨⟨by decide +kernel, by decide +kernel⟩, List.mem_of_getElem? (i := 15) (by decide +kernel), List.mem_of_getElem? (i := 610) (by decide +kernel), List.mem_of_getElem? (i := 611) (by decide +kernel)⟩
theorem lw_p55 : lw_okq (⟨"ApologyBricks", "markOfVault", "(I)I"⟩, 11) := ⟨⟨by decide +kernel, by decide +kernel⟩, List.mem_of_getElem? (i := 15) (by decide +kernel), List.mem_of_getElem? (i := 615) (by decide +kernel), List.mem_of_getElem? (i := 616) (by decide +kernel)⟩
theorem lw_p56 : lw_okq (⟨"ApologyBricks", "markOfStep", "(I)I"⟩, 11) := ⟨⟨by decide +kernel, by decide +kernel⟩, List.mem_of_getElem? (i := 15) (by decide +kernel), List.mem_of_getElem? (i := 620) (by decide +kernel), List.mem_of_getElem? (i := 621) (by decide +kernel)⟩
theorem lw_p57 : lw_okq (⟨"ApologyBricks", "markOfChapel", "(I)I"⟩, 11) := ⟨⟨by decide +kernel, by decide +kernel⟩, List.mem_of_getElem? (i := 15) (by decide +kernel), List.mem_of_getElem? (i := 624) (by decide +kernel), List.mem_of_getElem? (i := 625) (by decide +kernel)⟩
theorem lw_p58 : lw_okq (⟨"ApologyBricks$Story", "become", "(LApologyBricks$Story;)V"⟩, 3) := ⟨⟨by decide +kernel, by decide +kernel⟩, List.mem_of_getElem? (i := 127) (by decide +kernel), List.mem_of_getElem? (i := 636) (by decide +kernel), List.mem_of_getElem? (i := 637) (by decide +kernel)⟩
theorem lw_p59 : lw_okq (⟨"ApologyBricksModel", "read", "()V"⟩, 29) := ⟨⟨by decide +kernel, by decide +kernel⟩, List.mem_of_getElem? (i := 652) (by decide +kernel), List.mem_of_getElem? (i := 762) (by decide +kernel), List.mem_of_getElem? (i := 763) (by decide +kernel)⟩
theorem lw_p60 : lw_okq (⟨"ApologyBricksModel", "step", "()V"⟩, 29) := ⟨⟨by decide +kernel, by decide +kernel⟩, List.mem_of_getElem? (i := 652) (by decide +kernel), List.mem_of_getElem? (i := 766) (by decide +kernel), List.mem_of_getElem? (i := 767) (by decide +kernel)⟩
theorem lw_p61 : lw_okq (⟨"ApologyBricksModel", "here", "()I"⟩, 29) := ⟨⟨by decide +kernel, by decide +kernel⟩, List.mem_of_getElem? (i := 652) (by decide +kernel), List.mem_of_getElem? (i := 770) (by decide +kernel), List.mem_of_getElem? (i := 771) (by decide +kernel)⟩
theorem lw_p62 : lw_okq (⟨"ApologyBricksModel", "may", "(I)Z"⟩, 29) := ⟨⟨by decide +kernel, by decide +kernel⟩, List.mem_of_getElem? (i := 652) (by decide +kernel), List.mem_of_getElem? (i := 774) (by decide +kernel), List.mem_of_getElem? (i := 775) (by decide +kernel)⟩
theorem lw_p63 : lw_okq (⟨"ApologyBricksModel", "due", "(Z)V"⟩, 29) := ⟨⟨by decide +kernel, by decide +kernel⟩, List.mem_of_getElem? (i := 652) (by decide +kernel), List.mem_of_getElem? (i := 778) (by decide +kernel), List.mem_of_getElem? (i := 779) (by decide +kernel)⟩
def lw_privs_4 : List (MethodName × Nat) := [(⟨"ApologyBricks$Hearing", "agrees", "(LApologyBricks$Told;I)Z"⟩, 3), (⟨"ApologyBricks$Hearing", "least", "(LApologyBricks$Told;)I"⟩, 3), (⟨"ApologyBricks$Hearing", "greatest", "(LApologyBricks$Told;)I"⟩, 3), (⟨"ApologyBricks$Hearing", "whomToAsk", "(LApologyBricks$Told;)I"⟩, 3), (⟨"ApologyBricks", "markOfBrick", "(I)I"⟩, 11), (⟨"ApologyBricks", "markOfArch", "(I)I"⟩, 11), (⟨"ApologyBricks", "markOfFont", "(I)I"⟩, 11), (⟨"ApologyBricks", "markOfVault", "(I)I"⟩, 11), (⟨"ApologyBricks", "markOfStep", "(I)I"⟩, 11), (⟨"ApologyBricks", "markOfChapel", "(I)I"⟩, 11), (⟨"ApologyBricks$Story", "become", "(LApologyBricks$Story;)V"⟩, 3), (⟨"ApologyBricksModel", "read", "()V"⟩, 29), (⟨"ApologyBricksModel", "step", "()V"⟩, 29), (⟨"ApologyBricksModel", "here", "()I"⟩, 29), (⟨"ApologyBricksModel", "may", "(I)Z"⟩, 29), (⟨"ApologyBricksModel", "due", "(Z)V"⟩, 29)]
theorem lw_r4 : ∀ q ∈ lw_privs_4, lw_okq q := List.forall_mem_cons.mpr ⟨lw_p48, List.forall_mem_cons.mpr ⟨lw_p49, List.forall_mem_cons.mpr ⟨lw_p50, List.forall_mem_cons.mpr ⟨lw_p51, List.forall_mem_cons.mpr ⟨lw_p52, List.forall_mem_cons.mpr ⟨lw_p53, List.forall_mem_cons.mpr ⟨lw_p54, List.forall_mem_cons.mpr ⟨lw_p55, List.forall_mem_cons.mpr ⟨lw_p56, List.forall_mem_cons.mpr ⟨lw_p57, List.forall_mem_cons.mpr ⟨lw_p58, List.forall_mem_cons.mpr ⟨lw_p59, List.forall_mem_cons.mpr ⟨lw_p60, List.forall_mem_cons.mpr ⟨lw_p61, List.forall_mem_cons.mpr ⟨lw_p62, List.forall_mem_cons.mpr ⟨lw_p63, fun _ h => absurd h List.not_mem_nil⟩⟩⟩⟩⟩⟩⟩⟩⟩⟩⟩⟩⟩⟩⟩⟩
theorem lw_p64 : lw_okq (⟨"ApologyBricksModel", "item", "(I)V"⟩, 29) := ⟨⟨by decide +kernel, by decide +kernel⟩, List.mem_of_getElem? (i := 652) (by decide +kernel), List.mem_of_getElem? (i := 782) (by decide +kernel), List.mem_of_getElem? (i := 783) (by decide +kernel)⟩
theorem lw_p65 : lw_okq (⟨"ApologyBricksModel", "number", "(II)I"⟩, 29) := ⟨⟨by decide +kernel, by decide +kernel⟩, List.mem_of_getElem? (i := 652) (by decide +kernel), List.mem_of_getElem? (i := 786) (by decide +kernel), List.mem_of_getElem? (i := 787) (by decide +kernel)⟩
theorem lw_p66 : lw_okq (⟨"ApologyBricksModel", "readKin", "()V"⟩, 29) := ⟨⟨by decide +kernel, by decide +kernel⟩, List.mem_of_getElem? (i := 652) (by decide +kernel), List.mem_of_getElem? (i := 790) (by decide +kernel), List.mem_of_getElem? (i := 791) (by decide +kernel)⟩
theorem lw_p67 : lw_okq (⟨"ApologyBricksModel", "isBrick", "(I)Z"⟩, 29) := ⟨⟨by decide +kernel, by decide +kernel⟩, List.mem_of_getElem? (i := 652) (by decide +kernel), List.mem_of_getElem? (i := 798) (by decide +kernel), List.mem_of_getElem? (i := 799) (by decide +kernel)⟩
theorem lw_p68 : lw_okq (⟨"ApologyBricksModel", "doesFit", "(II)Z"⟩, 29) := ⟨⟨by decide +kernel, by decide +kernel⟩, List.mem_of_getElem? (i := 652) (by decide +kernel), List.mem_of_getElem? (i := 802) (by decide +kernel), List.mem_of_getElem? (i := 803) (by decide +kernel)⟩
theorem lw_p69 : lw_okq (⟨"ApologyBricksModel", "heightOf", "(I)I"⟩, 29) := ⟨⟨by decide +kernel, by decide +kernel⟩, List.mem_of_getElem? (i := 652) (by decide +kernel), List.mem_of_getElem? (i := 806) (by decide +kernel), List.mem_of_getElem? (i := 807) (by decide +kernel)⟩
theorem lw_p70 : lw_okq (⟨"ApologyBricksModel", "isColumn", "(I)Z"⟩, 29) := ⟨⟨by decide +kernel, by decide +kernel⟩, List.mem_of_getElem? (i := 652) (by decide +kernel), List.mem_of_getElem? (i := 817) (by decide +kernel), List.mem_of_getElem? (i := 818) (by decide +kernel)⟩
theorem lw_p71 : lw_okq (⟨"ApologyBricksModel", "isJudge", "(I)Z"⟩, 29) := ⟨⟨by decide +kernel, by decide +kernel⟩, List.mem_of_getElem? (i := 652) (by decide +kernel), List.mem_of_getElem? (i := 829) (by decide +kernel), List.mem_of_getElem? (i := 830) (by decide +kernel)⟩
theorem lw_p72 : lw_okq (⟨"ApologyBricksModel", "know", "()V"⟩, 29) := ⟨⟨by decide +kernel, by decide +kernel⟩, List.mem_of_getElem? (i := 652) (by decide +kernel), List.mem_of_getElem? (i := 837) (by decide +kernel), List.mem_of_getElem? (i := 838) (by decide +kernel)⟩
theorem lw_p73 : lw_okq (⟨"ApologyBricksModel", "doesCome", "(II)Z"⟩, 29) := ⟨⟨by decide +kernel, by decide +kernel⟩, List.mem_of_getElem? (i := 652) (by decide +kernel), List.mem_of_getElem? (i := 841) (by decide +kernel), List.mem_of_getElem? (i := 842) (by decide +kernel)⟩
theorem lw_p74 : lw_okq (⟨"ApologyBricksModel", "forOf", "(I)I"⟩, 29) := ⟨⟨by decide +kernel, by decide +kernel⟩, List.mem_of_getElem? (i := 652) (by decide +kernel), List.mem_of_getElem? (i := 852) (by decide +kernel), List.mem_of_getElem? (i := 853) (by decide +kernel)⟩
theorem lw_p75 : lw_okq (⟨"ApologyBricksModel", "isHeldBy", "(I)Z"⟩, 29) := ⟨⟨by decide +kernel, by decide +kernel⟩, List.mem_of_getElem? (i := 652) (by decide +kernel), List.mem_of_getElem? (i := 856) (by decide +kernel), List.mem_of_getElem? (i := 857) (by decide +kernel)⟩
theorem lw_p76 : lw_okq (⟨"ApologyBricksModel", "manyOf", "(I)I"⟩, 29) := ⟨⟨by decide +kernel, by decide +kernel⟩, List.mem_of_getElem? (i := 652) (by decide +kernel), List.mem_of_getElem? (i := 880) (by decide +kernel), List.mem_of_getElem? (i := 881) (by decide +kernel)⟩
theorem lw_p77 : lw_okq (⟨"ApologyBricksModel", "countHeld", "()V"⟩, 29) := ⟨⟨by decide +kernel, by decide +kernel⟩, List.mem_of_getElem? (i := 652) (by decide +kernel), List.mem_of_getElem? (i := 884) (by decide +kernel), List.mem_of_getElem? (i := 885) (by decide +kernel)⟩
theorem lw_p78 : lw_okq (⟨"ApologyBricksModel", "tellTakes", "()V"⟩, 29) := ⟨⟨by decide +kernel, by decide +kernel⟩, List.mem_of_getElem? (i := 652) (by decide +kernel), List.mem_of_getElem? (i := 888) (by decide +kernel), List.mem_of_getElem? (i := 889) (by decide +kernel)⟩
theorem lw_p79 : lw_okq (⟨"ApologyBricksModel", "mostOf", "()I"⟩, 29) := ⟨⟨by decide +kernel, by decide +kernel⟩, List.mem_of_getElem? (i := 652) (by decide +kernel), List.mem_of_getElem? (i := 895) (by decide +kernel), List.mem_of_getElem? (i := 896) (by decide +kernel)⟩
def lw_privs_5 : List (MethodName × Nat) := [(⟨"ApologyBricksModel", "item", "(I)V"⟩, 29), (⟨"ApologyBricksModel", "number", "(II)I"⟩, 29), (⟨"ApologyBricksModel", "readKin", "()V"⟩, 29), (⟨"ApologyBricksModel", "isBrick", "(I)Z"⟩, 29), (⟨"ApologyBricksModel", "doesFit", "(II)Z"⟩, 29), (⟨"ApologyBricksModel", "heightOf", "(I)I"⟩, 29), (⟨"ApologyBricksModel", "isColumn", "(I)Z"⟩, 29), (⟨"ApologyBricksModel", "isJudge", "(I)Z"⟩, 29), (⟨"ApologyBricksModel", "know", "()V"⟩, 29), (⟨"ApologyBricksModel", "doesCome", "(II)Z"⟩, 29), (⟨"ApologyBricksModel", "forOf", "(I)I"⟩, 29), (⟨"ApologyBricksModel", "isHeldBy", "(I)Z"⟩, 29), (⟨"ApologyBricksModel", "manyOf", "(I)I"⟩, 29), (⟨"ApologyBricksModel", "countHeld", "()V"⟩, 29), (⟨"ApologyBricksModel", "tellTakes", "()V"⟩, 29), (⟨"ApologyBricksModel", "mostOf", "()I"⟩, 29)]
theorem lw_r5 : ∀ q ∈ lw_privs_5, lw_okq q := List.forall_mem_cons.mpr ⟨lw_p64, List.forall_mem_cons.mpr ⟨lw_p65, List.forall_mem_cons.mpr ⟨lw_p66, List.forall_mem_cons.mpr ⟨lw_p67, List.forall_mem_cons.mpr ⟨lw_p68, List.forall_mem_cons.mpr ⟨lw_p69, List.forall_mem_cons.mpr ⟨lw_p70, List.forall_mem_cons.mpr ⟨lw_p71, List.forall_mem_cons.mpr ⟨lw_p72, List.forall_mem_cons.mpr ⟨lw_p73, List.forall_mem_cons.mpr ⟨lw_p74, List.forall_mem_cons.mpr ⟨lw_p75, List.forall_mem_cons.mpr ⟨lw_p76, List.forall_mem_cons.mpr ⟨lw_p77, List.forall_mem_cons.mpr ⟨lw_p78, List.forall_mem_cons.mpr ⟨lw_p79, fun _ h => absurd h List.not_mem_nil⟩⟩⟩⟩⟩⟩⟩⟩⟩⟩⟩⟩⟩⟩⟩⟩
theorem lw_p80 : lw_okq (⟨"ApologyBricksModel", "mostFrom", "(IIII)I"⟩, 29) := ⟨⟨by decide +kernel, by decide +kernel⟩, List.mem_of_getElem? (i := 652) (by decide +kernel), List.mem_of_getElem? (i := 899) (by decide +kernel), List.mem_of_getElem? (i := 900) (by decide +kernel)⟩
theorem lw_p81 : lw_okq (⟨"ApologyBricksModel", "isOfWorth", "(III)Z"⟩, 29) := ⟨⟨by decide +kernel, by decide +kernel⟩, List.mem_of_getElem? (i := 652) (by decide +kernel), List.mem_of_getElem? (i := 918) (by decide +kernel), List.mem_of_getElem? (i := 919) (by decide +kernel)⟩
theorem lw_p82 : lw_okq (⟨"ApologyBricksModel", "isSo", "(I)Z"⟩, 29) := ⟨⟨by decide +kernel, by decide +kernel⟩, List.mem_of_getElem? (i := 652) (by decide +kernel), List.mem_of_getElem? (i := 944) (by decide +kernel), List.mem_of_getElem? (i := 945) (by decide +kernel)⟩
def lw_privs_6 : List (MethodName × Nat) := [(⟨"ApologyBricksModel", "mostFrom", "(IIII)I"⟩, 29), (⟨"ApologyBricksModel", "isOfWorth", "(III)Z"⟩, 29), (⟨"ApologyBricksModel", "isSo", "(I)Z"⟩, 29)]
theorem lw_r6 : ∀ q ∈ lw_privs_6, lw_okq q := List.forall_mem_cons.mpr ⟨lw_p80, List.forall_mem_cons.mpr ⟨lw_p81, List.forall_mem_cons.mpr ⟨lw_p82, fun _ h => absurd h List.not_mem_nil⟩⟩⟩
def lw_privs : List (MethodName × Nat) := lw_privs_1 ++ (lw_privs_2 ++ (lw_privs_3 ++ (lw_privs_4 ++ (lw_privs_5 ++ (lw_privs_6)))))
def lw_tbl : List Cond := k2_sels lw_privs ++ tables_1
theorem lw_privs_ok : ∀ q ∈ lw_privs, lw_okq q := by
  show ∀ q ∈ lw_privs_1 ++ (lw_privs_2 ++ (lw_privs_3 ++ (lw_privs_4 ++ (lw_privs_5 ++ (lw_privs_6))))), lw_okq q
  exact List.forall_mem_append.mpr ⟨lw_r1, List.forall_mem_append.mpr ⟨lw_r2, List.forall_mem_append.mpr ⟨lw_r3, List.forall_mem_append.mpr ⟨lw_r4, List.forall_mem_append.mpr ⟨lw_r5, lw_r6⟩⟩⟩⟩⟩

def RX0 : String := "ApologyBricks$Hearing"
def TX0 : u_T := fun k => match k with
  | 0 => ("ApologyBricks$Hearing", "heard", "I", false)
  | 1 => ("ApologyBricks$Hearing", "who", "[I", true)
  | _ => ("ApologyBricks$Hearing", "wasFor", "[Z", true)
def tyX0 : Nat → FieldType := fun k => match k with
  | 0 => .int
  | 1 => .array .int
  | _ => .array .boolean
abbrev wsX00 : List Cond := u_ws RX0 TX0 3
theorem nmX0 : ∀ a, a < 3 → ∀ b, b < 3 → a ≠ b → (TX0 a).2.1 ≠ (TX0 b).2.1 := by decide +kernel
theorem tyX0_ok : ∀ k, k < 3 → parseFieldDescriptor (TX0 k).2.2.1 = some (tyX0 k) := by decide +kernel
abbrev cX0_init : ByteArray := prog_2_method_1_code
def yX0_init : MethodName := ⟨RX0, "<init>", "()V"⟩
abbrev cX0_add : ByteArray := prog_2_method_2_code
def yX0_add : MethodName := ⟨RX0, "add", "(IZ)V"⟩
abbrev cX0_agrees : ByteArray := prog_2_method_3_code
def yX0_agrees : MethodName := ⟨RX0, "agrees", "(LApologyBricks$Told;I)Z"⟩
abbrev cX0_howMany : ByteArray := prog_2_method_4_code
def yX0_howMany : MethodName := ⟨RX0, "howMany", "(LApologyBricks$Told;I)I"⟩
abbrev cX0_least : ByteArray := prog_2_method_5_code
def yX0_least : MethodName := ⟨RX0, "least", "(LApologyBricks$Told;)I"⟩
abbrev cX0_greatest : ByteArray := prog_2_method_6_code
def yX0_greatest : MethodName := ⟨RX0, "greatest", "(LApologyBricks$Told;)I"⟩
abbrev cX0_whomToAsk : ByteArray := prog_2_method_7_code
def yX0_whomToAsk : MethodName := ⟨RX0, "whomToAsk", "(LApologyBricks$Told;)I"⟩
def RX1 : String := "ApologyBricks$Plan"
def TX1 : u_T := fun k => match k with
  | 0 => ("ApologyBricks$Plan", "most", "[I", true)
  | 1 => ("ApologyBricks$Plan", "rise", "[I", true)
  | 2 => ("ApologyBricks$Plan", "stock", "[I", true)
  | 3 => ("ApologyBricks$Plan", "left", "[I", true)
  | 4 => ("ApologyBricks$Plan", "stride", "[I", true)
  | _ => ("ApologyBricks$Plan", "height", "[I", true)
def tyX1 : Nat → FieldType := fun k => match k with
  | 0 => .array .int
  | 1 => .array .int
  | 2 => .array .int
  | 3 => .array .int
  | 4 => .array .int
  | _ => .array .int
abbrev wsX10 : List Cond := u_ws RX1 TX1 6
theorem nmX1 : ∀ a, a < 6 → ∀ b, b < 6 → a ≠ b → (TX1 a).2.1 ≠ (TX1 b).2.1 := by decide +kernel
theorem tyX1_ok : ∀ k, k < 6 → parseFieldDescriptor (TX1 k).2.2.1 = some (tyX1 k) := by decide +kernel
abbrev cX1_init : ByteArray := prog_3_method_1_code
def yX1_init : MethodName := ⟨RX1, "<init>", "()V"⟩
abbrev cX1_more : ByteArray := prog_3_method_2_code
def yX1_more : MethodName := ⟨RX1, "more", "(LApologyBricks$Told;LApologyBricks$Scene;)I"⟩
abbrev cX1_heightOf : ByteArray := prog_3_method_3_code
def yX1_heightOf : MethodName := ⟨RX1, "heightOf", "(LApologyBricks$Told;LApologyBricks$Scene;I)I"⟩
abbrev cX1_fewestToPrompt : ByteArray := prog_3_method_4_code
def yX1_fewestToPrompt : MethodName := ⟨RX1, "fewestToPrompt", "(LApologyBricks$Told;LApologyBricks$Scene;I)I"⟩
abbrev cX1_tabulateHeld : ByteArray := prog_3_method_5_code
def yX1_tabulateHeld : MethodName := ⟨RX1, "tabulateHeld", "(LApologyBricks$Told;LApologyBricks$Scene;)I"⟩
abbrev cX1_gatherComers : ByteArray := prog_3_method_6_code
def yX1_gatherComers : MethodName := ⟨RX1, "gatherComers", "(LApologyBricks$Told;LApologyBricks$Scene;I)V"⟩
abbrev cX1_tabulate : ByteArray := prog_3_method_7_code
def yX1_tabulate : MethodName := ⟨RX1, "tabulate", "(LApologyBricks$Told;LApologyBricks$Scene;)I"⟩
abbrev cX1_placeOfLeft : ByteArray := prog_3_method_8_code
def yX1_placeOfLeft : MethodName := ⟨RX1, "placeOfLeft", "()I"⟩
abbrev cX1_tabulateColumn : ByteArray := prog_3_method_9_code
def yX1_tabulateColumn : MethodName := ⟨RX1, "tabulateColumn", "(II)V"⟩
abbrev cX1_raise : ByteArray := prog_3_method_10_code
def yX1_raise : MethodName := ⟨RX1, "raise", "(II)V"⟩
def RX2 : String := "ApologyBricks$Reader"
def TX2 : u_T := fun k => match k with
  | 0 => ("ApologyBricks$Reader", "source", "[I", true)
  | 1 => ("ApologyBricks$Reader", "length", "I", false)
  | 2 => ("ApologyBricks$Reader", "next", "I", false)
  | 3 => ("ApologyBricks$Reader", "start", "I", false)
  | 4 => ("ApologyBricks$Reader", "token", "I", false)
  | _ => ("ApologyBricks$Reader", "value", "I", false)
def tyX2 : Nat → FieldType := fun k => match k with
  | 0 => .array .int
  | 1 => .int
  | 2 => .int
  | 3 => .int
  | 4 => .int
  | _ => .int
abbrev wsX20 : List Cond := u_ws RX2 TX2 6
theorem nmX2 : ∀ a, a < 6 → ∀ b, b < 6 → a ≠ b → (TX2 a).2.1 ≠ (TX2 b).2.1 := by decide +kernel
theorem tyX2_ok : ∀ k, k < 6 → parseFieldDescriptor (TX2 k).2.2.1 = some (tyX2 k) := by decide +kernel
abbrev cX2_init : ByteArray := prog_4_method_1_code
def yX2_init : MethodName := ⟨RX2, "<init>", "()V"⟩
abbrev cX2_add : ByteArray := prog_4_method_2_code
def yX2_add : MethodName := ⟨RX2, "add", "(I)V"⟩
abbrev cX2_read : ByteArray := prog_4_method_3_code
def yX2_read : MethodName := ⟨RX2, "read", "(LApologyBricks$Told;)I"⟩
abbrev cX2_item : ByteArray := prog_4_method_4_code
def yX2_item : MethodName := ⟨RX2, "item", "(LApologyBricks$Told;I)Z"⟩
abbrev cX2_wallItem : ByteArray := prog_4_method_5_code
def yX2_wallItem : MethodName := ⟨RX2, "wallItem", "(LApologyBricks$Told;)Z"⟩
abbrev cX2_kinItem : ByteArray := prog_4_method_6_code
def yX2_kinItem : MethodName := ⟨RX2, "kinItem", "(LApologyBricks$Told;)Z"⟩
abbrev cX2_brickItem : ByteArray := prog_4_method_7_code
def yX2_brickItem : MethodName := ⟨RX2, "brickItem", "(LApologyBricks$Told;)Z"⟩
abbrev cX2_judgeItem : ByteArray := prog_4_method_8_code
def yX2_judgeItem : MethodName := ⟨RX2, "judgeItem", "(LApologyBricks$Told;)Z"⟩
abbrev cX2_sortItem : ByteArray := prog_4_method_9_code
def yX2_sortItem : MethodName := ⟨RX2, "sortItem", "(LApologyBricks$Told;)Z"⟩
abbrev cX2_number : ByteArray := prog_4_method_10_code
def yX2_number : MethodName := ⟨RX2, "number", "(II)Z"⟩
abbrev cX2_stop : ByteArray := prog_4_method_11_code
def yX2_stop : MethodName := ⟨RX2, "stop", "()Z"⟩
abbrev cX2_step : ByteArray := prog_4_method_12_code
def yX2_step : MethodName := ⟨RX2, "step", "()V"⟩
abbrev cX2_endOfRun : ByteArray := prog_4_method_13_code
def yX2_endOfRun : MethodName := ⟨RX2, "endOfRun", "(ICC)I"⟩
abbrev cX2_takeLetters : ByteArray := prog_4_method_14_code
def yX2_takeLetters : MethodName := ⟨RX2, "takeLetters", "()V"⟩
abbrev cX2_takeNumber : ByteArray := prog_4_method_15_code
def yX2_takeNumber : MethodName := ⟨RX2, "takeNumber", "()V"⟩
def RX3 : String := "ApologyBricks$Scene"
def TX3 : u_T := fun k => match k with
  | 0 => ("ApologyBricks$Scene", "bricks", "I", false)
  | 1 => ("ApologyBricks$Scene", "what", "[I", true)
  | 2 => ("ApologyBricks$Scene", "worth", "[I", true)
  | 3 => ("ApologyBricks$Scene", "column", "[I", true)
  | _ => ("ApologyBricks$Scene", "course", "[I", true)
def tyX3 : Nat → FieldType := fun k => match k with
  | 0 => .int
  | 1 => .array .int
  | 2 => .array .int
  | 3 => .array .int
  | _ => .array .int
abbrev wsX30 : List Cond := u_ws RX3 TX3 5
theorem nmX3 : ∀ a, a < 5 → ∀ b, b < 5 → a ≠ b → (TX3 a).2.1 ≠ (TX3 b).2.1 := by decide +kernel
theorem tyX3_ok : ∀ k, k < 5 → parseFieldDescriptor (TX3 k).2.2.1 = some (tyX3 k) := by decide +kernel
abbrev cX3_init : ByteArray := prog_5_method_1_code
def yX3_init : MethodName := ⟨RX3, "<init>", "()V"⟩
abbrev cX3_begin : ByteArray := prog_5_method_2_code
def yX3_begin : MethodName := ⟨RX3, "begin", "(LApologyBricks$Told;)V"⟩
abbrev cX3_become : ByteArray := prog_5_method_3_code
def yX3_become : MethodName := ⟨RX3, "become", "(LApologyBricks$Scene;)V"⟩
abbrev cX3_howMany : ByteArray := prog_5_method_4_code
def yX3_howMany : MethodName := ⟨RX3, "howMany", "(I)I"⟩
abbrev cX3_height : ByteArray := prog_5_method_5_code
def yX3_height : MethodName := ⟨RX3, "height", "(I)I"⟩
abbrev cX3_brickAt : ByteArray := prog_5_method_6_code
def yX3_brickAt : MethodName := ⟨RX3, "brickAt", "(II)I"⟩
def RX4 : String := "ApologyBricks$Story"
def TX4 : u_T := fun k => match k with
  | 0 => ("ApologyBricks$Story", "scene", "LApologyBricks$Scene;", true)
  | 1 => ("ApologyBricks$Story", "past", "[LApologyBricks$Scene;", true)
  | _ => ("ApologyBricks$Story", "known", "I", false)
def tyX4 : Nat → FieldType := fun k => match k with
  | 0 => .object "ApologyBricks$Scene"
  | 1 => .array (.object "ApologyBricks$Scene")
  | _ => .int
abbrev wsX40 : List Cond := u_ws RX4 TX4 3
theorem nmX4 : ∀ a, a < 3 → ∀ b, b < 3 → a ≠ b → (TX4 a).2.1 ≠ (TX4 b).2.1 := by decide +kernel
theorem tyX4_ok : ∀ k, k < 3 → parseFieldDescriptor (TX4 k).2.2.1 = some (tyX4 k) := by decide +kernel
abbrev cX4_init : ByteArray := prog_6_method_1_code
def yX4_init : MethodName := ⟨RX4, "<init>", "()V"⟩
abbrev cX4_begin : ByteArray := prog_6_method_2_code
def yX4_begin : MethodName := ⟨RX4, "begin", "(LApologyBricks$Told;)V"⟩
abbrev cX4_remember : ByteArray := prog_6_method_3_code
def yX4_remember : MethodName := ⟨RX4, "remember", "()V"⟩
abbrev cX4_dropOldest : ByteArray := prog_6_method_4_code
def yX4_dropOldest : MethodName := ⟨RX4, "dropOldest", "()V"⟩
abbrev cX4_stepBack : ByteArray := prog_6_method_5_code
def yX4_stepBack : MethodName := ⟨RX4, "stepBack", "()V"⟩
abbrev cX4_become : ByteArray := prog_6_method_6_code
def yX4_become : MethodName := ⟨RX4, "become", "(LApologyBricks$Story;)V"⟩
def RX5 : String := "ApologyBricks$Told"
def TX5 : u_T := fun k => match k with
  | 0 => ("ApologyBricks$Told", "columns", "I", false)
  | 1 => ("ApologyBricks$Told", "courses", "I", false)
  | 2 => ("ApologyBricks$Told", "bricks", "I", false)
  | 3 => ("ApologyBricks$Told", "judges", "I", false)
  | 4 => ("ApologyBricks$Told", "sorts", "I", false)
  | 5 => ("ApologyBricks$Told", "kin", "[I", true)
  | 6 => ("ApologyBricks$Told", "shape", "[I", true)
  | 7 => ("ApologyBricks$Told", "holder", "[I", true)
  | 8 => ("ApologyBricks$Told", "worth", "[I", true)
  | 9 => ("ApologyBricks$Told", "ear", "[I", true)
  | _ => ("ApologyBricks$Told", "sortWorth", "[I", true)
def tyX5 : Nat → FieldType := fun k => match k with
  | 0 => .int
  | 1 => .int
  | 2 => .int
  | 3 => .int
  | 4 => .int
  | 5 => .array .int
  | 6 => .array .int
  | 7 => .array .int
  | 8 => .array .int
  | 9 => .array .int
  | _ => .array .int
abbrev wsX50 : List Cond := u_ws RX5 TX5 11
theorem nmX5 : ∀ a, a < 11 → ∀ b, b < 11 → a ≠ b → (TX5 a).2.1 ≠ (TX5 b).2.1 := by decide +kernel
theorem tyX5_ok : ∀ k, k < 11 → parseFieldDescriptor (TX5 k).2.2.1 = some (tyX5 k) := by decide +kernel
abbrev cX5_init : ByteArray := prog_7_method_1_code
def yX5_init : MethodName := ⟨RX5, "<init>", "()V"⟩
abbrev cX5_reset : ByteArray := prog_7_method_2_code
def yX5_reset : MethodName := ⟨RX5, "reset", "()V"⟩
abbrev cX5_join : ByteArray := prog_7_method_3_code
def yX5_join : MethodName := ⟨RX5, "join", "(II)V"⟩
abbrev cX5_reach : ByteArray := prog_7_method_4_code
def yX5_reach : MethodName := ⟨RX5, "reach", "(I)I"⟩
abbrev cX5_isFor : ByteArray := prog_7_method_5_code
def yX5_isFor : MethodName := ⟨RX5, "isFor", "(II)Z"⟩
abbrev cX5_judgesFor : ByteArray := prog_7_method_6_code
def yX5_judgesFor : MethodName := ⟨RX5, "judgesFor", "(I)I"⟩
abbrev cX5_holds : ByteArray := prog_7_method_7_code
def yX5_holds : MethodName := ⟨RX5, "holds", "(I)Z"⟩
def RX6 : String := "ApologyBricks$Wording"
def TX6 : u_T := fun k => match k with
  | _ => ("ApologyBricks$Wording", "row", "[I", true)
def tyX6 : Nat → FieldType := fun k => match k with
  | _ => .array .int
abbrev wsX60 : List Cond := u_ws RX6 TX6 1
theorem nmX6 : ∀ a, a < 1 → ∀ b, b < 1 → a ≠ b → (TX6 a).2.1 ≠ (TX6 b).2.1 := by decide +kernel
theorem tyX6_ok : ∀ k, k < 1 → parseFieldDescriptor (TX6 k).2.2.1 = some (tyX6 k) := by decide +kernel
abbrev cX6_init : ByteArray := prog_8_method_1_code
def yX6_init : MethodName := ⟨RX6, "<init>", "()V"⟩
abbrev cX6_shortest : ByteArray := prog_8_method_2_code
def yX6_shortest : MethodName := ⟨RX6, "shortest", "(LApologyBricks$Told;I)I"⟩
abbrev cX6_fill : ByteArray := prog_8_method_3_code
def yX6_fill : MethodName := ⟨RX6, "fill", "(LApologyBricks$Told;III)Z"⟩
def RX7 : String := "ApologyBricks"
def TX7 : u_T := fun k => match k with
  | 0 => ("ApologyBricks", "reader", "LApologyBricks$Reader;", true)
  | 1 => ("ApologyBricks", "told", "LApologyBricks$Told;", false)
  | 2 => ("ApologyBricks", "draft", "LApologyBricks$Told;", false)
  | 3 => ("ApologyBricks", "story", "LApologyBricks$Story;", true)
  | 4 => ("ApologyBricks", "images", "[LApologyBricks$Story;", true)
  | 5 => ("ApologyBricks", "kept", "[Z", true)
  | 6 => ("ApologyBricks", "hearing", "LApologyBricks$Hearing;", true)
  | 7 => ("ApologyBricks", "plan", "LApologyBricks$Plan;", true)
  | 8 => ("ApologyBricks", "wording", "LApologyBricks$Wording;", true)
  | 9 => ("ApologyBricks", "chances", "[J", true)
  | _ => ("ApologyBricks", "asked", "J", false)
def tyX7 : Nat → FieldType := fun k => match k with
  | 0 => .object "ApologyBricks$Reader"
  | 1 => .object "ApologyBricks$Told"
  | 2 => .object "ApologyBricks$Told"
  | 3 => .object "ApologyBricks$Story"
  | 4 => .array (.object "ApologyBricks$Story")
  | 5 => .array .boolean
  | 6 => .object "ApologyBricks$Hearing"
  | 7 => .object "ApologyBricks$Plan"
  | 8 => .object "ApologyBricks$Wording"
  | 9 => .array .long
  | _ => .long
abbrev wsX70 : List Cond := u_ws RX7 TX7 11
theorem nmX7 : ∀ a, a < 11 → ∀ b, b < 11 → a ≠ b → (TX7 a).2.1 ≠ (TX7 b).2.1 := by decide +kernel
theorem tyX7_ok : ∀ k, k < 11 → parseFieldDescriptor (TX7 k).2.2.1 = some (tyX7 k) := by decide +kernel
abbrev cX7_init : ByteArray := prog_1_method_1_code
def yX7_init : MethodName := ⟨RX7, "<init>", "()V"⟩
abbrev cX7_type : ByteArray := prog_1_method_2_code
def yX7_type : MethodName := ⟨RX7, "type", "(I)I"⟩
abbrev cX7_clear : ByteArray := prog_1_method_3_code
def yX7_clear : MethodName := ⟨RX7, "clear", "()I"⟩
abbrev cX7_chapter : ByteArray := prog_1_method_4_code
def yX7_chapter : MethodName := ⟨RX7, "chapter", "()I"⟩
abbrev cX7_brick : ByteArray := prog_1_method_5_code
def yX7_brick : MethodName := ⟨RX7, "brick", "(II)I"⟩
abbrev cX7_place : ByteArray := prog_1_method_6_code
def yX7_place : MethodName := ⟨RX7, "place", "(II)I"⟩
abbrev cX7_kin : ByteArray := prog_1_method_7_code
def yX7_kin : MethodName := ⟨RX7, "kin", "(I)I"⟩
abbrev cX7_judge : ByteArray := prog_1_method_8_code
def yX7_judge : MethodName := ⟨RX7, "judge", "(II)I"⟩
abbrev cX7_prompts : ByteArray := prog_1_method_9_code
def yX7_prompts : MethodName := ⟨RX7, "prompts", "(I)I"⟩
abbrev cX7_reads : ByteArray := prog_1_method_10_code
def yX7_reads : MethodName := ⟨RX7, "reads", "(I)I"⟩
abbrev cX7_writes : ByteArray := prog_1_method_11_code
def yX7_writes : MethodName := ⟨RX7, "writes", "(II)I"⟩
abbrev cX7_lays : ByteArray := prog_1_method_12_code
def yX7_lays : MethodName := ⟨RX7, "lays", "(II)I"⟩
abbrev cX7_falls : ByteArray := prog_1_method_13_code
def yX7_falls : MethodName := ⟨RX7, "falls", "(I)I"⟩
abbrev cX7_undo : ByteArray := prog_1_method_14_code
def yX7_undo : MethodName := ⟨RX7, "undo", "()I"⟩
abbrev cX7_now : ByteArray := prog_1_method_15_code
def yX7_now : MethodName := ⟨RX7, "now", "(I)I"⟩
abbrev cX7_wall : ByteArray := prog_1_method_16_code
def yX7_wall : MethodName := ⟨RX7, "wall", "(I)I"⟩
abbrev cX7_letters : ByteArray := prog_1_method_17_code
def yX7_letters : MethodName := ⟨RX7, "letters", "(I)I"⟩
abbrev cX7_apology : ByteArray := prog_1_method_18_code
def yX7_apology : MethodName := ⟨RX7, "apology", "(II)I"⟩
abbrev cX7_turn : ByteArray := prog_1_method_19_code
def yX7_turn : MethodName := ⟨RX7, "turn", "(II)I"⟩
abbrev cX7_odds : ByteArray := prog_1_method_20_code
def yX7_odds : MethodName := ⟨RX7, "odds", "(II)I"⟩
abbrev cX7_hears : ByteArray := prog_1_method_21_code
def yX7_hears : MethodName := ⟨RX7, "hears", "(II)I"⟩
abbrev cX7_forget : ByteArray := prog_1_method_22_code
def yX7_forget : MethodName := ⟨RX7, "forget", "()I"⟩
abbrev cX7_worths : ByteArray := prog_1_method_23_code
def yX7_worths : MethodName := ⟨RX7, "worths", "(I)I"⟩
abbrev cX7_ask : ByteArray := prog_1_method_24_code
def yX7_ask : MethodName := ⟨RX7, "ask", "()I"⟩
abbrev cX7_mark : ByteArray := prog_1_method_25_code
def yX7_mark : MethodName := ⟨RX7, "mark", "(II)I"⟩
abbrev cX7_keep : ByteArray := prog_1_method_26_code
def yX7_keep : MethodName := ⟨RX7, "keep", "(I)I"⟩
abbrev cX7_back : ByteArray := prog_1_method_27_code
def yX7_back : MethodName := ⟨RX7, "back", "(I)I"⟩
abbrev cX7_count : ByteArray := prog_1_method_28_code
def yX7_count : MethodName := ⟨RX7, "count", "(I)I"⟩
abbrev cX7_trace : ByteArray := prog_1_method_29_code
def yX7_trace : MethodName := ⟨RX7, "trace", "()J"⟩
abbrev cX7_noBrick : ByteArray := prog_1_method_30_code
def yX7_noBrick : MethodName := ⟨RX7, "noBrick", "(I)Z"⟩
abbrev cX7_noColumn : ByteArray := prog_1_method_31_code
def yX7_noColumn : MethodName := ⟨RX7, "noColumn", "(I)Z"⟩
abbrev cX7_noJudge : ByteArray := prog_1_method_32_code
def yX7_noJudge : MethodName := ⟨RX7, "noJudge", "(I)Z"⟩
abbrev cX7_noHolder : ByteArray := prog_1_method_33_code
def yX7_noHolder : MethodName := ⟨RX7, "noHolder", "(I)Z"⟩
abbrev cX7_noImage : ByteArray := prog_1_method_34_code
def yX7_noImage : MethodName := ⟨RX7, "noImage", "(I)Z"⟩
abbrev cX7_hasBit : ByteArray := prog_1_method_35_code
def yX7_hasBit : MethodName := ⟨RX7, "hasBit", "(II)Z"⟩
abbrev cX7_shapeAt : ByteArray := prog_1_method_36_code
def yX7_shapeAt : MethodName := ⟨RX7, "shapeAt", "(II)I"⟩
abbrev cX7_fits : ByteArray := prog_1_method_37_code
def yX7_fits : MethodName := ⟨RX7, "fits", "(I)I"⟩
abbrev cX7_wouldHold : ByteArray := prog_1_method_38_code
def yX7_wouldHold : MethodName := ⟨RX7, "wouldHold", "(I)I"⟩
abbrev cX7_spreadChances : ByteArray := prog_1_method_39_code
def yX7_spreadChances : MethodName := ⟨RX7, "spreadChances", "(II)V"⟩
abbrev cX7_markOfBrick : ByteArray := prog_1_method_40_code
def yX7_markOfBrick : MethodName := ⟨RX7, "markOfBrick", "(I)I"⟩
abbrev cX7_markOfArch : ByteArray := prog_1_method_41_code
def yX7_markOfArch : MethodName := ⟨RX7, "markOfArch", "(I)I"⟩
abbrev cX7_markOfFont : ByteArray := prog_1_method_42_code
def yX7_markOfFont : MethodName := ⟨RX7, "markOfFont", "(I)I"⟩
abbrev cX7_markOfVault : ByteArray := prog_1_method_43_code
def yX7_markOfVault : MethodName := ⟨RX7, "markOfVault", "(I)I"⟩
abbrev cX7_markOfStep : ByteArray := prog_1_method_44_code
def yX7_markOfStep : MethodName := ⟨RX7, "markOfStep", "(I)I"⟩
abbrev cX7_markOfChapel : ByteArray := prog_1_method_45_code
def yX7_markOfChapel : MethodName := ⟨RX7, "markOfChapel", "(I)I"⟩
def RX8 : String := "ApologyBricksModel"
def TX8 : u_T := fun k => match k with
  | 0 => ("ApologyBricksModel", "text", "[B", true)
  | 1 => ("ApologyBricksModel", "typed", "I", false)
  | 2 => ("ApologyBricksModel", "size", "[I", true)
  | 3 => ("ApologyBricksModel", "kins", "[I", true)
  | 4 => ("ApologyBricksModel", "bricks", "[I", true)
  | 5 => ("ApologyBricksModel", "shape", "[I", true)
  | 6 => ("ApologyBricksModel", "holder", "[I", true)
  | 7 => ("ApologyBricksModel", "worth", "[I", true)
  | 8 => ("ApologyBricksModel", "judges", "[I", true)
  | 9 => ("ApologyBricksModel", "ear", "[I", true)
  | 10 => ("ApologyBricksModel", "sorts", "[I", true)
  | 11 => ("ApologyBricksModel", "word", "[I", true)
  | 12 => ("ApologyBricksModel", "at", "I", false)
  | 13 => ("ApologyBricksModel", "stands", "I", false)
  | 14 => ("ApologyBricksModel", "sort", "I", false)
  | 15 => ("ApologyBricksModel", "value", "I", false)
  | 16 => ("ApologyBricksModel", "isWrong", "Z", false)
  | 17 => ("ApologyBricksModel", "items", "I", false)
  | 18 => ("ApologyBricksModel", "now", "[I", true)
  | 19 => ("ApologyBricksModel", "known", "[I", true)
  | 20 => ("ApologyBricksModel", "before", "[I", true)
  | 21 => ("ApologyBricksModel", "store", "[I", true)
  | 22 => ("ApologyBricksModel", "isKept", "[Z", true)
  | 23 => ("ApologyBricksModel", "there", "[I", true)
  | 24 => ("ApologyBricksModel", "takes", "[I", true)
  | 25 => ("ApologyBricksModel", "factOf", "[I", true)
  | 26 => ("ApologyBricksModel", "factIs", "[I", true)
  | 27 => ("ApologyBricksModel", "facts", "I", false)
  | _ => ("ApologyBricksModel", "trace", "J", false)
def tyX8 : Nat → FieldType := fun k => match k with
  | 0 => .array .byte
  | 1 => .int
  | 2 => .array .int
  | 3 => .array .int
  | 4 => .array .int
  | 5 => .array .int
  | 6 => .array .int
  | 7 => .array .int
  | 8 => .array .int
  | 9 => .array .int
  | 10 => .array .int
  | 11 => .array .int
  | 12 => .int
  | 13 => .int
  | 14 => .int
  | 15 => .int
  | 16 => .boolean
  | 17 => .int
  | 18 => .array .int
  | 19 => .array .int
  | 20 => .array .int
  | 21 => .array .int
  | 22 => .array .boolean
  | 23 => .array .int
  | 24 => .array .int
  | 25 => .array .int
  | 26 => .array .int
  | 27 => .int
  | _ => .long
abbrev wsX80 : List Cond := u_ws RX8 TX8 29
theorem nmX8 : ∀ a, a < 29 → ∀ b, b < 29 → a ≠ b → (TX8 a).2.1 ≠ (TX8 b).2.1 := by decide +kernel
theorem tyX8_ok : ∀ k, k < 29 → parseFieldDescriptor (TX8 k).2.2.1 = some (tyX8 k) := by decide +kernel
abbrev cX8_init : ByteArray := prog_10_method_1_code
def yX8_init : MethodName := ⟨RX8, "<init>", "()V"⟩
abbrev cX8_in : ByteArray := prog_10_method_3_code
def yX8_in : MethodName := ⟨RX8, "in", "(III)Z"⟩
abbrev cX8_has : ByteArray := prog_10_method_4_code
def yX8_has : MethodName := ⟨RX8, "has", "(II)Z"⟩
abbrev cX8_bitsOf : ByteArray := prog_10_method_5_code
def yX8_bitsOf : MethodName := ⟨RX8, "bitsOf", "(I)I"⟩
abbrev cX8_type : ByteArray := prog_10_method_6_code
def yX8_type : MethodName := ⟨RX8, "type", "(I)I"⟩
abbrev cX8_clear : ByteArray := prog_10_method_7_code
def yX8_clear : MethodName := ⟨RX8, "clear", "()I"⟩
abbrev cX8_here : ByteArray := prog_10_method_8_code
def yX8_here : MethodName := ⟨RX8, "here", "()I"⟩
abbrev cX8_step : ByteArray := prog_10_method_9_code
def yX8_step : MethodName := ⟨RX8, "step", "()V"⟩
abbrev cX8_due : ByteArray := prog_10_method_10_code
def yX8_due : MethodName := ⟨RX8, "due", "(Z)V"⟩
abbrev cX8_number : ByteArray := prog_10_method_11_code
def yX8_number : MethodName := ⟨RX8, "number", "(II)I"⟩
abbrev cX8_readKin : ByteArray := prog_10_method_12_code
def yX8_readKin : MethodName := ⟨RX8, "readKin", "()V"⟩
abbrev cX8_item : ByteArray := prog_10_method_13_code
def yX8_item : MethodName := ⟨RX8, "item", "(I)V"⟩
abbrev cX8_may : ByteArray := prog_10_method_14_code
def yX8_may : MethodName := ⟨RX8, "may", "(I)Z"⟩
abbrev cX8_read : ByteArray := prog_10_method_15_code
def yX8_read : MethodName := ⟨RX8, "read", "()V"⟩
abbrev cX8_chapter : ByteArray := prog_10_method_16_code
def yX8_chapter : MethodName := ⟨RX8, "chapter", "()I"⟩
abbrev cX8_isBrick : ByteArray := prog_10_method_17_code
def yX8_isBrick : MethodName := ⟨RX8, "isBrick", "(I)Z"⟩
abbrev cX8_isColumn : ByteArray := prog_10_method_18_code
def yX8_isColumn : MethodName := ⟨RX8, "isColumn", "(I)Z"⟩
abbrev cX8_isJudge : ByteArray := prog_10_method_19_code
def yX8_isJudge : MethodName := ⟨RX8, "isJudge", "(I)Z"⟩
abbrev cX8_shapeOf : ByteArray := prog_10_method_20_code
def yX8_shapeOf : MethodName := ⟨RX8, "shapeOf", "(II)I"⟩
abbrev cX8_heightOf : ByteArray := prog_10_method_21_code
def yX8_heightOf : MethodName := ⟨RX8, "heightOf", "(I)I"⟩
abbrev cX8_doesFit : ByteArray := prog_10_method_22_code
def yX8_doesFit : MethodName := ⟨RX8, "doesFit", "(II)Z"⟩
abbrev cX8_manyOf : ByteArray := prog_10_method_23_code
def yX8_manyOf : MethodName := ⟨RX8, "manyOf", "(I)I"⟩
abbrev cX8_brick : ByteArray := prog_10_method_24_code
def yX8_brick : MethodName := ⟨RX8, "brick", "(II)I"⟩
abbrev cX8_place : ByteArray := prog_10_method_25_code
def yX8_place : MethodName := ⟨RX8, "place", "(II)I"⟩
abbrev cX8_kin : ByteArray := prog_10_method_26_code
def yX8_kin : MethodName := ⟨RX8, "kin", "(I)I"⟩
abbrev cX8_judge : ByteArray := prog_10_method_27_code
def yX8_judge : MethodName := ⟨RX8, "judge", "(II)I"⟩
abbrev cX8_know : ByteArray := prog_10_method_28_code
def yX8_know : MethodName := ⟨RX8, "know", "()V"⟩
abbrev cX8_doesCome : ByteArray := prog_10_method_29_code
def yX8_doesCome : MethodName := ⟨RX8, "doesCome", "(II)Z"⟩
abbrev cX8_prompts : ByteArray := prog_10_method_30_code
def yX8_prompts : MethodName := ⟨RX8, "prompts", "(I)I"⟩
abbrev cX8_forOf : ByteArray := prog_10_method_31_code
def yX8_forOf : MethodName := ⟨RX8, "forOf", "(I)I"⟩
abbrev cX8_isHeldBy : ByteArray := prog_10_method_32_code
def yX8_isHeldBy : MethodName := ⟨RX8, "isHeldBy", "(I)Z"⟩
abbrev cX8_reads : ByteArray := prog_10_method_33_code
def yX8_reads : MethodName := ⟨RX8, "reads", "(I)I"⟩
abbrev cX8_writes : ByteArray := prog_10_method_34_code
def yX8_writes : MethodName := ⟨RX8, "writes", "(II)I"⟩
abbrev cX8_lays : ByteArray := prog_10_method_35_code
def yX8_lays : MethodName := ⟨RX8, "lays", "(II)I"⟩
abbrev cX8_falls : ByteArray := prog_10_method_36_code
def yX8_falls : MethodName := ⟨RX8, "falls", "(I)I"⟩
abbrev cX8_undo : ByteArray := prog_10_method_37_code
def yX8_undo : MethodName := ⟨RX8, "undo", "()I"⟩
abbrev cX8_now : ByteArray := prog_10_method_38_code
def yX8_now : MethodName := ⟨RX8, "now", "(I)I"⟩
abbrev cX8_countHeld : ByteArray := prog_10_method_39_code
def yX8_countHeld : MethodName := ⟨RX8, "countHeld", "()V"⟩
abbrev cX8_placesOf : ByteArray := prog_10_method_40_code
def yX8_placesOf : MethodName := ⟨RX8, "placesOf", "(IIII)I"⟩
abbrev cX8_tellTakes : ByteArray := prog_10_method_41_code
def yX8_tellTakes : MethodName := ⟨RX8, "tellTakes", "()V"⟩
abbrev cX8_mostFrom : ByteArray := prog_10_method_42_code
def yX8_mostFrom : MethodName := ⟨RX8, "mostFrom", "(IIII)I"⟩
abbrev cX8_mostOf : ByteArray := prog_10_method_43_code
def yX8_mostOf : MethodName := ⟨RX8, "mostOf", "()I"⟩
abbrev cX8_wall : ByteArray := prog_10_method_44_code
def yX8_wall : MethodName := ⟨RX8, "wall", "(I)I"⟩
abbrev cX8_letters : ByteArray := prog_10_method_45_code
def yX8_letters : MethodName := ⟨RX8, "letters", "(I)I"⟩
abbrev cX8_isOfWorth : ByteArray := prog_10_method_46_code
def yX8_isOfWorth : MethodName := ⟨RX8, "isOfWorth", "(III)Z"⟩
abbrev cX8_apology : ByteArray := prog_10_method_47_code
def yX8_apology : MethodName := ⟨RX8, "apology", "(II)I"⟩
abbrev cX8_turn : ByteArray := prog_10_method_48_code
def yX8_turn : MethodName := ⟨RX8, "turn", "(II)I"⟩
abbrev cX8_odds : ByteArray := prog_10_method_49_code
def yX8_odds : MethodName := ⟨RX8, "odds", "(II)I"⟩
abbrev cX8_hears : ByteArray := prog_10_method_50_code
def yX8_hears : MethodName := ⟨RX8, "hears", "(II)I"⟩
abbrev cX8_forget : ByteArray := prog_10_method_51_code
def yX8_forget : MethodName := ⟨RX8, "forget", "()I"⟩
abbrev cX8_isSo : ByteArray := prog_10_method_52_code
def yX8_isSo : MethodName := ⟨RX8, "isSo", "(I)Z"⟩
abbrev cX8_worths : ByteArray := prog_10_method_53_code
def yX8_worths : MethodName := ⟨RX8, "worths", "(I)I"⟩
abbrev cX8_ask : ByteArray := prog_10_method_54_code
def yX8_ask : MethodName := ⟨RX8, "ask", "()I"⟩
abbrev cX8_bodiesOf : ByteArray := prog_10_method_55_code
def yX8_bodiesOf : MethodName := ⟨RX8, "bodiesOf", "(I)I"⟩
abbrev cX8_mark : ByteArray := prog_10_method_56_code
def yX8_mark : MethodName := ⟨RX8, "mark", "(II)I"⟩
abbrev cX8_trace : ByteArray := prog_10_method_57_code
def yX8_trace : MethodName := ⟨RX8, "trace", "()J"⟩
abbrev cX8_keep : ByteArray := prog_10_method_58_code
def yX8_keep : MethodName := ⟨RX8, "keep", "(I)I"⟩
abbrev cX8_back : ByteArray := prog_10_method_59_code
def yX8_back : MethodName := ⟨RX8, "back", "(I)I"⟩
abbrev cX8_count : ByteArray := prog_10_method_60_code
def yX8_count : MethodName := ⟨RX8, "count", "(I)I"⟩
def RJ6 : String := "java/lang/Integer"
abbrev cJ6_bitCount_0f7a4 : ByteArray := prog_11_method_49_code
def yJ6_bitCount_0f7a4 : MethodName := ⟨RJ6, "bitCount", "(I)I"⟩
def RJ9 : String := "java/lang/Math"
abbrev cJ9_max_7cf53 : ByteArray := prog_12_method_65_code
def yJ9_max_7cf53 : MethodName := ⟨RJ9, "max", "(II)I"⟩
def RJ10 : String := "java/lang/System"
def RJ7 : String := "java/util/Arrays"
abbrev cJ7_fill_d0a16 : ByteArray := prog_14_method_101_code
def yJ7_fill_d0a16 : MethodName := ⟨RJ7, "fill", "([JJ)V"⟩
abbrev cJ7_fill_53178 : ByteArray := prog_14_method_103_code
def yJ7_fill_53178 : MethodName := ⟨RJ7, "fill", "([II)V"⟩
def RL : String := "ApologyBricksLaw"
abbrev cL_law : ByteArray := code
def yL_law : MethodName := ⟨RL, "law", "([I)Z"⟩
abbrev vwCl : List vw_C := [(RX0, TX0, 3), (RX1, TX1, 6), (RX2, TX2, 6), (RX3, TX3, 5), (RX4, TX4, 3), (RX5, TX5, 11), (RX6, TX6, 1), (RX7, TX7, 11), (RX8, TX8, 29)]
theorem inX0 : ∀ w ∈ u_ws RX0 TX0 3, w ∈ lw_tbl := by decide +kernel
theorem inX1 : ∀ w ∈ u_ws RX1 TX1 6, w ∈ lw_tbl := by decide +kernel
theorem inX2 : ∀ w ∈ u_ws RX2 TX2 6, w ∈ lw_tbl := by decide +kernel
theorem inX3 : ∀ w ∈ u_ws RX3 TX3 5, w ∈ lw_tbl := by decide +kernel
theorem inX4 : ∀ w ∈ u_ws RX4 TX4 3, w ∈ lw_tbl := by decide +kernel
theorem inX5 : ∀ w ∈ u_ws RX5 TX5 11, w ∈ lw_tbl := by decide +kernel
theorem inX6 : ∀ w ∈ u_ws RX6 TX6 1, w ∈ lw_tbl := by decide +kernel
theorem inX7 : ∀ w ∈ u_ws RX7 TX7 11, w ∈ lw_tbl := by decide +kernel
theorem inX8 : ∀ w ∈ u_ws RX8 TX8 29, w ∈ lw_tbl := by decide +kernel
