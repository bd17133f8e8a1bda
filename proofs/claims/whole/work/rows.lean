section
/-- a private method of a class that the tables say can be made, by its rows of tables_1 -/
def lw_okq (q : MethodName × Nat) : Prop := (q.1.cls ≠ "java/lang/invoke/MethodHandle" ∧ q.1.cls ≠ "java/lang/invoke/VarHandle") ∧ Cond.instantiable q.1.cls q.2 ∈ tables_1 ∧ Cond.privateMethod q.1 ∈ tables_1 ∧ Cond.instanceMethod q.1 ∈ tables_1
theorem lw_p0 : lw_okq (⟨"FibreLoops$History", "holdBack", "(LFibreLoops$State;)V"⟩, 2) := ⟨⟨by decide +kernel, by decide +kernel⟩, List.mem_of_getElem? (i := 174) (by decide +kernel), List.mem_of_getElem? (i := 258) (by decide +kernel), List.mem_of_getElem? (i := 259) (by decide +kernel)⟩
theorem lw_p1 : lw_okq (⟨"FibreLoops$State", "copyFrom", "(LFibreLoops$State;)V"⟩, 8) := ⟨⟨by decide +kernel, by decide +kernel⟩, List.mem_of_getElem? (i := 21) (by decide +kernel), List.mem_of_getElem? (i := 262) (by decide +kernel), List.mem_of_getElem? (i := 263) (by decide +kernel)⟩
theorem lw_p2 : lw_okq (⟨"FibreLoops$Ring", "copyFrom", "(LFibreLoops$Ring;)V"⟩, 5) := ⟨⟨by decide +kernel, by decide +kernel⟩, List.mem_of_getElem? (i := 43) (by decide +kernel), List.mem_of_getElem? (i := 266) (by decide +kernel), List.mem_of_getElem? (i := 267) (by decide +kernel)⟩
theorem lw_p3 : lw_okq (⟨"FibreLoops$Device", "copyFrom", "(LFibreLoops$Device;)V"⟩, 9) := ⟨⟨by decide +kernel, by decide +kernel⟩, List.mem_of_getElem? (i := 66) (by decide +kernel), List.mem_of_getElem? (i := 271) (by decide +kernel), List.mem_of_getElem? (i := 272) (by decide +kernel)⟩
theorem lw_p4 : lw_okq (⟨"FibreLoops$Join", "copyFrom", "(LFibreLoops$Join;)V"⟩, 6) := ⟨⟨by decide +kernel, by decide +kernel⟩, List.mem_of_getElem? (i := 110) (by decide +kernel), List.mem_of_getElem? (i := 276) (by decide +kernel), List.mem_of_getElem? (i := 277) (by decide +kernel)⟩
theorem lw_p5 : lw_okq (⟨"FibreLoops$State", "changeSetting", "(II)I"⟩, 8) := ⟨⟨by decide +kernel, by decide +kernel⟩, List.mem_of_getElem? (i := 21) (by decide +kernel), List.mem_of_getElem? (i := 280) (by decide +kernel), List.mem_of_getElem? (i := 281) (by decide +kernel)⟩
theorem lw_p6 : lw_okq (⟨"FibreLoops$History", "keepIfDone", "(I)I"⟩, 2) := ⟨⟨by decide +kernel, by decide +kernel⟩, List.mem_of_getElem? (i := 174) (by decide +kernel), List.mem_of_getElem? (i := 291) (by decide +kernel), List.mem_of_getElem? (i := 292) (by decide +kernel)⟩
theorem lw_p7 : lw_okq (⟨"FibreLoops$History", "dropOldest", "()V"⟩, 2) := ⟨⟨by decide +kernel, by decide +kernel⟩, List.mem_of_getElem? (i := 174) (by decide +kernel), List.mem_of_getElem? (i := 295) (by decide +kernel), List.mem_of_getElem? (i := 296) (by decide +kernel)⟩
theorem lw_p8 : lw_okq (⟨"FibreLoops$State", "addRing", "(I)I"⟩, 8) := ⟨⟨by decide +kernel, by decide +kernel⟩, List.mem_of_getElem? (i := 21) (by decide +kernel), List.mem_of_getElem? (i := 303) (by decide +kernel), List.mem_of_getElem? (i := 304) (by decide +kernel)⟩
theorem lw_p9 : lw_okq (⟨"FibreLoops$Ring", "begin", "(I)V"⟩, 5) := ⟨⟨by decide +kernel, by decide +kernel⟩, List.mem_of_getElem? (i := 43) (by decide +kernel), List.mem_of_getElem? (i := 307) (by decide +kernel), List.mem_of_getElem? (i := 308) (by decide +kernel)⟩
theorem lw_p10 : lw_okq (⟨"FibreLoops$State", "addDevice", "(IIIII)I"⟩, 8) := ⟨⟨by decide +kernel, by decide +kernel⟩, List.mem_of_getElem? (i := 21) (by decide +kernel), List.mem_of_getElem? (i := 315) (by decide +kernel), List.mem_of_getElem? (i := 316) (by decide +kernel)⟩
theorem lw_p11 : lw_okq (⟨"FibreLoops$State", "ringWith", "(II)LFibreLoops$Ring;"⟩, 8) := ⟨⟨by decide +kernel, by decide +kernel⟩, List.mem_of_getElem? (i := 21) (by decide +kernel), List.mem_of_getElem? (i := 319) (by decide +kernel), List.mem_of_getElem? (i := 320) (by decide +kernel)⟩
theorem lw_p12 : lw_okq (⟨"FibreLoops$State", "ringOf", "(I)LFibreLoops$Ring;"⟩, 8) := ⟨⟨by decide +kernel, by decide +kernel⟩, List.mem_of_getElem? (i := 21) (by decide +kernel), List.mem_of_getElem? (i := 323) (by decide +kernel), List.mem_of_getElem? (i := 324) (by decide +kernel)⟩
theorem lw_p13 : lw_okq (⟨"FibreLoops$Ring", "has", "(I)Z"⟩, 5) := ⟨⟨by decide +kernel, by decide +kernel⟩, List.mem_of_getElem? (i := 43) (by decide +kernel), List.mem_of_getElem? (i := 327) (by decide +kernel), List.mem_of_getElem? (i := 328) (by decide +kernel)⟩
theorem lw_p14 : lw_okq (⟨"FibreLoops$Device", "begin", "(IIIII)V"⟩, 9) := ⟨⟨by decide +kernel, by decide +kernel⟩, List.mem_of_getElem? (i := 66) (by decide +kernel), List.mem_of_getElem? (i := 338) (by decide +kernel), List.mem_of_getElem? (i := 339) (by decide +kernel)⟩
theorem lw_p15 : lw_okq (⟨"FibreLoops$State", "addJoin", "(IIII)I"⟩, 8) := ⟨⟨by decide +kernel, by decide +kernel⟩, List.mem_of_getElem? (i := 21) (by decide +kernel), List.mem_of_getElem? (i := 346) (by decide +kernel), List.mem_of_getElem? (i := 347) (by decide +kernel)⟩
def lw_privs_1 : List (MethodName × Nat) := [(⟨"FibreLoops$History", "holdBack", "(LFibreLoops$State;)V"⟩, 2), (⟨"FibreLoops$State", "copyFrom", "(LFibreLoops$State;)V"⟩, 8), (⟨"FibreLoops$Ring", "copyFrom", "(LFibreLoops$Ring;)V"⟩, 5), (⟨"FibreLoops$Device", "copyFrom", "(LFibreLoops$Device;)V"⟩, 9), (⟨"FibreLoops$Join", "copyFrom", "(LFibreLoops$Join;)V"⟩, 6), (⟨"FibreLoops$State", "changeSetting", "(II)I"⟩, 8), (⟨"FibreLoops$History", "keepIfDone", "(I)I"⟩, 2), (⟨"FibreLoops$History", "dropOldest", "()V"⟩, 2), (⟨"FibreLoops$State", "addRing", "(I)I"⟩, 8), (⟨"FibreLoops$Ring", "begin", "(I)V"⟩, 5), (⟨"FibreLoops$State", "addDevice", "(IIIII)I"⟩, 8), (⟨"FibreLoops$State", "ringWith", "(II)LFibreLoops$Ring;"⟩, 8), (⟨"FibreLoops$State", "ringOf", "(I)LFibreLoops$Ring;"⟩, 8), (⟨"FibreLoops$Ring", "has", "(I)Z"⟩, 5), (⟨"FibreLoops$Device", "begin", "(IIIII)V"⟩, 9), (⟨"FibreLoops$State", "addJoin", "(IIII)I"⟩, 8)]
theorem lw_r1 : ∀ q ∈ lw_privs_1, lw_okq q := List.forall_mem_cons.mpr ⟨lw_p0, List.forall_mem_cons.mpr ⟨lw_p1, List.forall_mem_cons.mpr ⟨lw_p2, List.forall_mem_cons.mpr ⟨lw_p3, List.forall_mem_cons.mpr ⟨lw_p4, List.forall_mem_cons.mpr ⟨lw_p5, List.forall_mem_cons.mpr ⟨lw_p6, List.forall_mem_cons.mpr ⟨lw_p7, List.forall_mem_cons.mpr ⟨lw_p8, List.forall_mem_cons.mpr ⟨lw_p9, List.forall_mem_cons.mpr ⟨lw_p10, List.forall_mem_cons.mpr ⟨lw_p11, List.forall_mem_cons.mpr ⟨lw_p12, List.forall_mem_cons.mpr ⟨lw_p13, List.forall_mem_cons.mpr ⟨lw_p14, List.forall_mem_cons.mpr ⟨lw_p15, fun _ h => absurd h List.not_mem_nil⟩⟩⟩⟩⟩⟩⟩⟩⟩⟩⟩⟩⟩⟩⟩⟩
theorem lw_p16 : lw_okq (⟨"FibreLoops$Join", "begin", "(IIII)V"⟩, 6) := ⟨⟨by decide +kernel, by decide +kernel⟩, List.mem_of_getElem? (i := 110) (by decide +kernel), List.mem_of_getElem? (i := 350) (by decide +kernel), List.mem_of_getElem? (i := 351) (by decide +kernel)⟩
theorem lw_p17 : lw_okq (⟨"FibreLoops$State", "turnJoin", "(II)I"⟩, 8) := ⟨⟨by decide +kernel, by decide +kernel⟩, List.mem_of_getElem? (i := 21) (by decide +kernel), List.mem_of_getElem? (i := 358) (by decide +kernel), List.mem_of_getElem? (i := 359) (by decide +kernel)⟩
theorem lw_p18 : lw_okq (⟨"FibreLoops$State", "joinOf", "(I)LFibreLoops$Join;"⟩, 8) := ⟨⟨by decide +kernel, by decide +kernel⟩, List.mem_of_getElem? (i := 21) (by decide +kernel), List.mem_of_getElem? (i := 362) (by decide +kernel), List.mem_of_getElem? (i := 363) (by decide +kernel)⟩
theorem lw_p19 : lw_okq (⟨"FibreLoops$State", "feedDevice", "(II)I"⟩, 8) := ⟨⟨by decide +kernel, by decide +kernel⟩, List.mem_of_getElem? (i := 21) (by decide +kernel), List.mem_of_getElem? (i := 370) (by decide +kernel), List.mem_of_getElem? (i := 371) (by decide +kernel)⟩
theorem lw_p20 : lw_okq (⟨"FibreLoops$State", "deviceOf", "(I)LFibreLoops$Device;"⟩, 8) := ⟨⟨by decide +kernel, by decide +kernel⟩, List.mem_of_getElem? (i := 21) (by decide +kernel), List.mem_of_getElem? (i := 374) (by decide +kernel), List.mem_of_getElem? (i := 375) (by decide +kernel)⟩
theorem lw_p21 : lw_okq (⟨"FibreLoops$Device", "keepAsLast", "(I)V"⟩, 9) := ⟨⟨by decide +kernel, by decide +kernel⟩, List.mem_of_getElem? (i := 66) (by decide +kernel), List.mem_of_getElem? (i := 379) (by decide +kernel), List.mem_of_getElem? (i := 380) (by decide +kernel)⟩
theorem lw_p22 : lw_okq (⟨"FibreLoops$State", "lightFlash", "(III)I"⟩, 8) := ⟨⟨by decide +kernel, by decide +kernel⟩, List.mem_of_getElem? (i := 21) (by decide +kernel), List.mem_of_getElem? (i := 387) (by decide +kernel), List.mem_of_getElem? (i := 388) (by decide +kernel)⟩
theorem lw_p23 : lw_okq (⟨"FibreLoops$Ring", "strengthAt", "(I)I"⟩, 5) := ⟨⟨by decide +kernel, by decide +kernel⟩, List.mem_of_getElem? (i := 43) (by decide +kernel), List.mem_of_getElem? (i := 391) (by decide +kernel), List.mem_of_getElem? (i := 392) (by decide +kernel)⟩
theorem lw_p24 : lw_okq (⟨"FibreLoops$State", "setting", "(I)I"⟩, 8) := ⟨⟨by decide +kernel, by decide +kernel⟩, List.mem_of_getElem? (i := 21) (by decide +kernel), List.mem_of_getElem? (i := 396) (by decide +kernel), List.mem_of_getElem? (i := 397) (by decide +kernel)⟩
theorem lw_p25 : lw_okq (⟨"FibreLoops$Ring", "putIn", "(IIII)V"⟩, 5) := ⟨⟨by decide +kernel, by decide +kernel⟩, List.mem_of_getElem? (i := 43) (by decide +kernel), List.mem_of_getElem? (i := 400) (by decide +kernel), List.mem_of_getElem? (i := 401) (by decide +kernel)⟩
theorem lw_p26 : lw_okq (⟨"FibreLoops$Ring", "flashes", "()I"⟩, 5) := ⟨⟨by decide +kernel, by decide +kernel⟩, List.mem_of_getElem? (i := 43) (by decide +kernel), List.mem_of_getElem? (i := 404) (by decide +kernel), List.mem_of_getElem? (i := 405) (by decide +kernel)⟩
theorem lw_p27 : lw_okq (⟨"FibreLoops$State", "passTicks", "(I)I"⟩, 8) := ⟨⟨by decide +kernel, by decide +kernel⟩, List.mem_of_getElem? (i := 21) (by decide +kernel), List.mem_of_getElem? (i := 412) (by decide +kernel), List.mem_of_getElem? (i := 413) (by decide +kernel)⟩
theorem lw_p28 : lw_okq (⟨"FibreLoops$State", "passOne", "()V"⟩, 8) := ⟨⟨by decide +kernel, by decide +kernel⟩, List.mem_of_getElem? (i := 21) (by decide +kernel), List.mem_of_getElem? (i := 416) (by decide +kernel), List.mem_of_getElem? (i := 417) (by decide +kernel)⟩
theorem lw_p29 : lw_okq (⟨"FibreLoops$Ring", "moveOn", "(I)V"⟩, 5) := ⟨⟨by decide +kernel, by decide +kernel⟩, List.mem_of_getElem? (i := 43) (by decide +kernel), List.mem_of_getElem? (i := 420) (by decide +kernel), List.mem_of_getElem? (i := 421) (by decide +kernel)⟩
theorem lw_p30 : lw_okq (⟨"FibreLoops$Ring", "fade", "(II)V"⟩, 5) := ⟨⟨by decide +kernel, by decide +kernel⟩, List.mem_of_getElem? (i := 43) (by decide +kernel), List.mem_of_getElem? (i := 427) (by decide +kernel), List.mem_of_getElem? (i := 428) (by decide +kernel)⟩
theorem lw_p31 : lw_okq (⟨"FibreLoops$Device", "actOn", "(LFibreLoops$Ring;LFibreLoops$State;)V"⟩, 9) := ⟨⟨by decide +kernel, by decide +kernel⟩, List.mem_of_getElem? (i := 66) (by decide +kernel), List.mem_of_getElem? (i := 431) (by decide +kernel), List.mem_of_getElem? (i := 432) (by decide +kernel)⟩
def lw_privs_2 : List (MethodName × Nat) := [(⟨"FibreLoops$Join", "begin", "(IIII)V"⟩, 6), (⟨"FibreLoops$State", "turnJoin", "(II)I"⟩, 8), (⟨"FibreLoops$State", "joinOf", "(I)LFibreLoops$Join;"⟩, 8), (⟨"FibreLoops$State", "feedDevice", "(II)I"⟩, 8), (⟨"FibreLoops$State", "deviceOf", "(I)LFibreLoops$Device;"⟩, 8), (⟨"FibreLoops$Device", "keepAsLast", "(I)V"⟩, 9), (⟨"FibreLoops$State", "lightFlash", "(III)I"⟩, 8), (⟨"FibreLoops$Ring", "strengthAt", "(I)I"⟩, 5), (⟨"FibreLoops$State", "setting", "(I)I"⟩, 8), (⟨"FibreLoops$Ring", "putIn", "(IIII)V"⟩, 5), (⟨"FibreLoops$Ring", "flashes", "()I"⟩, 5), (⟨"FibreLoops$State", "passTicks", "(I)I"⟩, 8), (⟨"FibreLoops$State", "passOne", "()V"⟩, 8), (⟨"FibreLoops$Ring", "moveOn", "(I)V"⟩, 5), (⟨"FibreLoops$Ring", "fade", "(II)V"⟩, 5), (⟨"FibreLoops$Device", "actOn", "(LFibreLoops$Ring;LFibreLoops$State;)V"⟩, 9)]
theorem lw_r2 : ∀ q ∈ lw_privs_2, lw_okq q := List.forall_mem_cons.mpr ⟨lw_p16, List.forall_mem_cons.mpr ⟨lw_p17, List.forall_mem_cons.mpr ⟨lw_p18, List.forall_mem_cons.mpr ⟨lw_p19, List.forall_mem_cons.mpr ⟨lw_p20, List.forall_mem_cons.mpr ⟨lw_p21, List.forall_mem_cons.mpr ⟨lw_p22, List.forall_mem_cons.mpr ⟨lw_p23, List.forall_mem_cons.mpr ⟨lw_p24, List.forall_mem_cons.mpr ⟨lw_p25, List.forall_mem_cons.mpr ⟨lw_p26, List.forall_mem_cons.mpr ⟨lw_p27, List.forall_mem_cons.mpr ⟨lw_p28, List.forall_mem_cons.mpr ⟨lw_p29, List.forall_mem_cons.mpr ⟨lw_p30, List.forall_mem_cons.mpr ⟨lw_p31, fun _ h => absurd h List.not_mem_nil⟩⟩⟩⟩⟩⟩⟩⟩⟩⟩⟩⟩⟩⟩⟩⟩
theorem lw_p32 : lw_okq (⟨"FibreLoops$Device", "amplify", "(LFibreLoops$Ring;)V"⟩, 9) := ⟨⟨by decide +kernel, by decide +kernel⟩, List.mem_of_getElem? (i := 66) (by decide +kernel), List.mem_of_getElem? (i := 435) (by decide +kernel), List.mem_of_getElem? (i := 436) (by decide +kernel)⟩
theorem lw_p33 : lw_okq (⟨"FibreLoops$Ring", "strengthen", "(II)V"⟩, 5) := ⟨⟨by decide +kernel, by decide +kernel⟩, List.mem_of_getElem? (i := 43) (by decide +kernel), List.mem_of_getElem? (i := 441) (by decide +kernel), List.mem_of_getElem? (i := 442) (by decide +kernel)⟩
theorem lw_p34 : lw_okq (⟨"FibreLoops$Device", "note", "(LFibreLoops$Ring;I)V"⟩, 9) := ⟨⟨by decide +kernel, by decide +kernel⟩, List.mem_of_getElem? (i := 66) (by decide +kernel), List.mem_of_getElem? (i := 446) (by decide +kernel), List.mem_of_getElem? (i := 447) (by decide +kernel)⟩
theorem lw_p35 : lw_okq (⟨"FibreLoops$Ring", "valueAt", "(I)I"⟩, 5) := ⟨⟨by decide +kernel, by decide +kernel⟩, List.mem_of_getElem? (i := 43) (by decide +kernel), List.mem_of_getElem? (i := 451) (by decide +kernel), List.mem_of_getElem? (i := 452) (by decide +kernel)⟩
theorem lw_p36 : lw_okq (⟨"FibreLoops$Device", "putNext", "(LFibreLoops$Ring;II)V"⟩, 9) := ⟨⟨by decide +kernel, by decide +kernel⟩, List.mem_of_getElem? (i := 66) (by decide +kernel), List.mem_of_getElem? (i := 456) (by decide +kernel), List.mem_of_getElem? (i := 457) (by decide +kernel)⟩
theorem lw_p37 : lw_okq (⟨"FibreLoops$Device", "removeFirst", "()V"⟩, 9) := ⟨⟨by decide +kernel, by decide +kernel⟩, List.mem_of_getElem? (i := 66) (by decide +kernel), List.mem_of_getElem? (i := 461) (by decide +kernel), List.mem_of_getElem? (i := 462) (by decide +kernel)⟩
theorem lw_p38 : lw_okq (⟨"FibreLoops$Device", "change", "(LFibreLoops$Ring;)V"⟩, 9) := ⟨⟨by decide +kernel, by decide +kernel⟩, List.mem_of_getElem? (i := 66) (by decide +kernel), List.mem_of_getElem? (i := 466) (by decide +kernel), List.mem_of_getElem? (i := 467) (by decide +kernel)⟩
theorem lw_p39 : lw_okq (⟨"FibreLoops$Ring", "changeValue", "(II)V"⟩, 5) := ⟨⟨by decide +kernel, by decide +kernel⟩, List.mem_of_getElem? (i := 43) (by decide +kernel), List.mem_of_getElem? (i := 470) (by decide +kernel), List.mem_of_getElem? (i := 471) (by decide +kernel)⟩
theorem lw_p40 : lw_okq (⟨"FibreLoops$Device", "dropValue", "(LFibreLoops$Ring;)V"⟩, 9) := ⟨⟨by decide +kernel, by decide +kernel⟩, List.mem_of_getElem? (i := 66) (by decide +kernel), List.mem_of_getElem? (i := 474) (by decide +kernel), List.mem_of_getElem? (i := 475) (by decide +kernel)⟩
theorem lw_p41 : lw_okq (⟨"FibreLoops$Ring", "drop", "(I)V"⟩, 5) := ⟨⟨by decide +kernel, by decide +kernel⟩, List.mem_of_getElem? (i := 43) (by decide +kernel), List.mem_of_getElem? (i := 478) (by decide +kernel), List.mem_of_getElem? (i := 479) (by decide +kernel)⟩
theorem lw_p42 : lw_okq (⟨"FibreLoops$Join", "actOn", "(LFibreLoops$Ring;LFibreLoops$Ring;)V"⟩, 6) := ⟨⟨by decide +kernel, by decide +kernel⟩, List.mem_of_getElem? (i := 110) (by decide +kernel), List.mem_of_getElem? (i := 482) (by decide +kernel), List.mem_of_getElem? (i := 483) (by decide +kernel)⟩
theorem lw_p43 : lw_okq (⟨"FibreLoops$Ring", "exchange", "(ILFibreLoops$Ring;I)V"⟩, 5) := ⟨⟨by decide +kernel, by decide +kernel⟩, List.mem_of_getElem? (i := 43) (by decide +kernel), List.mem_of_getElem? (i := 487) (by decide +kernel), List.mem_of_getElem? (i := 488) (by decide +kernel)⟩
theorem lw_p44 : lw_okq (⟨"FibreLoops$Ring", "tellCrossing", "(LFibreLoops$Ring;)V"⟩, 5) := ⟨⟨by decide +kernel, by decide +kernel⟩, List.mem_of_getElem? (i := 43) (by decide +kernel), List.mem_of_getElem? (i := 491) (by decide +kernel), List.mem_of_getElem? (i := 492) (by decide +kernel)⟩
theorem lw_p45 : lw_okq (⟨"FibreLoops$Device", "rest", "(I)V"⟩, 9) := ⟨⟨by decide +kernel, by decide +kernel⟩, List.mem_of_getElem? (i := 66) (by decide +kernel), List.mem_of_getElem? (i := 495) (by decide +kernel), List.mem_of_getElem? (i := 496) (by decide +kernel)⟩
theorem lw_p46 : lw_okq (⟨"FibreLoops$Ring", "birthAt", "(I)I"⟩, 5) := ⟨⟨by decide +kernel, by decide +kernel⟩, List.mem_of_getElem? (i := 43) (by decide +kernel), List.mem_of_getElem? (i := 506) (by decide +kernel), List.mem_of_getElem? (i := 507) (by decide +kernel)⟩
theorem lw_p47 : lw_okq (⟨"FibreLoops$Ring", "strengthInAll", "()I"⟩, 5) := ⟨⟨by decide +kernel, by decide +kernel⟩, List.mem_of_getElem? (i := 43) (by decide +kernel), List.mem_of_getElem? (i := 516) (by decide +kernel), List.mem_of_getElem? (i := 517) (by decide +kernel)⟩
def lw_privs_3 : List (MethodName × Nat) := [(⟨"FibreLoops$Device", "amplify", "(LFibreLoops$Ring;)V"⟩, 9), (⟨"FibreLoops$Ring", "strengthen", "(II)V"⟩, 5), (⟨"FibreLoops$Device", "note", "(LFibreLoops$Ring;I)V"⟩, 9), (⟨"FibreLoops$Ring", "valueAt", "(I)I"⟩, 5), (⟨"FibreLoops$Device", "putNext", "(LFibreLoops$Ring;II)V"⟩, 9), (⟨"FibreLoops$Device", "removeFirst", "()V"⟩, 9), (⟨"FibreLoops$Device", "change", "(LFibreLoops$Ring;)V"⟩, 9), (⟨"FibreLoops$Ring", "changeValue", "(II)V"⟩, 5), (⟨"FibreLoops$Device", "dropValue", "(LFibreLoops$Ring;)V"⟩, 9), (⟨"FibreLoops$Ring", "drop", "(I)V"⟩, 5), (⟨"FibreLoops$Join", "actOn", "(LFibreLoops$Ring;LFibreLoops$Ring;)V"⟩, 6), (⟨"FibreLoops$Ring", "exchange", "(ILFibreLoops$Ring;I)V"⟩, 5), (⟨"FibreLoops$Ring", "tellCrossing", "(LFibreLoops$Ring;)V"⟩, 5), (⟨"FibreLoops$Device", "rest", "(I)V"⟩, 9), (⟨"FibreLoops$Ring", "birthAt", "(I)I"⟩, 5), (⟨"FibreLoops$Ring", "strengthInAll", "()I"⟩, 5)]
theorem lw_r3 : ∀ q ∈ lw_privs_3, lw_okq q := List.forall_mem_cons.mpr ⟨lw_p32, List.forall_mem_cons.mpr ⟨lw_p33, List.forall_mem_cons.mpr ⟨lw_p34, List.forall_mem_cons.mpr ⟨lw_p35, List.forall_mem_cons.mpr ⟨lw_p36, List.forall_mem_cons.mpr ⟨lw_p37, List.forall_mem_cons.mpr ⟨lw_p38, List.forall_mem_cons.mpr ⟨lw_p39, List.forall_mem_cons.mpr ⟨lw_p40, List.forall_mem_cons.mpr ⟨lw_p41, List.forall_mem_cons.mpr ⟨lw_p42, List.forall_mem_cons.mpr ⟨lw_p43, List.forall_mem_cons.mpr ⟨lw_p44, List.forall_mem_cons.mpr ⟨lw_p45, List.forall_mem_cons.mpr ⟨lw_p46, List.forall_mem_cons.mpr ⟨lw_p47, fun _ h => absurd h List.not_mem_nil⟩⟩⟩⟩⟩⟩⟩⟩⟩⟩⟩⟩⟩⟩⟩⟩
theorem lw_p48 : lw_okq (⟨"FibreLoops$Ring", "faintest", "()I"⟩, 5) := ⟨⟨by decide +kernel, by decide +kernel⟩, List.mem_of_getElem? (i := 43) (by decide +kernel), List.mem_of_getElem? (i := 520) (by decide +kernel), List.mem_of_getElem? (i := 521) (by decide +kernel)⟩
theorem lw_p49 : lw_okq (⟨"FibreLoops$Ring", "tally", "(I)I"⟩, 5) := ⟨⟨by decide +kernel, by decide +kernel⟩, List.mem_of_getElem? (i := 43) (by decide +kernel), List.mem_of_getElem? (i := 524) (by decide +kernel), List.mem_of_getElem? (i := 525) (by decide +kernel)⟩
theorem lw_p50 : lw_okq (⟨"FibreLoops$Device", "keptAt", "(I)I"⟩, 9) := ⟨⟨by decide +kernel, by decide +kernel⟩, List.mem_of_getElem? (i := 66) (by decide +kernel), List.mem_of_getElem? (i := 538) (by decide +kernel), List.mem_of_getElem? (i := 539) (by decide +kernel)⟩
theorem lw_p51 : lw_okq (⟨"FibreLoops$State", "flashesInAll", "()I"⟩, 8) := ⟨⟨by decide +kernel, by decide +kernel⟩, List.mem_of_getElem? (i := 21) (by decide +kernel), List.mem_of_getElem? (i := 555) (by decide +kernel), List.mem_of_getElem? (i := 556) (by decide +kernel)⟩
theorem lw_p52 : lw_okq (⟨"FibreLoops$State", "tallyInAll", "(I)I"⟩, 8) := ⟨⟨by decide +kernel, by decide +kernel⟩, List.mem_of_getElem? (i := 21) (by decide +kernel), List.mem_of_getElem? (i := 559) (by decide +kernel), List.mem_of_getElem? (i := 560) (by decide +kernel)⟩
theorem lw_p53 : lw_okq (⟨"FibreLoops$State", "ticksToLoss", "(I)I"⟩, 8) := ⟨⟨by decide +kernel, by decide +kernel⟩, List.mem_of_getElem? (i := 21) (by decide +kernel), List.mem_of_getElem? (i := 578) (by decide +kernel), List.mem_of_getElem? (i := 579) (by decide +kernel)⟩
theorem lw_p54 : lw_okq (⟨"FibreLoops$Pad", "append", "(C)V"⟩, 2) := ⟨⟨by decide +kernel, by decide +kernel⟩, List.mem_of_getElem? (i := 191) (by decide +kernel), List.mem_of_getElem? (i := 605) (by decide +kernel), List.mem_of_getElem? (i := 606) (by decide +kernel)⟩
theorem lw_p55 : lw_okq (⟨"FibreLoops$Pad", "clear", "()V"⟩, 2) := ⟨⟨by decide +kernel, by decide +kernel⟩, List.mem_of_getElem? (i := 191) (by decide +kernel), List.mem_of_getElem? (i := 613) (by decide +kernel), List.mem_of_getElem? (i := 614) (by decide +kernel)⟩
theorem lw_p56 : lw_okq (⟨"FibreLoops$OrderReader", "firstFault", "()I"⟩, 5) := ⟨⟨by decide +kernel, by decide +kernel⟩, List.mem_of_getElem? (i := 208) (by decide +kernel), List.mem_of_getElem? (i := 621) (by decide +kernel), List.mem_of_getElem? (i := 622) (by decide +kernel)⟩
theorem lw_p57 : lw_okq (⟨"FibreLoops$OrderReader", "goToStart", "()V"⟩, 5) := ⟨⟨by decide +kernel, by decide +kernel⟩, List.mem_of_getElem? (i := 208) (by decide +kernel), List.mem_of_getElem? (i := 625) (by decide +kernel), List.mem_of_getElem? (i := 626) (by decide +kernel)⟩
theorem lw_p58 : lw_okq (⟨"FibreLoops$OrderReader", "readOrder", "()Z"⟩, 5) := ⟨⟨by decide +kernel, by decide +kernel⟩, List.mem_of_getElem? (i := 208) (by decide +kernel), List.mem_of_getElem? (i := 629) (by decide +kernel), List.mem_of_getElem? (i := 630) (by decide +kernel)⟩
theorem lw_p59 : lw_okq (⟨"FibreLoops$Pad", "signAt", "(I)C"⟩, 2) := ⟨⟨by decide +kernel, by decide +kernel⟩, List.mem_of_getElem? (i := 191) (by decide +kernel), List.mem_of_getElem? (i := 633) (by decide +kernel), List.mem_of_getElem? (i := 634) (by decide +kernel)⟩
theorem lw_p60 : lw_okq (⟨"FibreLoops$OrderReader", "take", "(C)Z"⟩, 5) := ⟨⟨by decide +kernel, by decide +kernel⟩, List.mem_of_getElem? (i := 208) (by decide +kernel), List.mem_of_getElem? (i := 637) (by decide +kernel), List.mem_of_getElem? (i := 638) (by decide +kernel)⟩
theorem lw_p61 : lw_okq (⟨"FibreLoops$OrderReader", "readNumber", "()Z"⟩, 5) := ⟨⟨by decide +kernel, by decide +kernel⟩, List.mem_of_getElem? (i := 208) (by decide +kernel), List.mem_of_getElem? (i := 641) (by decide +kernel), List.mem_of_getElem? (i := 642) (by decide +kernel)⟩
theorem lw_p62 : lw_okq (⟨"FibreLoops$OrderReader", "digit", "()I"⟩, 5) := ⟨⟨by decide +kernel, by decide +kernel⟩, List.mem_of_getElem? (i := 208) (by decide +kernel), List.mem_of_getElem? (i := 645) (by decide +kernel), List.mem_of_getElem? (i := 646) (by decide +kernel)⟩
theorem lw_p63 : lw_okq (⟨"FibreLoops$OrderReader", "keep", "(I)Z"⟩, 5) := ⟨⟨by decide +kernel, by decide +kernel⟩, List.mem_of_getElem? (i := 208) (by decide +kernel), List.mem_of_getElem? (i := 650) (by decide +kernel), List.mem_of_getElem? (i := 651) (by decide +kernel)⟩
def lw_privs_4 : List (MethodName × Nat) := [(⟨"FibreLoops$Ring", "faintest", "()I"⟩, 5), (⟨"FibreLoops$Ring", "tally", "(I)I"⟩, 5), (⟨"FibreLoops$Device", "keptAt", "(I)I"⟩, 9), (⟨"FibreLoops$State", "flashesInAll", "()I"⟩, 8), (⟨"FibreLoops$State", "tallyInAll", "(I)I"⟩, 8), (⟨"FibreLoops$State", "ticksToLoss", "(I)I"⟩, 8), (⟨"FibreLoops$Pad", "append", "(C)V"⟩, 2), (⟨"FibreLoops$Pad", "clear", "()V"⟩, 2), (⟨"FibreLoops$OrderReader", "firstFault", "()I"⟩, 5), (⟨"FibreLoops$OrderReader", "goToStart", "()V"⟩, 5), (⟨"FibreLoops$OrderReader", "readOrder", "()Z"⟩, 5), (⟨"FibreLoops$Pad", "signAt", "(I)C"⟩, 2), (⟨"FibreLoops$OrderReader", "take", "(C)Z"⟩, 5), (⟨"FibreLoops$OrderReader", "readNumber", "()Z"⟩, 5), (⟨"FibreLoops$OrderReader", "digit", "()I"⟩, 5), (⟨"FibreLoops$OrderReader", "keep", "(I)Z"⟩, 5)]
theorem lw_r4 : ∀ q ∈ lw_privs_4, lw_okq q := List.forall_mem_cons.mpr ⟨lw_p48, List.forall_mem_cons.mpr ⟨lw_p49, List.forall_mem_cons.mpr ⟨lw_p50, List.forall_mem_cons.mpr ⟨lw_p51, List.forall_mem_cons.mpr ⟨lw_p52, List.forall_mem_cons.mpr ⟨lw_p53, List.forall_mem_cons.mpr ⟨lw_p54, List.forall_mem_cons.mpr ⟨lw_p55, List.forall_mem_cons.mpr ⟨lw_p56, List.forall_mem_cons.mpr ⟨lw_p57, List.forall_mem_cons.mpr ⟨lw_p58, List.forall_mem_cons.mpr ⟨lw_p59, List.forall_mem_cons.mpr ⟨lw_p60, List.forall_mem_cons.mpr ⟨lw_p61, List.forall_mem_cons.mpr ⟨lw_p62, List.forall_mem_cons.mpr ⟨lw_p63, fun _ h => absurd h List.not_mem_nil⟩⟩⟩⟩⟩⟩⟩⟩⟩⟩⟩⟩⟩⟩⟩⟩
theorem lw_p64 : lw_okq (⟨"FibreLoops$OrderReader", "readValues", "()Z"⟩, 5) := ⟨⟨by decide +kernel, by decide +kernel⟩, List.mem_of_getElem? (i := 208) (by decide +kernel), List.mem_of_getElem? (i := 654) (by decide +kernel), List.mem_of_getElem? (i := 655) (by decide +kernel)⟩
theorem lw_p65 : lw_okq (⟨"FibreLoops$OrderReader", "readMode", "()Z"⟩, 5) := ⟨⟨by decide +kernel, by decide +kernel⟩, List.mem_of_getElem? (i := 208) (by decide +kernel), List.mem_of_getElem? (i := 658) (by decide +kernel), List.mem_of_getElem? (i := 659) (by decide +kernel)⟩
theorem lw_p66 : lw_okq (⟨"FibreLoops$OrderReader", "readNext", "()Z"⟩, 5) := ⟨⟨by decide +kernel, by decide +kernel⟩, List.mem_of_getElem? (i := 208) (by decide +kernel), List.mem_of_getElem? (i := 667) (by decide +kernel), List.mem_of_getElem? (i := 668) (by decide +kernel)⟩
theorem lw_p67 : lw_okq (⟨"FibreLoops", "carryOrder", "()Z"⟩, 7) := ⟨⟨by decide +kernel, by decide +kernel⟩, List.mem_of_getElem? (i := 13) (by decide +kernel), List.mem_of_getElem? (i := 671) (by decide +kernel), List.mem_of_getElem? (i := 672) (by decide +kernel)⟩
theorem lw_p68 : lw_okq (⟨"FibreLoops$OrderReader", "number", "(I)I"⟩, 5) := ⟨⟨by decide +kernel, by decide +kernel⟩, List.mem_of_getElem? (i := 208) (by decide +kernel), List.mem_of_getElem? (i := 675) (by decide +kernel), List.mem_of_getElem? (i := 676) (by decide +kernel)⟩
theorem lw_p69 : lw_okq (⟨"FibreLoops", "feedAll", "(I)Z"⟩, 7) := ⟨⟨by decide +kernel, by decide +kernel⟩, List.mem_of_getElem? (i := 13) (by decide +kernel), List.mem_of_getElem? (i := 679) (by decide +kernel), List.mem_of_getElem? (i := 680) (by decide +kernel)⟩
theorem lw_p70 : lw_okq (⟨"FibreLoops$History", "takeLatest", "()LFibreLoops$State;"⟩, 2) := ⟨⟨by decide +kernel, by decide +kernel⟩, List.mem_of_getElem? (i := 174) (by decide +kernel), List.mem_of_getElem? (i := 687) (by decide +kernel), List.mem_of_getElem? (i := 688) (by decide +kernel)⟩
theorem lw_p71 : lw_okq (⟨"FibreLoops", "slotOf", "(I)LFibreLoops$State;"⟩, 7) := ⟨⟨by decide +kernel, by decide +kernel⟩, List.mem_of_getElem? (i := 13) (by decide +kernel), List.mem_of_getElem? (i := 695) (by decide +kernel), List.mem_of_getElem? (i := 696) (by decide +kernel)⟩
theorem lw_p72 : lw_okq (⟨"FibreLoopsModel", "keep", "()V"⟩, 16) := ⟨⟨by decide +kernel, by decide +kernel⟩, List.mem_of_getElem? (i := 703) (by decide +kernel), List.mem_of_getElem? (i := 768) (by decide +kernel), List.mem_of_getElem? (i := 769) (by decide +kernel)⟩
theorem lw_p73 : lw_okq (⟨"FibreLoopsModel", "isPlace", "(II)Z"⟩, 16) := ⟨⟨by decide +kernel, by decide +kernel⟩, List.mem_of_getElem? (i := 703) (by decide +kernel), List.mem_of_getElem? (i := 780) (by decide +kernel), List.mem_of_getElem? (i := 781) (by decide +kernel)⟩
theorem lw_p74 : lw_okq (⟨"FibreLoopsModel", "isLoop", "(I)Z"⟩, 16) := ⟨⟨by decide +kernel, by decide +kernel⟩, List.mem_of_getElem? (i := 703) (by decide +kernel), List.mem_of_getElem? (i := 784) (by decide +kernel), List.mem_of_getElem? (i := 785) (by decide +kernel)⟩
theorem lw_p75 : lw_okq (⟨"FibreLoopsModel", "ofL", "(II)I"⟩, 16) := ⟨⟨by decide +kernel, by decide +kernel⟩, List.mem_of_getElem? (i := 703) (by decide +kernel), List.mem_of_getElem? (i := 788) (by decide +kernel), List.mem_of_getElem? (i := 789) (by decide +kernel)⟩
theorem lw_p76 : lw_okq (⟨"FibreLoopsModel", "make", "(IIIII)V"⟩, 16) := ⟨⟨by decide +kernel, by decide +kernel⟩, List.mem_of_getElem? (i := 703) (by decide +kernel), List.mem_of_getElem? (i := 798) (by decide +kernel), List.mem_of_getElem? (i := 799) (by decide +kernel)⟩
theorem lw_p77 : lw_okq (⟨"FibreLoopsModel", "layD", "(III)V"⟩, 16) := ⟨⟨by decide +kernel, by decide +kernel⟩, List.mem_of_getElem? (i := 703) (by decide +kernel), List.mem_of_getElem? (i := 802) (by decide +kernel), List.mem_of_getElem? (i := 803) (by decide +kernel)⟩
theorem lw_p78 : lw_okq (⟨"FibreLoopsModel", "tryTurn", "(IIZ)I"⟩, 16) := ⟨⟨by decide +kernel, by decide +kernel⟩, List.mem_of_getElem? (i := 703) (by decide +kernel), List.mem_of_getElem? (i := 814) (by decide +kernel), List.mem_of_getElem? (i := 815) (by decide +kernel)⟩
theorem lw_p79 : lw_okq (⟨"FibreLoopsModel", "keepIf", "(Z)V"⟩, 16) := ⟨⟨by decide +kernel, by decide +kernel⟩, List.mem_of_getElem? (i := 703) (by decide +kernel), List.mem_of_getElem? (i := 818) (by decide +kernel), List.mem_of_getElem? (i := 819) (by decide +kernel)⟩
def lw_privs_5 : List (MethodName × Nat) := [(⟨"FibreLoops$OrderReader", "readValues", "()Z"⟩, 5), (⟨"FibreLoops$OrderReader", "readMode", "()Z"⟩, 5), (⟨"FibreLoops$OrderReader", "readNext", "()Z"⟩, 5), (⟨"FibreLoops", "carryOrder", "()Z"⟩, 7), (⟨"FibreLoops$OrderReader", "number", "(I)I"⟩, 5), (⟨"FibreLoops", "feedAll", "(I)Z"⟩, 7), (⟨"FibreLoops$History", "takeLatest", "()LFibreLoops$State;"⟩, 2), (⟨"FibreLoops", "slotOf", "(I)LFibreLoops$State;"⟩, 7), (⟨"FibreLoopsModel", "keep", "()V"⟩, 16), (⟨"FibreLoopsModel", "isPlace", "(II)Z"⟩, 16), (⟨"FibreLoopsModel", "isLoop", "(I)Z"⟩, 16), (⟨"FibreLoopsModel", "ofL", "(II)I"⟩, 16), (⟨"FibreLoopsModel", "make", "(IIIII)V"⟩, 16), (⟨"FibreLoopsModel", "layD", "(III)V"⟩, 16), (⟨"FibreLoopsModel", "tryTurn", "(IIZ)I"⟩, 16), (⟨"FibreLoopsModel", "keepIf", "(Z)V"⟩, 16)]
theorem lw_r5 : ∀ q ∈ lw_privs_5, lw_okq q := List.forall_mem_cons.mpr ⟨lw_p64, List.forall_mem_cons.mpr ⟨lw_p65, List.forall_mem_cons.mpr ⟨lw_p66, List.forall_mem_cons.mpr ⟨lw_p67, List.forall_mem_cons.mpr ⟨lw_p68, List.forall_mem_cons.mpr ⟨lw_p69, List.forall_mem_cons.mpr ⟨lw_p70, List.forall_mem_cons.mpr ⟨lw_p71, List.forall_mem_cons.mpr ⟨lw_p72, List.forall_mem_cons.mpr ⟨lw_p73, List.forall_mem_cons.mpr ⟨lw_p74, List.forall_mem_cons.mpr ⟨lw_p75, List.forall_mem_cons.mpr ⟨lw_p76, List.forall_mem_cons.mpr ⟨lw_p77, List.forall_mem_cons.mpr ⟨lw_p78, List.forall_mem_cons.mpr ⟨lw_p79, fun _ h => absurd h List.not_mem_nil⟩⟩⟩⟩⟩⟩⟩⟩⟩⟩⟩⟩⟩⟩⟩⟩
theorem lw_p80 : lw_okq (⟨"FibreLoopsModel", "ofJ", "(II)I"⟩, 16) := ⟨⟨by decide +kernel, by decide +kernel⟩, List.mem_of_getElem? (i := 703) (by decide +kernel), List.mem_of_getElem? (i := 822) (by decide +kernel), List.mem_of_getElem? (i := 823) (by decide +kernel)⟩
theorem lw_p81 : lw_okq (⟨"FibreLoopsModel", "tryFeed", "(IIZ)I"⟩, 16) := ⟨⟨by decide +kernel, by decide +kernel⟩, List.mem_of_getElem? (i := 703) (by decide +kernel), List.mem_of_getElem? (i := 830) (by decide +kernel), List.mem_of_getElem? (i := 831) (by decide +kernel)⟩
theorem lw_p82 : lw_okq (⟨"FibreLoopsModel", "isDevice", "(I)Z"⟩, 16) := ⟨⟨by decide +kernel, by decide +kernel⟩, List.mem_of_getElem? (i := 703) (by decide +kernel), List.mem_of_getElem? (i := 834) (by decide +kernel), List.mem_of_getElem? (i := 835) (by decide +kernel)⟩
theorem lw_p83 : lw_okq (⟨"FibreLoopsModel", "ofD", "(II)I"⟩, 16) := ⟨⟨by decide +kernel, by decide +kernel⟩, List.mem_of_getElem? (i := 703) (by decide +kernel), List.mem_of_getElem? (i := 838) (by decide +kernel), List.mem_of_getElem? (i := 839) (by decide +kernel)⟩
theorem lw_p84 : lw_okq (⟨"FibreLoopsModel", "tryLight", "(IIIZ)I"⟩, 16) := ⟨⟨by decide +kernel, by decide +kernel⟩, List.mem_of_getElem? (i := 703) (by decide +kernel), List.mem_of_getElem? (i := 846) (by decide +kernel), List.mem_of_getElem? (i := 847) (by decide +kernel)⟩
theorem lw_p85 : lw_okq (⟨"FibreLoopsModel", "shine", "(III)V"⟩, 16) := ⟨⟨by decide +kernel, by decide +kernel⟩, List.mem_of_getElem? (i := 703) (by decide +kernel), List.mem_of_getElem? (i := 853) (by decide +kernel), List.mem_of_getElem? (i := 854) (by decide +kernel)⟩
theorem lw_p86 : lw_okq (⟨"FibreLoopsModel", "moreL", "(II)V"⟩, 16) := ⟨⟨by decide +kernel, by decide +kernel⟩, List.mem_of_getElem? (i := 703) (by decide +kernel), List.mem_of_getElem? (i := 857) (by decide +kernel), List.mem_of_getElem? (i := 858) (by decide +kernel)⟩
theorem lw_p87 : lw_okq (⟨"FibreLoopsModel", "flashes", "(I)I"⟩, 16) := ⟨⟨by decide +kernel, by decide +kernel⟩, List.mem_of_getElem? (i := 703) (by decide +kernel), List.mem_of_getElem? (i := 861) (by decide +kernel), List.mem_of_getElem? (i := 862) (by decide +kernel)⟩
theorem lw_p88 : lw_okq (⟨"FibreLoopsModel", "tryTicks", "(IZ)I"⟩, 16) := ⟨⟨by decide +kernel, by decide +kernel⟩, List.mem_of_getElem? (i := 703) (by decide +kernel), List.mem_of_getElem? (i := 869) (by decide +kernel), List.mem_of_getElem? (i := 870) (by decide +kernel)⟩
theorem lw_p89 : lw_okq (⟨"FibreLoopsModel", "passAll", "(I)V"⟩, 16) := ⟨⟨by decide +kernel, by decide +kernel⟩, List.mem_of_getElem? (i := 703) (by decide +kernel), List.mem_of_getElem? (i := 873) (by decide +kernel), List.mem_of_getElem? (i := 874) (by decide +kernel)⟩
theorem lw_p90 : lw_okq (⟨"FibreLoopsModel", "pass", "()V"⟩, 16) := ⟨⟨by decide +kernel, by decide +kernel⟩, List.mem_of_getElem? (i := 703) (by decide +kernel), List.mem_of_getElem? (i := 877) (by decide +kernel), List.mem_of_getElem? (i := 878) (by decide +kernel)⟩
theorem lw_p91 : lw_okq (⟨"FibreLoopsModel", "turnOn", "(I)V"⟩, 16) := ⟨⟨by decide +kernel, by decide +kernel⟩, List.mem_of_getElem? (i := 703) (by decide +kernel), List.mem_of_getElem? (i := 881) (by decide +kernel), List.mem_of_getElem? (i := 882) (by decide +kernel)⟩
theorem lw_p92 : lw_okq (⟨"FibreLoopsModel", "moveTo", "(II)V"⟩, 16) := ⟨⟨by decide +kernel, by decide +kernel⟩, List.mem_of_getElem? (i := 703) (by decide +kernel), List.mem_of_getElem? (i := 885) (by decide +kernel), List.mem_of_getElem? (i := 886) (by decide +kernel)⟩
theorem lw_p93 : lw_okq (⟨"FibreLoopsModel", "clear", "(I)V"⟩, 16) := ⟨⟨by decide +kernel, by decide +kernel⟩, List.mem_of_getElem? (i := 703) (by decide +kernel), List.mem_of_getElem? (i := 889) (by decide +kernel), List.mem_of_getElem? (i := 890) (by decide +kernel)⟩
theorem lw_p94 : lw_okq (⟨"FibreLoopsModel", "fadeAll", "(I)V"⟩, 16) := ⟨⟨by decide +kernel, by decide +kernel⟩, List.mem_of_getElem? (i := 703) (by decide +kernel), List.mem_of_getElem? (i := 893) (by decide +kernel), List.mem_of_getElem? (i := 894) (by decide +kernel)⟩
theorem lw_p95 : lw_okq (⟨"FibreLoopsModel", "fade", "(III)V"⟩, 16) := ⟨⟨by decide +kernel, by decide +kernel⟩, List.mem_of_getElem? (i := 703) (by decide +kernel), List.mem_of_getElem? (i := 897) (by decide +kernel), List.mem_of_getElem? (i := 898) (by decide +kernel)⟩
def lw_privs_6 : List (MethodName × Nat) := [(⟨"FibreLoopsModel", "ofJ", "(II)I"⟩, 16), (⟨"FibreLoopsModel", "tryFeed", "(IIZ)I"⟩, 16), (⟨"FibreLoopsModel", "isDevice", "(I)Z"⟩, 16), (⟨"FibreLoopsModel", "ofD", "(II)I"⟩, 16), (⟨"FibreLoopsModel", "tryLight", "(IIIZ)I"⟩, 16), (⟨"FibreLoopsModel", "shine", "(III)V"⟩, 16), (⟨"FibreLoopsModel", "moreL", "(II)V"⟩, 16), (⟨"FibreLoopsModel", "flashes", "(I)I"⟩, 16), (⟨"FibreLoopsModel", "tryTicks", "(IZ)I"⟩, 16), (⟨"FibreLoopsModel", "passAll", "(I)V"⟩, 16), (⟨"FibreLoopsModel", "pass", "()V"⟩, 16), (⟨"FibreLoopsModel", "turnOn", "(I)V"⟩, 16), (⟨"FibreLoopsModel", "moveTo", "(II)V"⟩, 16), (⟨"FibreLoopsModel", "clear", "(I)V"⟩, 16), (⟨"FibreLoopsModel", "fadeAll", "(I)V"⟩, 16), (⟨"FibreLoopsModel", "fade", "(III)V"⟩, 16)]
theorem lw_r6 : ∀ q ∈ lw_privs_6, lw_okq q := List.forall_mem_cons.mpr ⟨lw_p80, List.forall_mem_cons.mpr ⟨lw_p81, List.forall_mem_cons.mpr ⟨lw_p82, List.forall_mem_cons.mpr ⟨lw_p83, List.forall_mem_cons.mpr ⟨lw_p84, List.forall_mem_cons.mpr ⟨lw_p85, List.forall_mem_cons.mpr ⟨lw_p86, List.forall_mem_cons.mpr ⟨lw_p87, List.forall_mem_cons.mpr ⟨lw_p88, List.forall_mem_cons.mpr ⟨lw_p89, List.forall_mem_cons.mpr ⟨lw_p90, List.forall_mem_cons.mpr ⟨lw_p91, List.forall_mem_cons.mpr ⟨lw_p92, List.forall_mem_cons.mpr ⟨lw_p93, List.forall_mem_cons.mpr ⟨lw_p94, List.forall_mem_cons.mpr ⟨lw_p95, fun _ h => absurd h List.not_mem_nil⟩⟩⟩⟩⟩⟩⟩⟩⟩⟩⟩⟩⟩⟩⟩⟩
theorem lw_p96 : lw_okq (⟨"FibreLoopsModel", "act", "(I)V"⟩, 16) := ⟨⟨by decide +kernel, by decide +kernel⟩, List.mem_of_getElem? (i := 703) (by decide +kernel), List.mem_of_getElem? (i := 901) (by decide +kernel), List.mem_of_getElem? (i := 902) (by decide +kernel)⟩
theorem lw_p97 : lw_okq (⟨"FibreLoopsModel", "amplify", "(II)V"⟩, 16) := ⟨⟨by decide +kernel, by decide +kernel⟩, List.mem_of_getElem? (i := 703) (by decide +kernel), List.mem_of_getElem? (i := 905) (by decide +kernel), List.mem_of_getElem? (i := 906) (by decide +kernel)⟩
theorem lw_p98 : lw_okq (⟨"FibreLoopsModel", "did", "(I)V"⟩, 16) := ⟨⟨by decide +kernel, by decide +kernel⟩, List.mem_of_getElem? (i := 703) (by decide +kernel), List.mem_of_getElem? (i := 909) (by decide +kernel), List.mem_of_getElem? (i := 910) (by decide +kernel)⟩
theorem lw_p99 : lw_okq (⟨"FibreLoopsModel", "note", "(II)V"⟩, 16) := ⟨⟨by decide +kernel, by decide +kernel⟩, List.mem_of_getElem? (i := 703) (by decide +kernel), List.mem_of_getElem? (i := 913) (by decide +kernel), List.mem_of_getElem? (i := 914) (by decide +kernel)⟩
theorem lw_p100 : lw_okq (⟨"FibreLoopsModel", "putIn", "(II)V"⟩, 16) := ⟨⟨by decide +kernel, by decide +kernel⟩, List.mem_of_getElem? (i := 703) (by decide +kernel), List.mem_of_getElem? (i := 917) (by decide +kernel), List.mem_of_getElem? (i := 918) (by decide +kernel)⟩
theorem lw_p101 : lw_okq (⟨"FibreLoopsModel", "cross", "(I)V"⟩, 16) := ⟨⟨by decide +kernel, by decide +kernel⟩, List.mem_of_getElem? (i := 703) (by decide +kernel), List.mem_of_getElem? (i := 921) (by decide +kernel), List.mem_of_getElem? (i := 922) (by decide +kernel)⟩
theorem lw_p102 : lw_okq (⟨"FibreLoopsModel", "crossed", "(III)V"⟩, 16) := ⟨⟨by decide +kernel, by decide +kernel⟩, List.mem_of_getElem? (i := 703) (by decide +kernel), List.mem_of_getElem? (i := 925) (by decide +kernel), List.mem_of_getElem? (i := 926) (by decide +kernel)⟩
theorem lw_p103 : lw_okq (⟨"FibreLoopsModel", "recover", "(I)V"⟩, 16) := ⟨⟨by decide +kernel, by decide +kernel⟩, List.mem_of_getElem? (i := 703) (by decide +kernel), List.mem_of_getElem? (i := 929) (by decide +kernel), List.mem_of_getElem? (i := 930) (by decide +kernel)⟩
theorem lw_p104 : lw_okq (⟨"FibreLoopsModel", "strengths", "(I)I"⟩, 16) := ⟨⟨by decide +kernel, by decide +kernel⟩, List.mem_of_getElem? (i := 703) (by decide +kernel), List.mem_of_getElem? (i := 941) (by decide +kernel), List.mem_of_getElem? (i := 942) (by decide +kernel)⟩
theorem lw_p105 : lw_okq (⟨"FibreLoopsModel", "faintest", "(I)I"⟩, 16) := ⟨⟨by decide +kernel, by decide +kernel⟩, List.mem_of_getElem? (i := 703) (by decide +kernel), List.mem_of_getElem? (i := 945) (by decide +kernel), List.mem_of_getElem? (i := 946) (by decide +kernel)⟩
theorem lw_p106 : lw_okq (⟨"FibreLoopsModel", "sum", "(I)I"⟩, 16) := ⟨⟨by decide +kernel, by decide +kernel⟩, List.mem_of_getElem? (i := 703) (by decide +kernel), List.mem_of_getElem? (i := 969) (by decide +kernel), List.mem_of_getElem? (i := 970) (by decide +kernel)⟩
theorem lw_p107 : lw_okq (⟨"FibreLoopsModel", "layAside", "()V"⟩, 16) := ⟨⟨by decide +kernel, by decide +kernel⟩, List.mem_of_getElem? (i := 703) (by decide +kernel), List.mem_of_getElem? (i := 977) (by decide +kernel), List.mem_of_getElem? (i := 978) (by decide +kernel)⟩
theorem lw_p108 : lw_okq (⟨"FibreLoopsModel", "layBack", "()V"⟩, 16) := ⟨⟨by decide +kernel, by decide +kernel⟩, List.mem_of_getElem? (i := 703) (by decide +kernel), List.mem_of_getElem? (i := 981) (by decide +kernel), List.mem_of_getElem? (i := 982) (by decide +kernel)⟩
theorem lw_p109 : lw_okq (⟨"FibreLoopsModel", "lossWithin", "(I)I"⟩, 16) := ⟨⟨by decide +kernel, by decide +kernel⟩, List.mem_of_getElem? (i := 703) (by decide +kernel), List.mem_of_getElem? (i := 993) (by decide +kernel), List.mem_of_getElem? (i := 994) (by decide +kernel)⟩
theorem lw_p110 : lw_okq (⟨"FibreLoopsModel", "takeOrder", "()V"⟩, 16) := ⟨⟨by decide +kernel, by decide +kernel⟩, List.mem_of_getElem? (i := 703) (by decide +kernel), List.mem_of_getElem? (i := 1018) (by decide +kernel), List.mem_of_getElem? (i := 1019) (by decide +kernel)⟩
theorem lw_p111 : lw_okq (⟨"FibreLoopsModel", "next", "()I"⟩, 16) := ⟨⟨by decide +kernel, by decide +kernel⟩, List.mem_of_getElem? (i := 703) (by decide +kernel), List.mem_of_getElem? (i := 1022) (by decide +kernel), List.mem_of_getElem? (i := 1023) (by decide +kernel)⟩
def lw_privs_7 : List (MethodName × Nat) := [(⟨"FibreLoopsModel", "act", "(I)V"⟩, 16), (⟨"FibreLoopsModel", "amplify", "(II)V"⟩, 16), (⟨"FibreLoopsModel", "did", "(I)V"⟩, 16), (⟨"FibreLoopsModel", "note", "(II)V"⟩, 16), (⟨"FibreLoopsModel", "putIn", "(II)V"⟩, 16), (⟨"FibreLoopsModel", "cross", "(I)V"⟩, 16), (⟨"FibreLoopsModel", "crossed", "(III)V"⟩, 16), (⟨"FibreLoopsModel", "recover", "(I)V"⟩, 16), (⟨"FibreLoopsModel", "strengths", "(I)I"⟩, 16), (⟨"FibreLoopsModel", "faintest", "(I)I"⟩, 16), (⟨"FibreLoopsModel", "sum", "(I)I"⟩, 16), (⟨"FibreLoopsModel", "layAside", "()V"⟩, 16), (⟨"FibreLoopsModel", "layBack", "()V"⟩, 16), (⟨"FibreLoopsModel", "lossWithin", "(I)I"⟩, 16), (⟨"FibreLoopsModel", "takeOrder", "()V"⟩, 16), (⟨"FibreLoopsModel", "next", "()I"⟩, 16)]
theorem lw_r7 : ∀ q ∈ lw_privs_7, lw_okq q := List.forall_mem_cons.mpr ⟨lw_p96, List.forall_mem_cons.mpr ⟨lw_p97, List.forall_mem_cons.mpr ⟨lw_p98, List.forall_mem_cons.mpr ⟨lw_p99, List.forall_mem_cons.mpr ⟨lw_p100, List.forall_mem_cons.mpr ⟨lw_p101, List.forall_mem_cons.mpr ⟨lw_p102, List.forall_mem_cons.mpr ⟨lw_p103, List.forall_mem_cons.mpr ⟨lw_p104, List.forall_mem_cons.mpr ⟨lw_p105, List.forall_mem_cons.mpr ⟨lw_p106, List.forall_mem_cons.mpr ⟨lw_p107, List.forall_mem_cons.mpr ⟨lw_p108, List.forall_mem_cons.mpr ⟨lw_p109, List.forall_mem_cons.mpr ⟨lw_p110, List.forall_mem_cons.mpr ⟨lw_p111, fun _ h => absurd h List.not_mem_nil⟩⟩⟩⟩⟩⟩⟩⟩⟩⟩⟩⟩⟩⟩⟩⟩
theorem lw_p112 : lw_okq (⟨"FibreLoopsModel", "takeNumber", "()V"⟩, 16) := ⟨⟨by decide +kernel, by decide +kernel⟩, List.mem_of_getElem? (i := 703) (by decide +kernel), List.mem_of_getElem? (i := 1026) (by decide +kernel), List.mem_of_getElem? (i := 1027) (by decide +kernel)⟩
theorem lw_p113 : lw_okq (⟨"FibreLoopsModel", "takeSign", "(I)V"⟩, 16) := ⟨⟨by decide +kernel, by decide +kernel⟩, List.mem_of_getElem? (i := 703) (by decide +kernel), List.mem_of_getElem? (i := 1030) (by decide +kernel), List.mem_of_getElem? (i := 1031) (by decide +kernel)⟩
theorem lw_p114 : lw_okq (⟨"FibreLoopsModel", "takeMode", "()V"⟩, 16) := ⟨⟨by decide +kernel, by decide +kernel⟩, List.mem_of_getElem? (i := 703) (by decide +kernel), List.mem_of_getElem? (i := 1034) (by decide +kernel), List.mem_of_getElem? (i := 1035) (by decide +kernel)⟩
theorem lw_p115 : lw_okq (⟨"FibreLoopsModel", "carry", "(I)I"⟩, 16) := ⟨⟨by decide +kernel, by decide +kernel⟩, List.mem_of_getElem? (i := 703) (by decide +kernel), List.mem_of_getElem? (i := 1043) (by decide +kernel), List.mem_of_getElem? (i := 1044) (by decide +kernel)⟩
theorem lw_p116 : lw_okq (⟨"FibreLoopsModel", "feedAll", "(I)I"⟩, 16) := ⟨⟨by decide +kernel, by decide +kernel⟩, List.mem_of_getElem? (i := 703) (by decide +kernel), List.mem_of_getElem? (i := 1047) (by decide +kernel), List.mem_of_getElem? (i := 1048) (by decide +kernel)⟩
def lw_privs_8 : List (MethodName × Nat) := [(⟨"FibreLoopsModel", "takeNumber", "()V"⟩, 16), (⟨"FibreLoopsModel", "takeSign", "(I)V"⟩, 16), (⟨"FibreLoopsModel", "takeMode", "()V"⟩, 16), (⟨"FibreLoopsModel", "carry", "(I)I"⟩, 16), (⟨"FibreLoopsModel", "feedAll", "(I)I"⟩, 16)]
theorem lw_r8 : ∀ q ∈ lw_privs_8, lw_okq q := List.forall_mem_cons.mpr ⟨lw_p112, List.forall_mem_cons.mpr ⟨lw_p113, List.forall_mem_cons.mpr ⟨lw_p114, List.forall_mem_cons.mpr ⟨lw_p115, List.forall_mem_cons.mpr ⟨lw_p116, fun _ h => absurd h List.not_mem_nil⟩⟩⟩⟩⟩
def lw_privs : List (MethodName × Nat) := lw_privs_1 ++ (lw_privs_2 ++ (lw_privs_3 ++ (lw_privs_4 ++ (lw_privs_5 ++ (lw_privs_6 ++ (lw_privs_7 ++ (lw_privs_8)))))))
def lw_tbl : List Cond := k2_sels lw_privs ++ tables_1
theorem lw_privs_ok : ∀ q ∈ lw_privs, lw_okq q := by
  show ∀ q ∈ lw_privs_1 ++ (lw_privs_2 ++ (lw_privs_3 ++ (lw_privs_4 ++ (lw_privs_5 ++ (lw_privs_6 ++ (lw_privs_7 ++ (lw_privs_8))))))), lw_okq q
  exact List.forall_mem_append.mpr ⟨lw_r1, List.forall_mem_append.mpr ⟨lw_r2, List.forall_mem_append.mpr ⟨lw_r3, List.forall_mem_append.mpr ⟨lw_r4, List.forall_mem_append.mpr ⟨lw_r5, List.forall_mem_append.mpr ⟨lw_r6, List.forall_mem_append.mpr ⟨lw_r7, lw_r8⟩⟩⟩⟩⟩⟩⟩
end
section
def RX0 : String := "FibreLoops$Device"
def TX0 : u_T := fun k => match k with
  | 0 => ("FibreLoops$Device", "kind", "I", false)
  | 1 => ("FibreLoops$Device", "ring", "I", false)
  | 2 => ("FibreLoops$Device", "place", "I", false)
  | 3 => ("FibreLoops$Device", "one", "I", false)
  | 4 => ("FibreLoops$Device", "two", "I", false)
  | 5 => ("FibreLoops$Device", "store", "I", false)
  | 6 => ("FibreLoops$Device", "acts", "I", false)
  | 7 => ("FibreLoops$Device", "row", "[I", true)
  | _ => ("FibreLoops$Device", "kept", "I", false)
def tyX0 : Nat → FieldType := fun k => match k with
  | 0 => .int
  | 1 => .int
  | 2 => .int
  | 3 => .int
  | 4 => .int
  | 5 => .int
  | 6 => .int
  | 7 => .array .int
  | _ => .int
abbrev wsX00 : List Cond := u_ws RX0 TX0 9
theorem nmX0 : ∀ a, a < 9 → ∀ b, b < 9 → a ≠ b → (TX0 a).2.1 ≠ (TX0 b).2.1 := by decide +kernel
theorem tyX0_ok : ∀ k, k < 9 → parseFieldDescriptor (TX0 k).2.2.1 = some (tyX0 k) := by decide +kernel
abbrev cX0_init : ByteArray := prog_2_method_1_code
def yX0_init : MethodName := ⟨RX0, "<init>", "()V"⟩
abbrev cX0_begin : ByteArray := prog_2_method_2_code
def yX0_begin : MethodName := ⟨RX0, "begin", "(IIIII)V"⟩
abbrev cX0_copyFrom : ByteArray := prog_2_method_3_code
def yX0_copyFrom : MethodName := ⟨RX0, "copyFrom", "(LFibreLoops$Device;)V"⟩
abbrev cX0_keptAt : ByteArray := prog_2_method_4_code
def yX0_keptAt : MethodName := ⟨RX0, "keptAt", "(I)I"⟩
abbrev cX0_keepAsLast : ByteArray := prog_2_method_5_code
def yX0_keepAsLast : MethodName := ⟨RX0, "keepAsLast", "(I)V"⟩
abbrev cX0_removeFirst : ByteArray := prog_2_method_6_code
def yX0_removeFirst : MethodName := ⟨RX0, "removeFirst", "()V"⟩
abbrev cX0_actOn : ByteArray := prog_2_method_7_code
def yX0_actOn : MethodName := ⟨RX0, "actOn", "(LFibreLoops$Ring;LFibreLoops$State;)V"⟩
abbrev cX0_amplify : ByteArray := prog_2_method_8_code
def yX0_amplify : MethodName := ⟨RX0, "amplify", "(LFibreLoops$Ring;)V"⟩
abbrev cX0_note : ByteArray := prog_2_method_9_code
def yX0_note : MethodName := ⟨RX0, "note", "(LFibreLoops$Ring;I)V"⟩
abbrev cX0_putNext : ByteArray := prog_2_method_10_code
def yX0_putNext : MethodName := ⟨RX0, "putNext", "(LFibreLoops$Ring;II)V"⟩
abbrev cX0_change : ByteArray := prog_2_method_11_code
def yX0_change : MethodName := ⟨RX0, "change", "(LFibreLoops$Ring;)V"⟩
abbrev cX0_dropValue : ByteArray := prog_2_method_12_code
def yX0_dropValue : MethodName := ⟨RX0, "dropValue", "(LFibreLoops$Ring;)V"⟩
abbrev cX0_rest : ByteArray := prog_2_method_13_code
def yX0_rest : MethodName := ⟨RX0, "rest", "(I)V"⟩
def RX1 : String := "FibreLoops$History"
def TX1 : u_T := fun k => match k with
  | 0 => ("FibreLoops$History", "states", "[LFibreLoops$State;", true)
  | _ => ("FibreLoops$History", "size", "I", false)
def tyX1 : Nat → FieldType := fun k => match k with
  | 0 => .array (.object "FibreLoops$State")
  | _ => .int
abbrev wsX10 : List Cond := u_ws RX1 TX1 2
theorem nmX1 : ∀ a, a < 2 → ∀ b, b < 2 → a ≠ b → (TX1 a).2.1 ≠ (TX1 b).2.1 := by decide +kernel
theorem tyX1_ok : ∀ k, k < 2 → parseFieldDescriptor (TX1 k).2.2.1 = some (tyX1 k) := by decide +kernel
abbrev cX1_init : ByteArray := prog_3_method_1_code
def yX1_init : MethodName := ⟨RX1, "<init>", "()V"⟩
abbrev cX1_holdBack : ByteArray := prog_3_method_2_code
def yX1_holdBack : MethodName := ⟨RX1, "holdBack", "(LFibreLoops$State;)V"⟩
abbrev cX1_keepIfDone : ByteArray := prog_3_method_3_code
def yX1_keepIfDone : MethodName := ⟨RX1, "keepIfDone", "(I)I"⟩
abbrev cX1_dropOldest : ByteArray := prog_3_method_4_code
def yX1_dropOldest : MethodName := ⟨RX1, "dropOldest", "()V"⟩
abbrev cX1_takeLatest : ByteArray := prog_3_method_5_code
def yX1_takeLatest : MethodName := ⟨RX1, "takeLatest", "()LFibreLoops$State;"⟩
def RX2 : String := "FibreLoops$Join"
def TX2 : u_T := fun k => match k with
  | 0 => ("FibreLoops$Join", "nearRing", "I", false)
  | 1 => ("FibreLoops$Join", "nearPlace", "I", false)
  | 2 => ("FibreLoops$Join", "farRing", "I", false)
  | 3 => ("FibreLoops$Join", "farPlace", "I", false)
  | 4 => ("FibreLoops$Join", "mode", "I", false)
  | _ => ("FibreLoops$Join", "passed", "I", false)
def tyX2 : Nat → FieldType := fun k => match k with
  | 0 => .int
  | 1 => .int
  | 2 => .int
  | 3 => .int
  | 4 => .int
  | _ => .int
abbrev wsX20 : List Cond := u_ws RX2 TX2 6
theorem nmX2 : ∀ a, a < 6 → ∀ b, b < 6 → a ≠ b → (TX2 a).2.1 ≠ (TX2 b).2.1 := by decide +kernel
theorem tyX2_ok : ∀ k, k < 6 → parseFieldDescriptor (TX2 k).2.2.1 = some (tyX2 k) := by decide +kernel
abbrev cX2_init : ByteArray := prog_4_method_1_code
def yX2_init : MethodName := ⟨RX2, "<init>", "()V"⟩
abbrev cX2_begin : ByteArray := prog_4_method_2_code
def yX2_begin : MethodName := ⟨RX2, "begin", "(IIII)V"⟩
abbrev cX2_copyFrom : ByteArray := prog_4_method_3_code
def yX2_copyFrom : MethodName := ⟨RX2, "copyFrom", "(LFibreLoops$Join;)V"⟩
abbrev cX2_actOn : ByteArray := prog_4_method_4_code
def yX2_actOn : MethodName := ⟨RX2, "actOn", "(LFibreLoops$Ring;LFibreLoops$Ring;)V"⟩
def RX3 : String := "FibreLoops$OrderReader"
def TX3 : u_T := fun k => match k with
  | 0 => ("FibreLoops$OrderReader", "pad", "LFibreLoops$Pad;", true)
  | 1 => ("FibreLoops$OrderReader", "next", "I", false)
  | 2 => ("FibreLoops$OrderReader", "letter", "C", false)
  | 3 => ("FibreLoops$OrderReader", "numbers", "[I", true)
  | _ => ("FibreLoops$OrderReader", "numberCount", "I", false)
def tyX3 : Nat → FieldType := fun k => match k with
  | 0 => .object "FibreLoops$Pad"
  | 1 => .int
  | 2 => .char
  | 3 => .array .int
  | _ => .int
abbrev wsX30 : List Cond := u_ws RX3 TX3 5
theorem nmX3 : ∀ a, a < 5 → ∀ b, b < 5 → a ≠ b → (TX3 a).2.1 ≠ (TX3 b).2.1 := by decide +kernel
theorem tyX3_ok : ∀ k, k < 5 → parseFieldDescriptor (TX3 k).2.2.1 = some (tyX3 k) := by decide +kernel
abbrev cX3_init : ByteArray := prog_5_method_1_code
def yX3_init : MethodName := ⟨RX3, "<init>", "(LFibreLoops$Pad;)V"⟩
abbrev cX3_goToStart : ByteArray := prog_5_method_2_code
def yX3_goToStart : MethodName := ⟨RX3, "goToStart", "()V"⟩
abbrev cX3_number : ByteArray := prog_5_method_3_code
def yX3_number : MethodName := ⟨RX3, "number", "(I)I"⟩
abbrev cX3_firstFault : ByteArray := prog_5_method_4_code
def yX3_firstFault : MethodName := ⟨RX3, "firstFault", "()I"⟩
abbrev cX3_readNext : ByteArray := prog_5_method_5_code
def yX3_readNext : MethodName := ⟨RX3, "readNext", "()Z"⟩
abbrev cX3_readOrder : ByteArray := prog_5_method_6_code
def yX3_readOrder : MethodName := ⟨RX3, "readOrder", "()Z"⟩
abbrev cX3_take : ByteArray := prog_5_method_7_code
def yX3_take : MethodName := ⟨RX3, "take", "(C)Z"⟩
abbrev cX3_readValues : ByteArray := prog_5_method_8_code
def yX3_readValues : MethodName := ⟨RX3, "readValues", "()Z"⟩
abbrev cX3_digit : ByteArray := prog_5_method_9_code
def yX3_digit : MethodName := ⟨RX3, "digit", "()I"⟩
abbrev cX3_readNumber : ByteArray := prog_5_method_10_code
def yX3_readNumber : MethodName := ⟨RX3, "readNumber", "()Z"⟩
abbrev cX3_readMode : ByteArray := prog_5_method_11_code
def yX3_readMode : MethodName := ⟨RX3, "readMode", "()Z"⟩
abbrev cX3_keep : ByteArray := prog_5_method_12_code
def yX3_keep : MethodName := ⟨RX3, "keep", "(I)Z"⟩
def RX4 : String := "FibreLoops$Pad"
def TX4 : u_T := fun k => match k with
  | 0 => ("FibreLoops$Pad", "signs", "[C", true)
  | _ => ("FibreLoops$Pad", "length", "I", false)
def tyX4 : Nat → FieldType := fun k => match k with
  | 0 => .array .char
  | _ => .int
abbrev wsX40 : List Cond := u_ws RX4 TX4 2
theorem nmX4 : ∀ a, a < 2 → ∀ b, b < 2 → a ≠ b → (TX4 a).2.1 ≠ (TX4 b).2.1 := by decide +kernel
theorem tyX4_ok : ∀ k, k < 2 → parseFieldDescriptor (TX4 k).2.2.1 = some (tyX4 k) := by decide +kernel
abbrev cX4_init : ByteArray := prog_6_method_1_code
def yX4_init : MethodName := ⟨RX4, "<init>", "()V"⟩
abbrev cX4_append : ByteArray := prog_6_method_2_code
def yX4_append : MethodName := ⟨RX4, "append", "(C)V"⟩
abbrev cX4_clear : ByteArray := prog_6_method_3_code
def yX4_clear : MethodName := ⟨RX4, "clear", "()V"⟩
abbrev cX4_signAt : ByteArray := prog_6_method_4_code
def yX4_signAt : MethodName := ⟨RX4, "signAt", "(I)C"⟩
def RX5 : String := "FibreLoops$Ring"
def TX5 : u_T := fun k => match k with
  | 0 => ("FibreLoops$Ring", "places", "I", false)
  | 1 => ("FibreLoops$Ring", "values", "[I", true)
  | 2 => ("FibreLoops$Ring", "strengths", "[I", true)
  | 3 => ("FibreLoops$Ring", "births", "[I", true)
  | _ => ("FibreLoops$Ring", "tallies", "[I", true)
def tyX5 : Nat → FieldType := fun k => match k with
  | 0 => .int
  | 1 => .array .int
  | 2 => .array .int
  | 3 => .array .int
  | _ => .array .int
abbrev wsX50 : List Cond := u_ws RX5 TX5 5
theorem nmX5 : ∀ a, a < 5 → ∀ b, b < 5 → a ≠ b → (TX5 a).2.1 ≠ (TX5 b).2.1 := by decide +kernel
theorem tyX5_ok : ∀ k, k < 5 → parseFieldDescriptor (TX5 k).2.2.1 = some (tyX5 k) := by decide +kernel
abbrev cX5_init : ByteArray := prog_7_method_1_code
def yX5_init : MethodName := ⟨RX5, "<init>", "()V"⟩
abbrev cX5_begin : ByteArray := prog_7_method_2_code
def yX5_begin : MethodName := ⟨RX5, "begin", "(I)V"⟩
abbrev cX5_copyFrom : ByteArray := prog_7_method_3_code
def yX5_copyFrom : MethodName := ⟨RX5, "copyFrom", "(LFibreLoops$Ring;)V"⟩
abbrev cX5_has : ByteArray := prog_7_method_4_code
def yX5_has : MethodName := ⟨RX5, "has", "(I)Z"⟩
abbrev cX5_strengthAt : ByteArray := prog_7_method_5_code
def yX5_strengthAt : MethodName := ⟨RX5, "strengthAt", "(I)I"⟩
abbrev cX5_valueAt : ByteArray := prog_7_method_6_code
def yX5_valueAt : MethodName := ⟨RX5, "valueAt", "(I)I"⟩
abbrev cX5_birthAt : ByteArray := prog_7_method_7_code
def yX5_birthAt : MethodName := ⟨RX5, "birthAt", "(I)I"⟩
abbrev cX5_tally : ByteArray := prog_7_method_8_code
def yX5_tally : MethodName := ⟨RX5, "tally", "(I)I"⟩
abbrev cX5_flashes : ByteArray := prog_7_method_9_code
def yX5_flashes : MethodName := ⟨RX5, "flashes", "()I"⟩
abbrev cX5_strengthInAll : ByteArray := prog_7_method_10_code
def yX5_strengthInAll : MethodName := ⟨RX5, "strengthInAll", "()I"⟩
abbrev cX5_faintest : ByteArray := prog_7_method_11_code
def yX5_faintest : MethodName := ⟨RX5, "faintest", "()I"⟩
abbrev cX5_moveOn : ByteArray := prog_7_method_12_code
def yX5_moveOn : MethodName := ⟨RX5, "moveOn", "(I)V"⟩
abbrev cX5_fade : ByteArray := prog_7_method_13_code
def yX5_fade : MethodName := ⟨RX5, "fade", "(II)V"⟩
abbrev cX5_strengthen : ByteArray := prog_7_method_14_code
def yX5_strengthen : MethodName := ⟨RX5, "strengthen", "(II)V"⟩
abbrev cX5_changeValue : ByteArray := prog_7_method_15_code
def yX5_changeValue : MethodName := ⟨RX5, "changeValue", "(II)V"⟩
abbrev cX5_putIn : ByteArray := prog_7_method_16_code
def yX5_putIn : MethodName := ⟨RX5, "putIn", "(IIII)V"⟩
abbrev cX5_drop : ByteArray := prog_7_method_17_code
def yX5_drop : MethodName := ⟨RX5, "drop", "(I)V"⟩
abbrev cX5_exchange : ByteArray := prog_7_method_18_code
def yX5_exchange : MethodName := ⟨RX5, "exchange", "(ILFibreLoops$Ring;I)V"⟩
abbrev cX5_tellCrossing : ByteArray := prog_7_method_19_code
def yX5_tellCrossing : MethodName := ⟨RX5, "tellCrossing", "(LFibreLoops$Ring;)V"⟩
def RX6 : String := "FibreLoops$State"
def TX6 : u_T := fun k => match k with
  | 0 => ("FibreLoops$State", "settings", "[I", true)
  | 1 => ("FibreLoops$State", "rings", "[LFibreLoops$Ring;", true)
  | 2 => ("FibreLoops$State", "devices", "[LFibreLoops$Device;", true)
  | 3 => ("FibreLoops$State", "joins", "[LFibreLoops$Join;", true)
  | 4 => ("FibreLoops$State", "tick", "I", false)
  | 5 => ("FibreLoops$State", "ringCount", "I", false)
  | 6 => ("FibreLoops$State", "deviceCount", "I", false)
  | _ => ("FibreLoops$State", "joinCount", "I", false)
def tyX6 : Nat → FieldType := fun k => match k with
  | 0 => .array .int
  | 1 => .array (.object "FibreLoops$Ring")
  | 2 => .array (.object "FibreLoops$Device")
  | 3 => .array (.object "FibreLoops$Join")
  | 4 => .int
  | 5 => .int
  | 6 => .int
  | _ => .int
abbrev wsX60 : List Cond := u_ws RX6 TX6 8
theorem nmX6 : ∀ a, a < 8 → ∀ b, b < 8 → a ≠ b → (TX6 a).2.1 ≠ (TX6 b).2.1 := by decide +kernel
theorem tyX6_ok : ∀ k, k < 8 → parseFieldDescriptor (TX6 k).2.2.1 = some (tyX6 k) := by decide +kernel
abbrev cX6_init : ByteArray := prog_8_method_1_code
def yX6_init : MethodName := ⟨RX6, "<init>", "()V"⟩
abbrev cX6_copyFrom : ByteArray := prog_8_method_2_code
def yX6_copyFrom : MethodName := ⟨RX6, "copyFrom", "(LFibreLoops$State;)V"⟩
abbrev cX6_ringOf : ByteArray := prog_8_method_3_code
def yX6_ringOf : MethodName := ⟨RX6, "ringOf", "(I)LFibreLoops$Ring;"⟩
abbrev cX6_ringWith : ByteArray := prog_8_method_4_code
def yX6_ringWith : MethodName := ⟨RX6, "ringWith", "(II)LFibreLoops$Ring;"⟩
abbrev cX6_deviceOf : ByteArray := prog_8_method_5_code
def yX6_deviceOf : MethodName := ⟨RX6, "deviceOf", "(I)LFibreLoops$Device;"⟩
abbrev cX6_joinOf : ByteArray := prog_8_method_6_code
def yX6_joinOf : MethodName := ⟨RX6, "joinOf", "(I)LFibreLoops$Join;"⟩
abbrev cX6_setting : ByteArray := prog_8_method_7_code
def yX6_setting : MethodName := ⟨RX6, "setting", "(I)I"⟩
abbrev cX6_changeSetting : ByteArray := prog_8_method_8_code
def yX6_changeSetting : MethodName := ⟨RX6, "changeSetting", "(II)I"⟩
abbrev cX6_addRing : ByteArray := prog_8_method_9_code
def yX6_addRing : MethodName := ⟨RX6, "addRing", "(I)I"⟩
abbrev cX6_addDevice : ByteArray := prog_8_method_10_code
def yX6_addDevice : MethodName := ⟨RX6, "addDevice", "(IIIII)I"⟩
abbrev cX6_addJoin : ByteArray := prog_8_method_11_code
def yX6_addJoin : MethodName := ⟨RX6, "addJoin", "(IIII)I"⟩
abbrev cX6_turnJoin : ByteArray := prog_8_method_12_code
def yX6_turnJoin : MethodName := ⟨RX6, "turnJoin", "(II)I"⟩
abbrev cX6_feedDevice : ByteArray := prog_8_method_13_code
def yX6_feedDevice : MethodName := ⟨RX6, "feedDevice", "(II)I"⟩
abbrev cX6_lightFlash : ByteArray := prog_8_method_14_code
def yX6_lightFlash : MethodName := ⟨RX6, "lightFlash", "(III)I"⟩
abbrev cX6_passTicks : ByteArray := prog_8_method_15_code
def yX6_passTicks : MethodName := ⟨RX6, "passTicks", "(I)I"⟩
abbrev cX6_ticksToLoss : ByteArray := prog_8_method_16_code
def yX6_ticksToLoss : MethodName := ⟨RX6, "ticksToLoss", "(I)I"⟩
abbrev cX6_passOne : ByteArray := prog_8_method_17_code
def yX6_passOne : MethodName := ⟨RX6, "passOne", "()V"⟩
abbrev cX6_flashesInAll : ByteArray := prog_8_method_18_code
def yX6_flashesInAll : MethodName := ⟨RX6, "flashesInAll", "()I"⟩
abbrev cX6_tallyInAll : ByteArray := prog_8_method_19_code
def yX6_tallyInAll : MethodName := ⟨RX6, "tallyInAll", "(I)I"⟩
def RX7 : String := "FibreLoops"
def TX7 : u_T := fun k => match k with
  | 0 => ("FibreLoops", "now", "LFibreLoops$State;", true)
  | 1 => ("FibreLoops", "trial", "LFibreLoops$State;", true)
  | 2 => ("FibreLoops", "history", "LFibreLoops$History;", true)
  | 3 => ("FibreLoops", "slots", "[LFibreLoops$State;", true)
  | 4 => ("FibreLoops", "filled", "[Z", true)
  | 5 => ("FibreLoops", "pad", "LFibreLoops$Pad;", true)
  | _ => ("FibreLoops", "orders", "LFibreLoops$OrderReader;", true)
def tyX7 : Nat → FieldType := fun k => match k with
  | 0 => .object "FibreLoops$State"
  | 1 => .object "FibreLoops$State"
  | 2 => .object "FibreLoops$History"
  | 3 => .array (.object "FibreLoops$State")
  | 4 => .array .boolean
  | 5 => .object "FibreLoops$Pad"
  | _ => .object "FibreLoops$OrderReader"
abbrev wsX70 : List Cond := u_ws RX7 TX7 7
theorem nmX7 : ∀ a, a < 7 → ∀ b, b < 7 → a ≠ b → (TX7 a).2.1 ≠ (TX7 b).2.1 := by decide +kernel
theorem tyX7_ok : ∀ k, k < 7 → parseFieldDescriptor (TX7 k).2.2.1 = some (tyX7 k) := by decide +kernel
abbrev cX7_init : ByteArray := prog_1_method_1_code
def yX7_init : MethodName := ⟨RX7, "<init>", "()V"⟩
abbrev cX7_set : ByteArray := prog_1_method_2_code
def yX7_set : MethodName := ⟨RX7, "set", "(II)I"⟩
abbrev cX7_loop : ByteArray := prog_1_method_3_code
def yX7_loop : MethodName := ⟨RX7, "loop", "(I)I"⟩
abbrev cX7_device : ByteArray := prog_1_method_4_code
def yX7_device : MethodName := ⟨RX7, "device", "(IIIII)I"⟩
abbrev cX7_join : ByteArray := prog_1_method_5_code
def yX7_join : MethodName := ⟨RX7, "join", "(IIII)I"⟩
abbrev cX7_turn : ByteArray := prog_1_method_6_code
def yX7_turn : MethodName := ⟨RX7, "turn", "(II)I"⟩
abbrev cX7_feed : ByteArray := prog_1_method_7_code
def yX7_feed : MethodName := ⟨RX7, "feed", "(II)I"⟩
abbrev cX7_light : ByteArray := prog_1_method_8_code
def yX7_light : MethodName := ⟨RX7, "light", "(III)I"⟩
abbrev cX7_ticks : ByteArray := prog_1_method_9_code
def yX7_ticks : MethodName := ⟨RX7, "ticks", "(I)I"⟩
abbrev cX7_at : ByteArray := prog_1_method_10_code
def yX7_at : MethodName := ⟨RX7, "at", "(III)I"⟩
abbrev cX7_ofLoop : ByteArray := prog_1_method_11_code
def yX7_ofLoop : MethodName := ⟨RX7, "ofLoop", "(II)I"⟩
abbrev cX7_ofDevice : ByteArray := prog_1_method_12_code
def yX7_ofDevice : MethodName := ⟨RX7, "ofDevice", "(II)I"⟩
abbrev cX7_noted : ByteArray := prog_1_method_13_code
def yX7_noted : MethodName := ⟨RX7, "noted", "(II)I"⟩
abbrev cX7_ofJoin : ByteArray := prog_1_method_14_code
def yX7_ofJoin : MethodName := ⟨RX7, "ofJoin", "(II)I"⟩
abbrev cX7_find : ByteArray := prog_1_method_15_code
def yX7_find : MethodName := ⟨RX7, "find", "(II)I"⟩
abbrev cX7_count : ByteArray := prog_1_method_16_code
def yX7_count : MethodName := ⟨RX7, "count", "(I)I"⟩
abbrev cX7_valueIn : ByteArray := prog_1_method_17_code
def yX7_valueIn : MethodName := ⟨RX7, "valueIn", "(III)I"⟩
abbrev cX7_leftIn : ByteArray := prog_1_method_18_code
def yX7_leftIn : MethodName := ⟨RX7, "leftIn", "(I)I"⟩
abbrev cX7_firstLoss : ByteArray := prog_1_method_19_code
def yX7_firstLoss : MethodName := ⟨RX7, "firstLoss", "()I"⟩
abbrev cX7_bestPlace : ByteArray := prog_1_method_20_code
def yX7_bestPlace : MethodName := ⟨RX7, "bestPlace", "(IIII)I"⟩
abbrev cX7_bearable : ByteArray := prog_1_method_21_code
def yX7_bearable : MethodName := ⟨RX7, "bearable", "()I"⟩
abbrev cX7_put : ByteArray := prog_1_method_22_code
def yX7_put : MethodName := ⟨RX7, "put", "(J)I"⟩
abbrev cX7_wipe : ByteArray := prog_1_method_23_code
def yX7_wipe : MethodName := ⟨RX7, "wipe", "()I"⟩
abbrev cX7_fault : ByteArray := prog_1_method_24_code
def yX7_fault : MethodName := ⟨RX7, "fault", "()I"⟩
abbrev cX7_carryOut : ByteArray := prog_1_method_25_code
def yX7_carryOut : MethodName := ⟨RX7, "carryOut", "()I"⟩
abbrev cX7_carryOrder : ByteArray := prog_1_method_26_code
def yX7_carryOrder : MethodName := ⟨RX7, "carryOrder", "()Z"⟩
abbrev cX7_feedAll : ByteArray := prog_1_method_27_code
def yX7_feedAll : MethodName := ⟨RX7, "feedAll", "(I)Z"⟩
abbrev cX7_undo : ByteArray := prog_1_method_28_code
def yX7_undo : MethodName := ⟨RX7, "undo", "()I"⟩
abbrev cX7_save : ByteArray := prog_1_method_29_code
def yX7_save : MethodName := ⟨RX7, "save", "(I)I"⟩
abbrev cX7_restore : ByteArray := prog_1_method_30_code
def yX7_restore : MethodName := ⟨RX7, "restore", "(I)I"⟩
abbrev cX7_slotOf : ByteArray := prog_1_method_31_code
def yX7_slotOf : MethodName := ⟨RX7, "slotOf", "(I)LFibreLoops$State;"⟩
abbrev cX7_isBetween : ByteArray := prog_1_method_32_code
def yX7_isBetween : MethodName := ⟨RX7, "isBetween", "(III)Z"⟩
abbrev cX7_isValue : ByteArray := prog_1_method_33_code
def yX7_isValue : MethodName := ⟨RX7, "isValue", "(I)Z"⟩
abbrev cX7_fits : ByteArray := prog_1_method_34_code
def yX7_fits : MethodName := ⟨RX7, "fits", "(III)Z"⟩
abbrev cX7_signIn : ByteArray := prog_1_method_35_code
def yX7_signIn : MethodName := ⟨RX7, "signIn", "(JI)C"⟩
abbrev cX7_signsIn : ByteArray := prog_1_method_36_code
def yX7_signsIn : MethodName := ⟨RX7, "signsIn", "(J)I"⟩
abbrev cX7_copyRow : ByteArray := prog_1_method_37_code
def yX7_copyRow : MethodName := ⟨RX7, "copyRow", "([I[I)V"⟩
abbrev cX7_turnRow : ByteArray := prog_1_method_38_code
def yX7_turnRow : MethodName := ⟨RX7, "turnRow", "([II)V"⟩
def RX8 : String := "FibreLoopsModel"
def TX8 : u_T := fun k => match k with
  | 0 => ("FibreLoopsModel", "at", "[I", true)
  | 1 => ("FibreLoopsModel", "past", "[I", true)
  | 2 => ("FibreLoopsModel", "pastFirst", "I", false)
  | 3 => ("FibreLoopsModel", "pastMany", "I", false)
  | 4 => ("FibreLoopsModel", "slots", "[I", true)
  | 5 => ("FibreLoopsModel", "isSaved", "[Z", true)
  | 6 => ("FibreLoopsModel", "aside", "[I", true)
  | 7 => ("FibreLoopsModel", "pad", "[I", true)
  | 8 => ("FibreLoopsModel", "padMany", "I", false)
  | 9 => ("FibreLoopsModel", "spot", "I", false)
  | 10 => ("FibreLoopsModel", "isWrong", "Z", false)
  | 11 => ("FibreLoopsModel", "orders", "I", false)
  | 12 => ("FibreLoopsModel", "read", "I", false)
  | 13 => ("FibreLoopsModel", "sort", "[I", true)
  | 14 => ("FibreLoopsModel", "begins", "[I", true)
  | _ => ("FibreLoopsModel", "numbers", "[I", true)
def tyX8 : Nat → FieldType := fun k => match k with
  | 0 => .array .int
  | 1 => .array .int
  | 2 => .int
  | 3 => .int
  | 4 => .array .int
  | 5 => .array .boolean
  | 6 => .array .int
  | 7 => .array .int
  | 8 => .int
  | 9 => .int
  | 10 => .boolean
  | 11 => .int
  | 12 => .int
  | 13 => .array .int
  | 14 => .array .int
  | _ => .array .int
abbrev wsX80 : List Cond := u_ws RX8 TX8 16
theorem nmX8 : ∀ a, a < 16 → ∀ b, b < 16 → a ≠ b → (TX8 a).2.1 ≠ (TX8 b).2.1 := by decide +kernel
theorem tyX8_ok : ∀ k, k < 16 → parseFieldDescriptor (TX8 k).2.2.1 = some (tyX8 k) := by decide +kernel
abbrev cX8_init : ByteArray := prog_10_method_1_code
def yX8_init : MethodName := ⟨RX8, "<init>", "()V"⟩
abbrev cX8_in : ByteArray := prog_10_method_3_code
def yX8_in : MethodName := ⟨RX8, "in", "(III)Z"⟩
abbrev cX8_ofL : ByteArray := prog_10_method_4_code
def yX8_ofL : MethodName := ⟨RX8, "ofL", "(II)I"⟩
abbrev cX8_moreL : ByteArray := prog_10_method_5_code
def yX8_moreL : MethodName := ⟨RX8, "moreL", "(II)V"⟩
abbrev cX8_ofD : ByteArray := prog_10_method_6_code
def yX8_ofD : MethodName := ⟨RX8, "ofD", "(II)I"⟩
abbrev cX8_layD : ByteArray := prog_10_method_7_code
def yX8_layD : MethodName := ⟨RX8, "layD", "(III)V"⟩
abbrev cX8_ofJ : ByteArray := prog_10_method_8_code
def yX8_ofJ : MethodName := ⟨RX8, "ofJ", "(II)I"⟩
abbrev cX8_cell : ByteArray := prog_10_method_9_code
def yX8_cell : MethodName := ⟨RX8, "cell", "(II)I"⟩
abbrev cX8_isLoop : ByteArray := prog_10_method_10_code
def yX8_isLoop : MethodName := ⟨RX8, "isLoop", "(I)Z"⟩
abbrev cX8_isPlace : ByteArray := prog_10_method_11_code
def yX8_isPlace : MethodName := ⟨RX8, "isPlace", "(II)Z"⟩
abbrev cX8_isDevice : ByteArray := prog_10_method_12_code
def yX8_isDevice : MethodName := ⟨RX8, "isDevice", "(I)Z"⟩
abbrev cX8_isValue : ByteArray := prog_10_method_13_code
def yX8_isValue : MethodName := ⟨RX8, "isValue", "(I)Z"⟩
abbrev cX8_keep : ByteArray := prog_10_method_14_code
def yX8_keep : MethodName := ⟨RX8, "keep", "()V"⟩
abbrev cX8_keepIf : ByteArray := prog_10_method_15_code
def yX8_keepIf : MethodName := ⟨RX8, "keepIf", "(Z)V"⟩
abbrev cX8_layAside : ByteArray := prog_10_method_16_code
def yX8_layAside : MethodName := ⟨RX8, "layAside", "()V"⟩
abbrev cX8_layBack : ByteArray := prog_10_method_17_code
def yX8_layBack : MethodName := ⟨RX8, "layBack", "()V"⟩
abbrev cX8_clear : ByteArray := prog_10_method_18_code
def yX8_clear : MethodName := ⟨RX8, "clear", "(I)V"⟩
abbrev cX8_shine : ByteArray := prog_10_method_19_code
def yX8_shine : MethodName := ⟨RX8, "shine", "(III)V"⟩
abbrev cX8_moveTo : ByteArray := prog_10_method_20_code
def yX8_moveTo : MethodName := ⟨RX8, "moveTo", "(II)V"⟩
abbrev cX8_turnOn : ByteArray := prog_10_method_21_code
def yX8_turnOn : MethodName := ⟨RX8, "turnOn", "(I)V"⟩
abbrev cX8_fade : ByteArray := prog_10_method_22_code
def yX8_fade : MethodName := ⟨RX8, "fade", "(III)V"⟩
abbrev cX8_fadeAll : ByteArray := prog_10_method_23_code
def yX8_fadeAll : MethodName := ⟨RX8, "fadeAll", "(I)V"⟩
abbrev cX8_did : ByteArray := prog_10_method_24_code
def yX8_did : MethodName := ⟨RX8, "did", "(I)V"⟩
abbrev cX8_amplify : ByteArray := prog_10_method_25_code
def yX8_amplify : MethodName := ⟨RX8, "amplify", "(II)V"⟩
abbrev cX8_note : ByteArray := prog_10_method_26_code
def yX8_note : MethodName := ⟨RX8, "note", "(II)V"⟩
abbrev cX8_putIn : ByteArray := prog_10_method_27_code
def yX8_putIn : MethodName := ⟨RX8, "putIn", "(II)V"⟩
abbrev cX8_act : ByteArray := prog_10_method_28_code
def yX8_act : MethodName := ⟨RX8, "act", "(I)V"⟩
abbrev cX8_crossed : ByteArray := prog_10_method_29_code
def yX8_crossed : MethodName := ⟨RX8, "crossed", "(III)V"⟩
abbrev cX8_cross : ByteArray := prog_10_method_30_code
def yX8_cross : MethodName := ⟨RX8, "cross", "(I)V"⟩
abbrev cX8_recover : ByteArray := prog_10_method_31_code
def yX8_recover : MethodName := ⟨RX8, "recover", "(I)V"⟩
abbrev cX8_pass : ByteArray := prog_10_method_32_code
def yX8_pass : MethodName := ⟨RX8, "pass", "()V"⟩
abbrev cX8_passAll : ByteArray := prog_10_method_33_code
def yX8_passAll : MethodName := ⟨RX8, "passAll", "(I)V"⟩
abbrev cX8_highest : ByteArray := prog_10_method_34_code
def yX8_highest : MethodName := ⟨RX8, "highest", "(I)I"⟩
abbrev cX8_set : ByteArray := prog_10_method_35_code
def yX8_set : MethodName := ⟨RX8, "set", "(II)I"⟩
abbrev cX8_loop : ByteArray := prog_10_method_36_code
def yX8_loop : MethodName := ⟨RX8, "loop", "(I)I"⟩
abbrev cX8_areNumbers : ByteArray := prog_10_method_37_code
def yX8_areNumbers : MethodName := ⟨RX8, "areNumbers", "(III)Z"⟩
abbrev cX8_make : ByteArray := prog_10_method_38_code
def yX8_make : MethodName := ⟨RX8, "make", "(IIIII)V"⟩
abbrev cX8_device : ByteArray := prog_10_method_39_code
def yX8_device : MethodName := ⟨RX8, "device", "(IIIII)I"⟩
abbrev cX8_join : ByteArray := prog_10_method_40_code
def yX8_join : MethodName := ⟨RX8, "join", "(IIII)I"⟩
abbrev cX8_tryTurn : ByteArray := prog_10_method_41_code
def yX8_tryTurn : MethodName := ⟨RX8, "tryTurn", "(IIZ)I"⟩
abbrev cX8_turn : ByteArray := prog_10_method_42_code
def yX8_turn : MethodName := ⟨RX8, "turn", "(II)I"⟩
abbrev cX8_tryFeed : ByteArray := prog_10_method_43_code
def yX8_tryFeed : MethodName := ⟨RX8, "tryFeed", "(IIZ)I"⟩
abbrev cX8_feed : ByteArray := prog_10_method_44_code
def yX8_feed : MethodName := ⟨RX8, "feed", "(II)I"⟩
abbrev cX8_flashes : ByteArray := prog_10_method_45_code
def yX8_flashes : MethodName := ⟨RX8, "flashes", "(I)I"⟩
abbrev cX8_tryLight : ByteArray := prog_10_method_46_code
def yX8_tryLight : MethodName := ⟨RX8, "tryLight", "(IIIZ)I"⟩
abbrev cX8_light : ByteArray := prog_10_method_47_code
def yX8_light : MethodName := ⟨RX8, "light", "(III)I"⟩
abbrev cX8_tryTicks : ByteArray := prog_10_method_48_code
def yX8_tryTicks : MethodName := ⟨RX8, "tryTicks", "(IZ)I"⟩
abbrev cX8_ticks : ByteArray := prog_10_method_49_code
def yX8_ticks : MethodName := ⟨RX8, "ticks", "(I)I"⟩
abbrev cX8_at : ByteArray := prog_10_method_50_code
def yX8_at : MethodName := ⟨RX8, "at", "(III)I"⟩
abbrev cX8_strengths : ByteArray := prog_10_method_51_code
def yX8_strengths : MethodName := ⟨RX8, "strengths", "(I)I"⟩
abbrev cX8_faintest : ByteArray := prog_10_method_52_code
def yX8_faintest : MethodName := ⟨RX8, "faintest", "(I)I"⟩
abbrev cX8_ofLoop : ByteArray := prog_10_method_53_code
def yX8_ofLoop : MethodName := ⟨RX8, "ofLoop", "(II)I"⟩
abbrev cX8_ofDevice : ByteArray := prog_10_method_54_code
def yX8_ofDevice : MethodName := ⟨RX8, "ofDevice", "(II)I"⟩
abbrev cX8_noted : ByteArray := prog_10_method_55_code
def yX8_noted : MethodName := ⟨RX8, "noted", "(II)I"⟩
abbrev cX8_ofJoin : ByteArray := prog_10_method_56_code
def yX8_ofJoin : MethodName := ⟨RX8, "ofJoin", "(II)I"⟩
abbrev cX8_find : ByteArray := prog_10_method_57_code
def yX8_find : MethodName := ⟨RX8, "find", "(II)I"⟩
abbrev cX8_sum : ByteArray := prog_10_method_58_code
def yX8_sum : MethodName := ⟨RX8, "sum", "(I)I"⟩
abbrev cX8_count : ByteArray := prog_10_method_59_code
def yX8_count : MethodName := ⟨RX8, "count", "(I)I"⟩
abbrev cX8_valueIn : ByteArray := prog_10_method_60_code
def yX8_valueIn : MethodName := ⟨RX8, "valueIn", "(III)I"⟩
abbrev cX8_leftIn : ByteArray := prog_10_method_61_code
def yX8_leftIn : MethodName := ⟨RX8, "leftIn", "(I)I"⟩
abbrev cX8_lossWithin : ByteArray := prog_10_method_62_code
def yX8_lossWithin : MethodName := ⟨RX8, "lossWithin", "(I)I"⟩
abbrev cX8_firstLoss : ByteArray := prog_10_method_63_code
def yX8_firstLoss : MethodName := ⟨RX8, "firstLoss", "()I"⟩
abbrev cX8_bestPlace : ByteArray := prog_10_method_64_code
def yX8_bestPlace : MethodName := ⟨RX8, "bestPlace", "(IIII)I"⟩
abbrev cX8_bearable : ByteArray := prog_10_method_65_code
def yX8_bearable : MethodName := ⟨RX8, "bearable", "()I"⟩
abbrev cX8_put : ByteArray := prog_10_method_66_code
def yX8_put : MethodName := ⟨RX8, "put", "(J)I"⟩
abbrev cX8_wipe : ByteArray := prog_10_method_67_code
def yX8_wipe : MethodName := ⟨RX8, "wipe", "()I"⟩
abbrev cX8_next : ByteArray := prog_10_method_68_code
def yX8_next : MethodName := ⟨RX8, "next", "()I"⟩
abbrev cX8_takeSign : ByteArray := prog_10_method_69_code
def yX8_takeSign : MethodName := ⟨RX8, "takeSign", "(I)V"⟩
abbrev cX8_takeNumber : ByteArray := prog_10_method_70_code
def yX8_takeNumber : MethodName := ⟨RX8, "takeNumber", "()V"⟩
abbrev cX8_takeMode : ByteArray := prog_10_method_71_code
def yX8_takeMode : MethodName := ⟨RX8, "takeMode", "()V"⟩
abbrev cX8_takeOrder : ByteArray := prog_10_method_72_code
def yX8_takeOrder : MethodName := ⟨RX8, "takeOrder", "()V"⟩
abbrev cX8_fault : ByteArray := prog_10_method_73_code
def yX8_fault : MethodName := ⟨RX8, "fault", "()I"⟩
abbrev cX8_feedAll : ByteArray := prog_10_method_74_code
def yX8_feedAll : MethodName := ⟨RX8, "feedAll", "(I)I"⟩
abbrev cX8_carry : ByteArray := prog_10_method_75_code
def yX8_carry : MethodName := ⟨RX8, "carry", "(I)I"⟩
abbrev cX8_carryOut : ByteArray := prog_10_method_76_code
def yX8_carryOut : MethodName := ⟨RX8, "carryOut", "()I"⟩
abbrev cX8_undo : ByteArray := prog_10_method_77_code
def yX8_undo : MethodName := ⟨RX8, "undo", "()I"⟩
abbrev cX8_save : ByteArray := prog_10_method_78_code
def yX8_save : MethodName := ⟨RX8, "save", "(I)I"⟩
abbrev cX8_restore : ByteArray := prog_10_method_79_code
def yX8_restore : MethodName := ⟨RX8, "restore", "(I)I"⟩
def RL : String := "FibreLoopsLaw"
abbrev cL_law : ByteArray := code
def yL_law : MethodName := ⟨RL, "law", "([I)Z"⟩
end
section
theorem dX0_init_0 : decode cX0_init 0 = .ok (.aload_n 0, 1) := by decide +kernel
theorem dX0_init_1 : decode cX0_init 1 = .ok (.invokespecial 3, 3) := by decide +kernel
theorem dX0_init_4 : decode cX0_init 4 = .ok (.aload_n 0, 1) := by decide +kernel
theorem dX0_init_5 : decode cX0_init 5 = .ok (.bipush 12, 2) := by decide +kernel
theorem dX0_init_7 : decode cX0_init 7 = .ok (.newarray .int, 2) := by decide +kernel
theorem dX0_init_9 : decode cX0_init 9 = .ok (.putfield 9, 3) := by decide +kernel
theorem dX0_init_12 : decode cX0_init 12 = .ok (.return_, 1) := by decide +kernel
theorem dX0_begin_0 : decode cX0_begin 0 = .ok (.aload_n 0, 1) := by decide +kernel
theorem dX0_begin_1 : decode cX0_begin 1 = .ok (.iload_n 1, 1) := by decide +kernel
theorem dX0_begin_2 : decode cX0_begin 2 = .ok (.putfield 15, 3) := by decide +kernel
theorem dX0_begin_5 : decode cX0_begin 5 = .ok (.aload_n 0, 1) := by decide +kernel
theorem dX0_begin_6 : decode cX0_begin 6 = .ok (.iload_n 2, 1) := by decide +kernel
theorem dX0_begin_7 : decode cX0_begin 7 = .ok (.putfield 19, 3) := by decide +kernel
theorem dX0_begin_10 : decode cX0_begin 10 = .ok (.aload_n 0, 1) := by decide +kernel
theorem dX0_begin_11 : decode cX0_begin 11 = .ok (.iload_n 3, 1) := by decide +kernel
theorem dX0_begin_12 : decode cX0_begin 12 = .ok (.putfield 22, 3) := by decide +kernel
theorem dX0_begin_15 : decode cX0_begin 15 = .ok (.aload_n 0, 1) := by decide +kernel
theorem dX0_begin_16 : decode cX0_begin 16 = .ok (.iload 4, 2) := by decide +kernel
theorem dX0_begin_18 : decode cX0_begin 18 = .ok (.putfield 25, 3) := by decide +kernel
theorem dX0_begin_21 : decode cX0_begin 21 = .ok (.aload_n 0, 1) := by decide +kernel
theorem dX0_begin_22 : decode cX0_begin 22 = .ok (.iload 5, 2) := by decide +kernel
theorem dX0_begin_24 : decode cX0_begin 24 = .ok (.putfield 28, 3) := by decide +kernel
theorem dX0_begin_27 : decode cX0_begin 27 = .ok (.aload_n 0, 1) := by decide +kernel
theorem dX0_begin_28 : decode cX0_begin 28 = .ok (.iload_n 3, 1) := by decide +kernel
theorem dX0_begin_29 : decode cX0_begin 29 = .ok (.ifCond .ne 8, 3) := by decide +kernel
theorem dX0_begin_32 : decode cX0_begin 32 = .ok (.iload 5, 2) := by decide +kernel
theorem dX0_begin_34 : decode cX0_begin 34 = .ok (.goto 4, 3) := by decide +kernel
theorem dX0_begin_37 : decode cX0_begin 37 = .ok (.iconst 0, 1) := by decide +kernel
theorem dX0_begin_38 : decode cX0_begin 38 = .ok (.putfield 31, 3) := by decide +kernel
theorem dX0_begin_41 : decode cX0_begin 41 = .ok (.aload_n 0, 1) := by decide +kernel
theorem dX0_begin_42 : decode cX0_begin 42 = .ok (.iconst 0, 1) := by decide +kernel
theorem dX0_begin_43 : decode cX0_begin 43 = .ok (.putfield 34, 3) := by decide +kernel
theorem dX0_begin_46 : decode cX0_begin 46 = .ok (.aload_n 0, 1) := by decide +kernel
theorem dX0_begin_47 : decode cX0_begin 47 = .ok (.iconst 0, 1) := by decide +kernel
theorem dX0_begin_48 : decode cX0_begin 48 = .ok (.putfield 37, 3) := by decide +kernel
theorem dX0_begin_51 : decode cX0_begin 51 = .ok (.return_, 1) := by decide +kernel
theorem dX0_copyFrom_0 : decode cX0_copyFrom 0 = .ok (.aload_n 0, 1) := by decide +kernel
theorem dX0_copyFrom_1 : decode cX0_copyFrom 1 = .ok (.aload_n 1, 1) := by decide +kernel
theorem dX0_copyFrom_2 : decode cX0_copyFrom 2 = .ok (.getfield 22, 3) := by decide +kernel
theorem dX0_copyFrom_5 : decode cX0_copyFrom 5 = .ok (.putfield 22, 3) := by decide +kernel
theorem dX0_copyFrom_8 : decode cX0_copyFrom 8 = .ok (.aload_n 0, 1) := by decide +kernel
theorem dX0_copyFrom_9 : decode cX0_copyFrom 9 = .ok (.aload_n 1, 1) := by decide +kernel
theorem dX0_copyFrom_10 : decode cX0_copyFrom 10 = .ok (.getfield 15, 3) := by decide +kernel
theorem dX0_copyFrom_13 : decode cX0_copyFrom 13 = .ok (.putfield 15, 3) := by decide +kernel
theorem dX0_copyFrom_16 : decode cX0_copyFrom 16 = .ok (.aload_n 0, 1) := by decide +kernel
theorem dX0_copyFrom_17 : decode cX0_copyFrom 17 = .ok (.aload_n 1, 1) := by decide +kernel
theorem dX0_copyFrom_18 : decode cX0_copyFrom 18 = .ok (.getfield 19, 3) := by decide +kernel
theorem dX0_copyFrom_21 : decode cX0_copyFrom 21 = .ok (.putfield 19, 3) := by decide +kernel
theorem dX0_copyFrom_24 : decode cX0_copyFrom 24 = .ok (.aload_n 0, 1) := by decide +kernel
theorem dX0_copyFrom_25 : decode cX0_copyFrom 25 = .ok (.aload_n 1, 1) := by decide +kernel
theorem dX0_copyFrom_26 : decode cX0_copyFrom 26 = .ok (.getfield 25, 3) := by decide +kernel
theorem dX0_copyFrom_29 : decode cX0_copyFrom 29 = .ok (.putfield 25, 3) := by decide +kernel
theorem dX0_copyFrom_32 : decode cX0_copyFrom 32 = .ok (.aload_n 0, 1) := by decide +kernel
theorem dX0_copyFrom_33 : decode cX0_copyFrom 33 = .ok (.aload_n 1, 1) := by decide +kernel
theorem dX0_copyFrom_34 : decode cX0_copyFrom 34 = .ok (.getfield 28, 3) := by decide +kernel
theorem dX0_copyFrom_37 : decode cX0_copyFrom 37 = .ok (.putfield 28, 3) := by decide +kernel
theorem dX0_copyFrom_40 : decode cX0_copyFrom 40 = .ok (.aload_n 0, 1) := by decide +kernel
theorem dX0_copyFrom_41 : decode cX0_copyFrom 41 = .ok (.aload_n 1, 1) := by decide +kernel
theorem dX0_copyFrom_42 : decode cX0_copyFrom 42 = .ok (.getfield 31, 3) := by decide +kernel
theorem dX0_copyFrom_45 : decode cX0_copyFrom 45 = .ok (.putfield 31, 3) := by decide +kernel
theorem dX0_copyFrom_48 : decode cX0_copyFrom 48 = .ok (.aload_n 0, 1) := by decide +kernel
theorem dX0_copyFrom_49 : decode cX0_copyFrom 49 = .ok (.aload_n 1, 1) := by decide +kernel
theorem dX0_copyFrom_50 : decode cX0_copyFrom 50 = .ok (.getfield 34, 3) := by decide +kernel
theorem dX0_copyFrom_53 : decode cX0_copyFrom 53 = .ok (.putfield 34, 3) := by decide +kernel
theorem dX0_copyFrom_56 : decode cX0_copyFrom 56 = .ok (.aload_n 0, 1) := by decide +kernel
theorem dX0_copyFrom_57 : decode cX0_copyFrom 57 = .ok (.aload_n 1, 1) := by decide +kernel
theorem dX0_copyFrom_58 : decode cX0_copyFrom 58 = .ok (.getfield 37, 3) := by decide +kernel
theorem dX0_copyFrom_61 : decode cX0_copyFrom 61 = .ok (.putfield 37, 3) := by decide +kernel
theorem dX0_copyFrom_64 : decode cX0_copyFrom 64 = .ok (.aload_n 1, 1) := by decide +kernel
theorem dX0_copyFrom_65 : decode cX0_copyFrom 65 = .ok (.getfield 9, 3) := by decide +kernel
theorem dX0_copyFrom_68 : decode cX0_copyFrom 68 = .ok (.aload_n 0, 1) := by decide +kernel
theorem dX0_copyFrom_69 : decode cX0_copyFrom 69 = .ok (.getfield 9, 3) := by decide +kernel
theorem dX0_copyFrom_72 : decode cX0_copyFrom 72 = .ok (.invokestatic 40, 3) := by decide +kernel
theorem dX0_copyFrom_75 : decode cX0_copyFrom 75 = .ok (.return_, 1) := by decide +kernel
theorem dX0_keptAt_0 : decode cX0_keptAt 0 = .ok (.iload_n 1, 1) := by decide +kernel
theorem dX0_keptAt_1 : decode cX0_keptAt 1 = .ok (.ifCond .lt 20, 3) := by decide +kernel
theorem dX0_keptAt_4 : decode cX0_keptAt 4 = .ok (.iload_n 1, 1) := by decide +kernel
theorem dX0_keptAt_5 : decode cX0_keptAt 5 = .ok (.aload_n 0, 1) := by decide +kernel
theorem dX0_keptAt_6 : decode cX0_keptAt 6 = .ok (.getfield 37, 3) := by decide +kernel
theorem dX0_keptAt_9 : decode cX0_keptAt 9 = .ok (.if_icmp .ge 12, 3) := by decide +kernel
theorem dX0_keptAt_12 : decode cX0_keptAt 12 = .ok (.aload_n 0, 1) := by decide +kernel
theorem dX0_keptAt_13 : decode cX0_keptAt 13 = .ok (.getfield 9, 3) := by decide +kernel
theorem dX0_keptAt_16 : decode cX0_keptAt 16 = .ok (.iload_n 1, 1) := by decide +kernel
theorem dX0_keptAt_17 : decode cX0_keptAt 17 = .ok (.iaload, 1) := by decide +kernel
theorem dX0_keptAt_18 : decode cX0_keptAt 18 = .ok (.goto 5, 3) := by decide +kernel
theorem dX0_keptAt_21 : decode cX0_keptAt 21 = .ok (.bipush (-6), 2) := by decide +kernel
theorem dX0_keptAt_23 : decode cX0_keptAt 23 = .ok (.ireturn, 1) := by decide +kernel
theorem dX0_keepAsLast_0 : decode cX0_keepAsLast 0 = .ok (.aload_n 0, 1) := by decide +kernel
theorem dX0_keepAsLast_1 : decode cX0_keepAsLast 1 = .ok (.getfield 37, 3) := by decide +kernel
theorem dX0_keepAsLast_4 : decode cX0_keepAsLast 4 = .ok (.bipush 12, 2) := by decide +kernel
theorem dX0_keepAsLast_6 : decode cX0_keepAsLast 6 = .ok (.if_icmp .ge 23, 3) := by decide +kernel
theorem dX0_keepAsLast_9 : decode cX0_keepAsLast 9 = .ok (.aload_n 0, 1) := by decide +kernel
theorem dX0_keepAsLast_10 : decode cX0_keepAsLast 10 = .ok (.getfield 9, 3) := by decide +kernel
theorem dX0_keepAsLast_13 : decode cX0_keepAsLast 13 = .ok (.aload_n 0, 1) := by decide +kernel
theorem dX0_keepAsLast_14 : decode cX0_keepAsLast 14 = .ok (.getfield 37, 3) := by decide +kernel
theorem dX0_keepAsLast_17 : decode cX0_keepAsLast 17 = .ok (.iload_n 1, 1) := by decide +kernel
theorem dX0_keepAsLast_18 : decode cX0_keepAsLast 18 = .ok (.iastore, 1) := by decide +kernel
theorem dX0_keepAsLast_19 : decode cX0_keepAsLast 19 = .ok (.aload_n 0, 1) := by decide +kernel
theorem dX0_keepAsLast_20 : decode cX0_keepAsLast 20 = .ok (.dup, 1) := by decide +kernel
theorem dX0_keepAsLast_21 : decode cX0_keepAsLast 21 = .ok (.getfield 37, 3) := by decide +kernel
theorem dX0_keepAsLast_24 : decode cX0_keepAsLast 24 = .ok (.iconst 1, 1) := by decide +kernel
theorem dX0_keepAsLast_25 : decode cX0_keepAsLast 25 = .ok (.iadd, 1) := by decide +kernel
theorem dX0_keepAsLast_26 : decode cX0_keepAsLast 26 = .ok (.putfield 37, 3) := by decide +kernel
theorem dX0_keepAsLast_29 : decode cX0_keepAsLast 29 = .ok (.return_, 1) := by decide +kernel
theorem dX0_removeFirst_0 : decode cX0_removeFirst 0 = .ok (.aload_n 0, 1) := by decide +kernel
theorem dX0_removeFirst_1 : decode cX0_removeFirst 1 = .ok (.getfield 37, 3) := by decide +kernel
theorem dX0_removeFirst_4 : decode cX0_removeFirst 4 = .ok (.ifCond .le 32, 3) := by decide +kernel
theorem dX0_removeFirst_7 : decode cX0_removeFirst 7 = .ok (.aload_n 0, 1) := by decide +kernel
theorem dX0_removeFirst_8 : decode cX0_removeFirst 8 = .ok (.getfield 9, 3) := by decide +kernel
theorem dX0_removeFirst_11 : decode cX0_removeFirst 11 = .ok (.iconst 1, 1) := by decide +kernel
theorem dX0_removeFirst_12 : decode cX0_removeFirst 12 = .ok (.aload_n 0, 1) := by decide +kernel
theorem dX0_removeFirst_13 : decode cX0_removeFirst 13 = .ok (.getfield 9, 3) := by decide +kernel
theorem dX0_removeFirst_16 : decode cX0_removeFirst 16 = .ok (.iconst 0, 1) := by decide +kernel
theorem dX0_removeFirst_17 : decode cX0_removeFirst 17 = .ok (.aload_n 0, 1) := by decide +kernel
theorem dX0_removeFirst_18 : decode cX0_removeFirst 18 = .ok (.getfield 37, 3) := by decide +kernel
theorem dX0_removeFirst_21 : decode cX0_removeFirst 21 = .ok (.iconst 1, 1) := by decide +kernel
theorem dX0_removeFirst_22 : decode cX0_removeFirst 22 = .ok (.isub, 1) := by decide +kernel
theorem dX0_removeFirst_23 : decode cX0_removeFirst 23 = .ok (.invokestatic 44, 3) := by decide +kernel
theorem dX0_removeFirst_26 : decode cX0_removeFirst 26 = .ok (.aload_n 0, 1) := by decide +kernel
theorem dX0_removeFirst_27 : decode cX0_removeFirst 27 = .ok (.dup, 1) := by decide +kernel
theorem dX0_removeFirst_28 : decode cX0_removeFirst 28 = .ok (.getfield 37, 3) := by decide +kernel
theorem dX0_removeFirst_31 : decode cX0_removeFirst 31 = .ok (.iconst 1, 1) := by decide +kernel
theorem dX0_removeFirst_32 : decode cX0_removeFirst 32 = .ok (.isub, 1) := by decide +kernel
theorem dX0_removeFirst_33 : decode cX0_removeFirst 33 = .ok (.putfield 37, 3) := by decide +kernel
theorem dX0_removeFirst_36 : decode cX0_removeFirst 36 = .ok (.return_, 1) := by decide +kernel
theorem dX0_actOn_0 : decode cX0_actOn 0 = .ok (.aload_n 0, 1) := by decide +kernel
theorem dX0_actOn_1 : decode cX0_actOn 1 = .ok (.getfield 22, 3) := by decide +kernel
theorem dX0_actOn_4 : decode cX0_actOn 4 = .ok (.tableswitch 90 0 4 #[36, 44, 57, 74, 82], 36) := by decide +kernel
theorem dX0_actOn_40 : decode cX0_actOn 40 = .ok (.aload_n 0, 1) := by decide +kernel
theorem dX0_actOn_41 : decode cX0_actOn 41 = .ok (.aload_n 1, 1) := by decide +kernel
theorem dX0_actOn_42 : decode cX0_actOn 42 = .ok (.invokevirtual 50, 3) := by decide +kernel
theorem dX0_actOn_45 : decode cX0_actOn 45 = .ok (.goto 49, 3) := by decide +kernel
theorem dX0_actOn_48 : decode cX0_actOn 48 = .ok (.aload_n 0, 1) := by decide +kernel
theorem dX0_actOn_49 : decode cX0_actOn 49 = .ok (.aload_n 1, 1) := by decide +kernel
theorem dX0_actOn_50 : decode cX0_actOn 50 = .ok (.aload_n 2, 1) := by decide +kernel
theorem dX0_actOn_51 : decode cX0_actOn 51 = .ok (.iconst 1, 1) := by decide +kernel
theorem dX0_actOn_52 : decode cX0_actOn 52 = .ok (.invokevirtual 54, 3) := by decide +kernel
theorem dX0_actOn_55 : decode cX0_actOn 55 = .ok (.invokevirtual 60, 3) := by decide +kernel
theorem dX0_actOn_58 : decode cX0_actOn 58 = .ok (.goto 36, 3) := by decide +kernel
theorem dX0_actOn_61 : decode cX0_actOn 61 = .ok (.aload_n 0, 1) := by decide +kernel
theorem dX0_actOn_62 : decode cX0_actOn 62 = .ok (.aload_n 1, 1) := by decide +kernel
theorem dX0_actOn_63 : decode cX0_actOn 63 = .ok (.aload_n 2, 1) := by decide +kernel
theorem dX0_actOn_64 : decode cX0_actOn 64 = .ok (.iconst 3, 1) := by decide +kernel
theorem dX0_actOn_65 : decode cX0_actOn 65 = .ok (.invokevirtual 54, 3) := by decide +kernel
theorem dX0_actOn_68 : decode cX0_actOn 68 = .ok (.aload_n 2, 1) := by decide +kernel
theorem dX0_actOn_69 : decode cX0_actOn 69 = .ok (.getfield 64, 3) := by decide +kernel
theorem dX0_actOn_72 : decode cX0_actOn 72 = .ok (.invokevirtual 67, 3) := by decide +kernel
theorem dX0_actOn_75 : decode cX0_actOn 75 = .ok (.goto 19, 3) := by decide +kernel
theorem dX0_actOn_78 : decode cX0_actOn 78 = .ok (.aload_n 0, 1) := by decide +kernel
theorem dX0_actOn_79 : decode cX0_actOn 79 = .ok (.aload_n 1, 1) := by decide +kernel
theorem dX0_actOn_80 : decode cX0_actOn 80 = .ok (.invokevirtual 71, 3) := by decide +kernel
theorem dX0_actOn_83 : decode cX0_actOn 83 = .ok (.goto 11, 3) := by decide +kernel
theorem dX0_actOn_86 : decode cX0_actOn 86 = .ok (.aload_n 0, 1) := by decide +kernel
theorem dX0_actOn_87 : decode cX0_actOn 87 = .ok (.aload_n 1, 1) := by decide +kernel
theorem dX0_actOn_88 : decode cX0_actOn 88 = .ok (.invokevirtual 74, 3) := by decide +kernel
theorem dX0_actOn_91 : decode cX0_actOn 91 = .ok (.goto 3, 3) := by decide +kernel
theorem dX0_actOn_94 : decode cX0_actOn 94 = .ok (.return_, 1) := by decide +kernel
theorem dX0_amplify_0 : decode cX0_amplify 0 = .ok (.aload_n 1, 1) := by decide +kernel
theorem dX0_amplify_1 : decode cX0_amplify 1 = .ok (.aload_n 0, 1) := by decide +kernel
theorem dX0_amplify_2 : decode cX0_amplify 2 = .ok (.getfield 19, 3) := by decide +kernel
theorem dX0_amplify_5 : decode cX0_amplify 5 = .ok (.invokevirtual 77, 3) := by decide +kernel
theorem dX0_amplify_8 : decode cX0_amplify 8 = .ok (.istore_n 2, 1) := by decide +kernel
theorem dX0_amplify_9 : decode cX0_amplify 9 = .ok (.iload_n 2, 1) := by decide +kernel
theorem dX0_amplify_10 : decode cX0_amplify 10 = .ok (.ifCond .ne 4, 3) := by decide +kernel
theorem dX0_amplify_13 : decode cX0_amplify 13 = .ok (.return_, 1) := by decide +kernel
theorem dX0_amplify_14 : decode cX0_amplify 14 = .ok (.aload_n 0, 1) := by decide +kernel
theorem dX0_amplify_15 : decode cX0_amplify 15 = .ok (.getfield 25, 3) := by decide +kernel
theorem dX0_amplify_18 : decode cX0_amplify 18 = .ok (.aload_n 0, 1) := by decide +kernel
theorem dX0_amplify_19 : decode cX0_amplify 19 = .ok (.getfield 31, 3) := by decide +kernel
theorem dX0_amplify_22 : decode cX0_amplify 22 = .ok (.invokestatic 82, 3) := by decide +kernel
theorem dX0_amplify_25 : decode cX0_amplify 25 = .ok (.sipush 1000, 3) := by decide +kernel
theorem dX0_amplify_28 : decode cX0_amplify 28 = .ok (.iload_n 2, 1) := by decide +kernel
theorem dX0_amplify_29 : decode cX0_amplify 29 = .ok (.isub, 1) := by decide +kernel
theorem dX0_amplify_30 : decode cX0_amplify 30 = .ok (.invokestatic 82, 3) := by decide +kernel
theorem dX0_amplify_33 : decode cX0_amplify 33 = .ok (.istore_n 3, 1) := by decide +kernel
theorem dX0_amplify_34 : decode cX0_amplify 34 = .ok (.iload_n 3, 1) := by decide +kernel
theorem dX0_amplify_35 : decode cX0_amplify 35 = .ok (.ifCond .le 32, 3) := by decide +kernel
theorem dX0_amplify_38 : decode cX0_amplify 38 = .ok (.aload_n 1, 1) := by decide +kernel
theorem dX0_amplify_39 : decode cX0_amplify 39 = .ok (.aload_n 0, 1) := by decide +kernel
theorem dX0_amplify_40 : decode cX0_amplify 40 = .ok (.getfield 19, 3) := by decide +kernel
theorem dX0_amplify_43 : decode cX0_amplify 43 = .ok (.iload_n 3, 1) := by decide +kernel
theorem dX0_amplify_44 : decode cX0_amplify 44 = .ok (.invokevirtual 88, 3) := by decide +kernel
theorem dX0_amplify_47 : decode cX0_amplify 47 = .ok (.aload_n 0, 1) := by decide +kernel
theorem dX0_amplify_48 : decode cX0_amplify 48 = .ok (.dup, 1) := by decide +kernel
theorem dX0_amplify_49 : decode cX0_amplify 49 = .ok (.getfield 31, 3) := by decide +kernel
theorem dX0_amplify_52 : decode cX0_amplify 52 = .ok (.iload_n 3, 1) := by decide +kernel
theorem dX0_amplify_53 : decode cX0_amplify 53 = .ok (.isub, 1) := by decide +kernel
theorem dX0_amplify_54 : decode cX0_amplify 54 = .ok (.putfield 31, 3) := by decide +kernel
theorem dX0_amplify_57 : decode cX0_amplify 57 = .ok (.aload_n 0, 1) := by decide +kernel
theorem dX0_amplify_58 : decode cX0_amplify 58 = .ok (.dup, 1) := by decide +kernel
theorem dX0_amplify_59 : decode cX0_amplify 59 = .ok (.getfield 34, 3) := by decide +kernel
theorem dX0_amplify_62 : decode cX0_amplify 62 = .ok (.iconst 1, 1) := by decide +kernel
theorem dX0_amplify_63 : decode cX0_amplify 63 = .ok (.iadd, 1) := by decide +kernel
theorem dX0_amplify_64 : decode cX0_amplify 64 = .ok (.putfield 34, 3) := by decide +kernel
theorem dX0_amplify_67 : decode cX0_amplify 67 = .ok (.return_, 1) := by decide +kernel
theorem dX0_note_0 : decode cX0_note 0 = .ok (.aload_n 1, 1) := by decide +kernel
theorem dX0_note_1 : decode cX0_note 1 = .ok (.aload_n 0, 1) := by decide +kernel
theorem dX0_note_2 : decode cX0_note 2 = .ok (.getfield 19, 3) := by decide +kernel
theorem dX0_note_5 : decode cX0_note 5 = .ok (.invokevirtual 77, 3) := by decide +kernel
theorem dX0_note_8 : decode cX0_note 8 = .ok (.ifCond .ne 4, 3) := by decide +kernel
theorem dX0_note_11 : decode cX0_note 11 = .ok (.return_, 1) := by decide +kernel
theorem dX0_note_12 : decode cX0_note 12 = .ok (.aload_n 0, 1) := by decide +kernel
theorem dX0_note_13 : decode cX0_note 13 = .ok (.aload_n 0, 1) := by decide +kernel
theorem dX0_note_14 : decode cX0_note 14 = .ok (.getfield 37, 3) := by decide +kernel
theorem dX0_note_17 : decode cX0_note 17 = .ok (.iconst 1, 1) := by decide +kernel
theorem dX0_note_18 : decode cX0_note 18 = .ok (.iadd, 1) := by decide +kernel
theorem dX0_note_19 : decode cX0_note 19 = .ok (.bipush 8, 2) := by decide +kernel
theorem dX0_note_21 : decode cX0_note 21 = .ok (.invokestatic 82, 3) := by decide +kernel
theorem dX0_note_24 : decode cX0_note 24 = .ok (.putfield 37, 3) := by decide +kernel
theorem dX0_note_27 : decode cX0_note 27 = .ok (.aload_n 0, 1) := by decide +kernel
theorem dX0_note_28 : decode cX0_note 28 = .ok (.getfield 9, 3) := by decide +kernel
theorem dX0_note_31 : decode cX0_note 31 = .ok (.aload_n 0, 1) := by decide +kernel
theorem dX0_note_32 : decode cX0_note 32 = .ok (.getfield 37, 3) := by decide +kernel
theorem dX0_note_35 : decode cX0_note 35 = .ok (.invokestatic 92, 3) := by decide +kernel
theorem dX0_note_38 : decode cX0_note 38 = .ok (.aload_n 0, 1) := by decide +kernel
theorem dX0_note_39 : decode cX0_note 39 = .ok (.getfield 9, 3) := by decide +kernel
theorem dX0_note_42 : decode cX0_note 42 = .ok (.iconst 0, 1) := by decide +kernel
theorem dX0_note_43 : decode cX0_note 43 = .ok (.aload_n 1, 1) := by decide +kernel
theorem dX0_note_44 : decode cX0_note 44 = .ok (.aload_n 0, 1) := by decide +kernel
theorem dX0_note_45 : decode cX0_note 45 = .ok (.getfield 19, 3) := by decide +kernel
theorem dX0_note_48 : decode cX0_note 48 = .ok (.invokevirtual 96, 3) := by decide +kernel
theorem dX0_note_51 : decode cX0_note 51 = .ok (.iastore, 1) := by decide +kernel
theorem dX0_note_52 : decode cX0_note 52 = .ok (.aload_n 1, 1) := by decide +kernel
theorem dX0_note_53 : decode cX0_note 53 = .ok (.aload_n 0, 1) := by decide +kernel
theorem dX0_note_54 : decode cX0_note 54 = .ok (.getfield 19, 3) := by decide +kernel
theorem dX0_note_57 : decode cX0_note 57 = .ok (.iload_n 2, 1) := by decide +kernel
theorem dX0_note_58 : decode cX0_note 58 = .ok (.invokevirtual 99, 3) := by decide +kernel
theorem dX0_note_61 : decode cX0_note 61 = .ok (.aload_n 0, 1) := by decide +kernel
theorem dX0_note_62 : decode cX0_note 62 = .ok (.dup, 1) := by decide +kernel
theorem dX0_note_63 : decode cX0_note 63 = .ok (.getfield 34, 3) := by decide +kernel
theorem dX0_note_66 : decode cX0_note 66 = .ok (.iconst 1, 1) := by decide +kernel
theorem dX0_note_67 : decode cX0_note 67 = .ok (.iadd, 1) := by decide +kernel
theorem dX0_note_68 : decode cX0_note 68 = .ok (.putfield 34, 3) := by decide +kernel
theorem dX0_note_71 : decode cX0_note 71 = .ok (.return_, 1) := by decide +kernel
theorem dX0_putNext_0 : decode cX0_putNext 0 = .ok (.aload_n 0, 1) := by decide +kernel
theorem dX0_putNext_1 : decode cX0_putNext 1 = .ok (.getfield 37, 3) := by decide +kernel
theorem dX0_putNext_4 : decode cX0_putNext 4 = .ok (.ifCond .le 44, 3) := by decide +kernel
theorem dX0_putNext_7 : decode cX0_putNext 7 = .ok (.aload_n 1, 1) := by decide +kernel
theorem dX0_putNext_8 : decode cX0_putNext 8 = .ok (.aload_n 0, 1) := by decide +kernel
theorem dX0_putNext_9 : decode cX0_putNext 9 = .ok (.getfield 19, 3) := by decide +kernel
theorem dX0_putNext_12 : decode cX0_putNext 12 = .ok (.invokevirtual 77, 3) := by decide +kernel
theorem dX0_putNext_15 : decode cX0_putNext 15 = .ok (.ifCond .ne 33, 3) := by decide +kernel
theorem dX0_putNext_18 : decode cX0_putNext 18 = .ok (.aload_n 1, 1) := by decide +kernel
theorem dX0_putNext_19 : decode cX0_putNext 19 = .ok (.aload_n 0, 1) := by decide +kernel
theorem dX0_putNext_20 : decode cX0_putNext 20 = .ok (.getfield 19, 3) := by decide +kernel
theorem dX0_putNext_23 : decode cX0_putNext 23 = .ok (.aload_n 0, 1) := by decide +kernel
theorem dX0_putNext_24 : decode cX0_putNext 24 = .ok (.getfield 9, 3) := by decide +kernel
theorem dX0_putNext_27 : decode cX0_putNext 27 = .ok (.iconst 0, 1) := by decide +kernel
theorem dX0_putNext_28 : decode cX0_putNext 28 = .ok (.iaload, 1) := by decide +kernel
theorem dX0_putNext_29 : decode cX0_putNext 29 = .ok (.iload_n 2, 1) := by decide +kernel
theorem dX0_putNext_30 : decode cX0_putNext 30 = .ok (.iload_n 3, 1) := by decide +kernel
theorem dX0_putNext_31 : decode cX0_putNext 31 = .ok (.invokevirtual 102, 3) := by decide +kernel
theorem dX0_putNext_34 : decode cX0_putNext 34 = .ok (.aload_n 0, 1) := by decide +kernel
theorem dX0_putNext_35 : decode cX0_putNext 35 = .ok (.invokevirtual 106, 3) := by decide +kernel
theorem dX0_putNext_38 : decode cX0_putNext 38 = .ok (.aload_n 0, 1) := by decide +kernel
theorem dX0_putNext_39 : decode cX0_putNext 39 = .ok (.dup, 1) := by decide +kernel
theorem dX0_putNext_40 : decode cX0_putNext 40 = .ok (.getfield 34, 3) := by decide +kernel
theorem dX0_putNext_43 : decode cX0_putNext 43 = .ok (.iconst 1, 1) := by decide +kernel
theorem dX0_putNext_44 : decode cX0_putNext 44 = .ok (.iadd, 1) := by decide +kernel
theorem dX0_putNext_45 : decode cX0_putNext 45 = .ok (.putfield 34, 3) := by decide +kernel
theorem dX0_putNext_48 : decode cX0_putNext 48 = .ok (.return_, 1) := by decide +kernel
theorem dX0_change_0 : decode cX0_change 0 = .ok (.aload_n 1, 1) := by decide +kernel
theorem dX0_change_1 : decode cX0_change 1 = .ok (.aload_n 0, 1) := by decide +kernel
theorem dX0_change_2 : decode cX0_change 2 = .ok (.getfield 19, 3) := by decide +kernel
theorem dX0_change_5 : decode cX0_change 5 = .ok (.invokevirtual 96, 3) := by decide +kernel
theorem dX0_change_8 : decode cX0_change 8 = .ok (.aload_n 0, 1) := by decide +kernel
theorem dX0_change_9 : decode cX0_change 9 = .ok (.getfield 25, 3) := by decide +kernel
theorem dX0_change_12 : decode cX0_change 12 = .ok (.if_icmp .ne 25, 3) := by decide +kernel
theorem dX0_change_15 : decode cX0_change 15 = .ok (.aload_n 1, 1) := by decide +kernel
theorem dX0_change_16 : decode cX0_change 16 = .ok (.aload_n 0, 1) := by decide +kernel
theorem dX0_change_17 : decode cX0_change 17 = .ok (.getfield 19, 3) := by decide +kernel
theorem dX0_change_20 : decode cX0_change 20 = .ok (.aload_n 0, 1) := by decide +kernel
theorem dX0_change_21 : decode cX0_change 21 = .ok (.getfield 28, 3) := by decide +kernel
theorem dX0_change_24 : decode cX0_change 24 = .ok (.invokevirtual 109, 3) := by decide +kernel
theorem dX0_change_27 : decode cX0_change 27 = .ok (.aload_n 0, 1) := by decide +kernel
theorem dX0_change_28 : decode cX0_change 28 = .ok (.dup, 1) := by decide +kernel
theorem dX0_change_29 : decode cX0_change 29 = .ok (.getfield 34, 3) := by decide +kernel
theorem dX0_change_32 : decode cX0_change 32 = .ok (.iconst 1, 1) := by decide +kernel
theorem dX0_change_33 : decode cX0_change 33 = .ok (.iadd, 1) := by decide +kernel
theorem dX0_change_34 : decode cX0_change 34 = .ok (.putfield 34, 3) := by decide +kernel
theorem dX0_change_37 : decode cX0_change 37 = .ok (.return_, 1) := by decide +kernel
theorem dX0_dropValue_0 : decode cX0_dropValue 0 = .ok (.aload_n 1, 1) := by decide +kernel
theorem dX0_dropValue_1 : decode cX0_dropValue 1 = .ok (.aload_n 0, 1) := by decide +kernel
theorem dX0_dropValue_2 : decode cX0_dropValue 2 = .ok (.getfield 19, 3) := by decide +kernel
theorem dX0_dropValue_5 : decode cX0_dropValue 5 = .ok (.invokevirtual 96, 3) := by decide +kernel
theorem dX0_dropValue_8 : decode cX0_dropValue 8 = .ok (.aload_n 0, 1) := by decide +kernel
theorem dX0_dropValue_9 : decode cX0_dropValue 9 = .ok (.getfield 25, 3) := by decide +kernel
theorem dX0_dropValue_12 : decode cX0_dropValue 12 = .ok (.if_icmp .ne 21, 3) := by decide +kernel
theorem dX0_dropValue_15 : decode cX0_dropValue 15 = .ok (.aload_n 1, 1) := by decide +kernel
theorem dX0_dropValue_16 : decode cX0_dropValue 16 = .ok (.aload_n 0, 1) := by decide +kernel
theorem dX0_dropValue_17 : decode cX0_dropValue 17 = .ok (.getfield 19, 3) := by decide +kernel
theorem dX0_dropValue_20 : decode cX0_dropValue 20 = .ok (.invokevirtual 112, 3) := by decide +kernel
theorem dX0_dropValue_23 : decode cX0_dropValue 23 = .ok (.aload_n 0, 1) := by decide +kernel
theorem dX0_dropValue_24 : decode cX0_dropValue 24 = .ok (.dup, 1) := by decide +kernel
theorem dX0_dropValue_25 : decode cX0_dropValue 25 = .ok (.getfield 34, 3) := by decide +kernel
theorem dX0_dropValue_28 : decode cX0_dropValue 28 = .ok (.iconst 1, 1) := by decide +kernel
theorem dX0_dropValue_29 : decode cX0_dropValue 29 = .ok (.iadd, 1) := by decide +kernel
theorem dX0_dropValue_30 : decode cX0_dropValue 30 = .ok (.putfield 34, 3) := by decide +kernel
theorem dX0_dropValue_33 : decode cX0_dropValue 33 = .ok (.return_, 1) := by decide +kernel
theorem dX0_rest_0 : decode cX0_rest 0 = .ok (.aload_n 0, 1) := by decide +kernel
theorem dX0_rest_1 : decode cX0_rest 1 = .ok (.getfield 22, 3) := by decide +kernel
theorem dX0_rest_4 : decode cX0_rest 4 = .ok (.ifCond .ne 20, 3) := by decide +kernel
theorem dX0_rest_7 : decode cX0_rest 7 = .ok (.aload_n 0, 1) := by decide +kernel
theorem dX0_rest_8 : decode cX0_rest 8 = .ok (.aload_n 0, 1) := by decide +kernel
theorem dX0_rest_9 : decode cX0_rest 9 = .ok (.getfield 31, 3) := by decide +kernel
theorem dX0_rest_12 : decode cX0_rest 12 = .ok (.iload_n 1, 1) := by decide +kernel
theorem dX0_rest_13 : decode cX0_rest 13 = .ok (.iadd, 1) := by decide +kernel
theorem dX0_rest_14 : decode cX0_rest 14 = .ok (.aload_n 0, 1) := by decide +kernel
theorem dX0_rest_15 : decode cX0_rest 15 = .ok (.getfield 28, 3) := by decide +kernel
theorem dX0_rest_18 : decode cX0_rest 18 = .ok (.invokestatic 82, 3) := by decide +kernel
theorem dX0_rest_21 : decode cX0_rest 21 = .ok (.putfield 31, 3) := by decide +kernel
theorem dX0_rest_24 : decode cX0_rest 24 = .ok (.return_, 1) := by decide +kernel
theorem dX1_init_0 : decode cX1_init 0 = .ok (.aload_n 0, 1) := by decide +kernel
theorem dX1_init_1 : decode cX1_init 1 = .ok (.invokespecial 3, 3) := by decide +kernel
theorem dX1_init_4 : decode cX1_init 4 = .ok (.aload_n 0, 1) := by decide +kernel
theorem dX1_init_5 : decode cX1_init 5 = .ok (.bipush 7, 2) := by decide +kernel
theorem dX1_init_7 : decode cX1_init 7 = .ok (.anewarray 9, 3) := by decide +kernel
theorem dX1_init_10 : decode cX1_init 10 = .ok (.putfield 11, 3) := by decide +kernel
theorem dX1_init_13 : decode cX1_init 13 = .ok (.iconst 0, 1) := by decide +kernel
theorem dX1_init_14 : decode cX1_init 14 = .ok (.istore_n 1, 1) := by decide +kernel
theorem dX1_init_15 : decode cX1_init 15 = .ok (.iload_n 1, 1) := by decide +kernel
theorem dX1_init_16 : decode cX1_init 16 = .ok (.bipush 6, 2) := by decide +kernel
theorem dX1_init_18 : decode cX1_init 18 = .ok (.if_icmp .gt 22, 3) := by decide +kernel
theorem dX1_init_21 : decode cX1_init 21 = .ok (.aload_n 0, 1) := by decide +kernel
theorem dX1_init_22 : decode cX1_init 22 = .ok (.getfield 11, 3) := by decide +kernel
theorem dX1_init_25 : decode cX1_init 25 = .ok (.iload_n 1, 1) := by decide +kernel
theorem dX1_init_26 : decode cX1_init 26 = .ok (.new 9, 3) := by decide +kernel
theorem dX1_init_29 : decode cX1_init 29 = .ok (.dup, 1) := by decide +kernel
theorem dX1_init_30 : decode cX1_init 30 = .ok (.invokespecial 17, 3) := by decide +kernel
theorem dX1_init_33 : decode cX1_init 33 = .ok (.aastore, 1) := by decide +kernel
theorem dX1_init_34 : decode cX1_init 34 = .ok (.iinc 1 1, 3) := by decide +kernel
theorem dX1_init_37 : decode cX1_init 37 = .ok (.goto (-22), 3) := by decide +kernel
theorem dX1_init_40 : decode cX1_init 40 = .ok (.return_, 1) := by decide +kernel
theorem dX1_holdBack_0 : decode cX1_holdBack 0 = .ok (.aload_n 0, 1) := by decide +kernel
theorem dX1_holdBack_1 : decode cX1_holdBack 1 = .ok (.getfield 11, 3) := by decide +kernel
theorem dX1_holdBack_4 : decode cX1_holdBack 4 = .ok (.aload_n 0, 1) := by decide +kernel
theorem dX1_holdBack_5 : decode cX1_holdBack 5 = .ok (.getfield 18, 3) := by decide +kernel
theorem dX1_holdBack_8 : decode cX1_holdBack 8 = .ok (.aaload, 1) := by decide +kernel
theorem dX1_holdBack_9 : decode cX1_holdBack 9 = .ok (.aload_n 1, 1) := by decide +kernel
theorem dX1_holdBack_10 : decode cX1_holdBack 10 = .ok (.invokevirtual 22, 3) := by decide +kernel
theorem dX1_holdBack_13 : decode cX1_holdBack 13 = .ok (.return_, 1) := by decide +kernel
theorem dX1_keepIfDone_0 : decode cX1_keepIfDone 0 = .ok (.iload_n 1, 1) := by decide +kernel
theorem dX1_keepIfDone_1 : decode cX1_keepIfDone 1 = .ok (.ifCond .ge 5, 3) := by decide +kernel
theorem dX1_keepIfDone_4 : decode cX1_keepIfDone 4 = .ok (.iload_n 1, 1) := by decide +kernel
theorem dX1_keepIfDone_5 : decode cX1_keepIfDone 5 = .ok (.ireturn, 1) := by decide +kernel
theorem dX1_keepIfDone_6 : decode cX1_keepIfDone 6 = .ok (.aload_n 0, 1) := by decide +kernel
theorem dX1_keepIfDone_7 : decode cX1_keepIfDone 7 = .ok (.getfield 18, 3) := by decide +kernel
theorem dX1_keepIfDone_10 : decode cX1_keepIfDone 10 = .ok (.bipush 6, 2) := by decide +kernel
theorem dX1_keepIfDone_12 : decode cX1_keepIfDone 12 = .ok (.if_icmp .ge 16, 3) := by decide +kernel
theorem dX1_keepIfDone_15 : decode cX1_keepIfDone 15 = .ok (.aload_n 0, 1) := by decide +kernel
theorem dX1_keepIfDone_16 : decode cX1_keepIfDone 16 = .ok (.dup, 1) := by decide +kernel
theorem dX1_keepIfDone_17 : decode cX1_keepIfDone 17 = .ok (.getfield 18, 3) := by decide +kernel
theorem dX1_keepIfDone_20 : decode cX1_keepIfDone 20 = .ok (.iconst 1, 1) := by decide +kernel
theorem dX1_keepIfDone_21 : decode cX1_keepIfDone 21 = .ok (.iadd, 1) := by decide +kernel
theorem dX1_keepIfDone_22 : decode cX1_keepIfDone 22 = .ok (.putfield 18, 3) := by decide +kernel
theorem dX1_keepIfDone_25 : decode cX1_keepIfDone 25 = .ok (.goto 7, 3) := by decide +kernel
theorem dX1_keepIfDone_28 : decode cX1_keepIfDone 28 = .ok (.aload_n 0, 1) := by decide +kernel
theorem dX1_keepIfDone_29 : decode cX1_keepIfDone 29 = .ok (.invokevirtual 26, 3) := by decide +kernel
theorem dX1_keepIfDone_32 : decode cX1_keepIfDone 32 = .ok (.iload_n 1, 1) := by decide +kernel
theorem dX1_keepIfDone_33 : decode cX1_keepIfDone 33 = .ok (.ireturn, 1) := by decide +kernel
theorem dX1_dropOldest_0 : decode cX1_dropOldest 0 = .ok (.aload_n 0, 1) := by decide +kernel
theorem dX1_dropOldest_1 : decode cX1_dropOldest 1 = .ok (.getfield 11, 3) := by decide +kernel
theorem dX1_dropOldest_4 : decode cX1_dropOldest 4 = .ok (.iconst 0, 1) := by decide +kernel
theorem dX1_dropOldest_5 : decode cX1_dropOldest 5 = .ok (.aaload, 1) := by decide +kernel
theorem dX1_dropOldest_6 : decode cX1_dropOldest 6 = .ok (.astore_n 1, 1) := by decide +kernel
theorem dX1_dropOldest_7 : decode cX1_dropOldest 7 = .ok (.iconst 0, 1) := by decide +kernel
theorem dX1_dropOldest_8 : decode cX1_dropOldest 8 = .ok (.istore_n 2, 1) := by decide +kernel
theorem dX1_dropOldest_9 : decode cX1_dropOldest 9 = .ok (.iload_n 2, 1) := by decide +kernel
theorem dX1_dropOldest_10 : decode cX1_dropOldest 10 = .ok (.bipush 6, 2) := by decide +kernel
theorem dX1_dropOldest_12 : decode cX1_dropOldest 12 = .ok (.if_icmp .ge 23, 3) := by decide +kernel
theorem dX1_dropOldest_15 : decode cX1_dropOldest 15 = .ok (.aload_n 0, 1) := by decide +kernel
theorem dX1_dropOldest_16 : decode cX1_dropOldest 16 = .ok (.getfield 11, 3) := by decide +kernel
theorem dX1_dropOldest_19 : decode cX1_dropOldest 19 = .ok (.iload_n 2, 1) := by decide +kernel
theorem dX1_dropOldest_20 : decode cX1_dropOldest 20 = .ok (.aload_n 0, 1) := by decide +kernel
theorem dX1_dropOldest_21 : decode cX1_dropOldest 21 = .ok (.getfield 11, 3) := by decide +kernel
theorem dX1_dropOldest_24 : decode cX1_dropOldest 24 = .ok (.iload_n 2, 1) := by decide +kernel
theorem dX1_dropOldest_25 : decode cX1_dropOldest 25 = .ok (.iconst 1, 1) := by decide +kernel
theorem dX1_dropOldest_26 : decode cX1_dropOldest 26 = .ok (.iadd, 1) := by decide +kernel
theorem dX1_dropOldest_27 : decode cX1_dropOldest 27 = .ok (.aaload, 1) := by decide +kernel
theorem dX1_dropOldest_28 : decode cX1_dropOldest 28 = .ok (.aastore, 1) := by decide +kernel
theorem dX1_dropOldest_29 : decode cX1_dropOldest 29 = .ok (.iinc 2 1, 3) := by decide +kernel
theorem dX1_dropOldest_32 : decode cX1_dropOldest 32 = .ok (.goto (-23), 3) := by decide +kernel
theorem dX1_dropOldest_35 : decode cX1_dropOldest 35 = .ok (.aload_n 0, 1) := by decide +kernel
theorem dX1_dropOldest_36 : decode cX1_dropOldest 36 = .ok (.getfield 11, 3) := by decide +kernel
theorem dX1_dropOldest_39 : decode cX1_dropOldest 39 = .ok (.bipush 6, 2) := by decide +kernel
theorem dX1_dropOldest_41 : decode cX1_dropOldest 41 = .ok (.aload_n 1, 1) := by decide +kernel
theorem dX1_dropOldest_42 : decode cX1_dropOldest 42 = .ok (.aastore, 1) := by decide +kernel
theorem dX1_dropOldest_43 : decode cX1_dropOldest 43 = .ok (.return_, 1) := by decide +kernel
theorem dX1_takeLatest_0 : decode cX1_takeLatest 0 = .ok (.aload_n 0, 1) := by decide +kernel
theorem dX1_takeLatest_1 : decode cX1_takeLatest 1 = .ok (.getfield 18, 3) := by decide +kernel
theorem dX1_takeLatest_4 : decode cX1_takeLatest 4 = .ok (.ifCond .ne 5, 3) := by decide +kernel
theorem dX1_takeLatest_7 : decode cX1_takeLatest 7 = .ok (.aconst_null, 1) := by decide +kernel
theorem dX1_takeLatest_8 : decode cX1_takeLatest 8 = .ok (.areturn, 1) := by decide +kernel
theorem dX1_takeLatest_9 : decode cX1_takeLatest 9 = .ok (.aload_n 0, 1) := by decide +kernel
theorem dX1_takeLatest_10 : decode cX1_takeLatest 10 = .ok (.dup, 1) := by decide +kernel
theorem dX1_takeLatest_11 : decode cX1_takeLatest 11 = .ok (.getfield 18, 3) := by decide +kernel
theorem dX1_takeLatest_14 : decode cX1_takeLatest 14 = .ok (.iconst 1, 1) := by decide +kernel
theorem dX1_takeLatest_15 : decode cX1_takeLatest 15 = .ok (.isub, 1) := by decide +kernel
theorem dX1_takeLatest_16 : decode cX1_takeLatest 16 = .ok (.putfield 18, 3) := by decide +kernel
theorem dX1_takeLatest_19 : decode cX1_takeLatest 19 = .ok (.aload_n 0, 1) := by decide +kernel
theorem dX1_takeLatest_20 : decode cX1_takeLatest 20 = .ok (.getfield 11, 3) := by decide +kernel
theorem dX1_takeLatest_23 : decode cX1_takeLatest 23 = .ok (.aload_n 0, 1) := by decide +kernel
theorem dX1_takeLatest_24 : decode cX1_takeLatest 24 = .ok (.getfield 18, 3) := by decide +kernel
theorem dX1_takeLatest_27 : decode cX1_takeLatest 27 = .ok (.aaload, 1) := by decide +kernel
theorem dX1_takeLatest_28 : decode cX1_takeLatest 28 = .ok (.areturn, 1) := by decide +kernel
theorem dX2_init_0 : decode cX2_init 0 = .ok (.aload_n 0, 1) := by decide +kernel
theorem dX2_init_1 : decode cX2_init 1 = .ok (.invokespecial 3, 3) := by decide +kernel
theorem dX2_init_4 : decode cX2_init 4 = .ok (.return_, 1) := by decide +kernel
theorem dX2_begin_0 : decode cX2_begin 0 = .ok (.aload_n 0, 1) := by decide +kernel
theorem dX2_begin_1 : decode cX2_begin 1 = .ok (.iload_n 1, 1) := by decide +kernel
theorem dX2_begin_2 : decode cX2_begin 2 = .ok (.putfield 9, 3) := by decide +kernel
theorem dX2_begin_5 : decode cX2_begin 5 = .ok (.aload_n 0, 1) := by decide +kernel
theorem dX2_begin_6 : decode cX2_begin 6 = .ok (.iload_n 2, 1) := by decide +kernel
theorem dX2_begin_7 : decode cX2_begin 7 = .ok (.putfield 15, 3) := by decide +kernel
theorem dX2_begin_10 : decode cX2_begin 10 = .ok (.aload_n 0, 1) := by decide +kernel
theorem dX2_begin_11 : decode cX2_begin 11 = .ok (.iload_n 3, 1) := by decide +kernel
theorem dX2_begin_12 : decode cX2_begin 12 = .ok (.putfield 18, 3) := by decide +kernel
theorem dX2_begin_15 : decode cX2_begin 15 = .ok (.aload_n 0, 1) := by decide +kernel
theorem dX2_begin_16 : decode cX2_begin 16 = .ok (.iload 4, 2) := by decide +kernel
theorem dX2_begin_18 : decode cX2_begin 18 = .ok (.putfield 21, 3) := by decide +kernel
theorem dX2_begin_21 : decode cX2_begin 21 = .ok (.aload_n 0, 1) := by decide +kernel
theorem dX2_begin_22 : decode cX2_begin 22 = .ok (.iconst 0, 1) := by decide +kernel
theorem dX2_begin_23 : decode cX2_begin 23 = .ok (.putfield 24, 3) := by decide +kernel
theorem dX2_begin_26 : decode cX2_begin 26 = .ok (.aload_n 0, 1) := by decide +kernel
theorem dX2_begin_27 : decode cX2_begin 27 = .ok (.iconst 0, 1) := by decide +kernel
theorem dX2_begin_28 : decode cX2_begin 28 = .ok (.putfield 27, 3) := by decide +kernel
theorem dX2_begin_31 : decode cX2_begin 31 = .ok (.return_, 1) := by decide +kernel
theorem dX2_copyFrom_0 : decode cX2_copyFrom 0 = .ok (.aload_n 0, 1) := by decide +kernel
theorem dX2_copyFrom_1 : decode cX2_copyFrom 1 = .ok (.aload_n 1, 1) := by decide +kernel
theorem dX2_copyFrom_2 : decode cX2_copyFrom 2 = .ok (.getfield 9, 3) := by decide +kernel
theorem dX2_copyFrom_5 : decode cX2_copyFrom 5 = .ok (.putfield 9, 3) := by decide +kernel
theorem dX2_copyFrom_8 : decode cX2_copyFrom 8 = .ok (.aload_n 0, 1) := by decide +kernel
theorem dX2_copyFrom_9 : decode cX2_copyFrom 9 = .ok (.aload_n 1, 1) := by decide +kernel
theorem dX2_copyFrom_10 : decode cX2_copyFrom 10 = .ok (.getfield 15, 3) := by decide +kernel
theorem dX2_copyFrom_13 : decode cX2_copyFrom 13 = .ok (.putfield 15, 3) := by decide +kernel
theorem dX2_copyFrom_16 : decode cX2_copyFrom 16 = .ok (.aload_n 0, 1) := by decide +kernel
theorem dX2_copyFrom_17 : decode cX2_copyFrom 17 = .ok (.aload_n 1, 1) := by decide +kernel
theorem dX2_copyFrom_18 : decode cX2_copyFrom 18 = .ok (.getfield 18, 3) := by decide +kernel
theorem dX2_copyFrom_21 : decode cX2_copyFrom 21 = .ok (.putfield 18, 3) := by decide +kernel
theorem dX2_copyFrom_24 : decode cX2_copyFrom 24 = .ok (.aload_n 0, 1) := by decide +kernel
theorem dX2_copyFrom_25 : decode cX2_copyFrom 25 = .ok (.aload_n 1, 1) := by decide +kernel
theorem dX2_copyFrom_26 : decode cX2_copyFrom 26 = .ok (.getfield 21, 3) := by decide +kernel
theorem dX2_copyFrom_29 : decode cX2_copyFrom 29 = .ok (.putfield 21, 3) := by decide +kernel
theorem dX2_copyFrom_32 : decode cX2_copyFrom 32 = .ok (.aload_n 0, 1) := by decide +kernel
theorem dX2_copyFrom_33 : decode cX2_copyFrom 33 = .ok (.aload_n 1, 1) := by decide +kernel
theorem dX2_copyFrom_34 : decode cX2_copyFrom 34 = .ok (.getfield 24, 3) := by decide +kernel
theorem dX2_copyFrom_37 : decode cX2_copyFrom 37 = .ok (.putfield 24, 3) := by decide +kernel
theorem dX2_copyFrom_40 : decode cX2_copyFrom 40 = .ok (.aload_n 0, 1) := by decide +kernel
theorem dX2_copyFrom_41 : decode cX2_copyFrom 41 = .ok (.aload_n 1, 1) := by decide +kernel
theorem dX2_copyFrom_42 : decode cX2_copyFrom 42 = .ok (.getfield 27, 3) := by decide +kernel
theorem dX2_copyFrom_45 : decode cX2_copyFrom 45 = .ok (.putfield 27, 3) := by decide +kernel
theorem dX2_copyFrom_48 : decode cX2_copyFrom 48 = .ok (.return_, 1) := by decide +kernel
theorem dX2_actOn_0 : decode cX2_actOn 0 = .ok (.aload_n 1, 1) := by decide +kernel
theorem dX2_actOn_1 : decode cX2_actOn 1 = .ok (.aload_n 0, 1) := by decide +kernel
theorem dX2_actOn_2 : decode cX2_actOn 2 = .ok (.getfield 15, 3) := by decide +kernel
theorem dX2_actOn_5 : decode cX2_actOn 5 = .ok (.invokevirtual 30, 3) := by decide +kernel
theorem dX2_actOn_8 : decode cX2_actOn 8 = .ok (.ifCond .le 7, 3) := by decide +kernel
theorem dX2_actOn_11 : decode cX2_actOn 11 = .ok (.iconst 1, 1) := by decide +kernel
theorem dX2_actOn_12 : decode cX2_actOn 12 = .ok (.goto 4, 3) := by decide +kernel
theorem dX2_actOn_15 : decode cX2_actOn 15 = .ok (.iconst 0, 1) := by decide +kernel
theorem dX2_actOn_16 : decode cX2_actOn 16 = .ok (.istore_n 3, 1) := by decide +kernel
theorem dX2_actOn_17 : decode cX2_actOn 17 = .ok (.aload_n 2, 1) := by decide +kernel
theorem dX2_actOn_18 : decode cX2_actOn 18 = .ok (.aload_n 0, 1) := by decide +kernel
theorem dX2_actOn_19 : decode cX2_actOn 19 = .ok (.getfield 21, 3) := by decide +kernel
theorem dX2_actOn_22 : decode cX2_actOn 22 = .ok (.invokevirtual 30, 3) := by decide +kernel
theorem dX2_actOn_25 : decode cX2_actOn 25 = .ok (.ifCond .le 7, 3) := by decide +kernel
theorem dX2_actOn_28 : decode cX2_actOn 28 = .ok (.iconst 1, 1) := by decide +kernel
theorem dX2_actOn_29 : decode cX2_actOn 29 = .ok (.goto 4, 3) := by decide +kernel
theorem dX2_actOn_32 : decode cX2_actOn 32 = .ok (.iconst 0, 1) := by decide +kernel
theorem dX2_actOn_33 : decode cX2_actOn 33 = .ok (.istore 4, 2) := by decide +kernel
theorem dX2_actOn_35 : decode cX2_actOn 35 = .ok (.aload_n 0, 1) := by decide +kernel
theorem dX2_actOn_36 : decode cX2_actOn 36 = .ok (.getfield 24, 3) := by decide +kernel
theorem dX2_actOn_39 : decode cX2_actOn 39 = .ok (.ifCond .eq 16, 3) := by decide +kernel
theorem dX2_actOn_42 : decode cX2_actOn 42 = .ok (.aload_n 0, 1) := by decide +kernel
theorem dX2_actOn_43 : decode cX2_actOn 43 = .ok (.getfield 24, 3) := by decide +kernel
theorem dX2_actOn_46 : decode cX2_actOn 46 = .ok (.iconst 2, 1) := by decide +kernel
theorem dX2_actOn_47 : decode cX2_actOn 47 = .ok (.if_icmp .ne 9, 3) := by decide +kernel
theorem dX2_actOn_50 : decode cX2_actOn 50 = .ok (.iload 4, 2) := by decide +kernel
theorem dX2_actOn_52 : decode cX2_actOn 52 = .ok (.ifCond .eq 4, 3) := by decide +kernel
theorem dX2_actOn_55 : decode cX2_actOn 55 = .ok (.return_, 1) := by decide +kernel
theorem dX2_actOn_56 : decode cX2_actOn 56 = .ok (.aload_n 1, 1) := by decide +kernel
theorem dX2_actOn_57 : decode cX2_actOn 57 = .ok (.aload_n 0, 1) := by decide +kernel
theorem dX2_actOn_58 : decode cX2_actOn 58 = .ok (.getfield 15, 3) := by decide +kernel
theorem dX2_actOn_61 : decode cX2_actOn 61 = .ok (.aload_n 2, 1) := by decide +kernel
theorem dX2_actOn_62 : decode cX2_actOn 62 = .ok (.aload_n 0, 1) := by decide +kernel
theorem dX2_actOn_63 : decode cX2_actOn 63 = .ok (.getfield 21, 3) := by decide +kernel
theorem dX2_actOn_66 : decode cX2_actOn 66 = .ok (.invokevirtual 36, 3) := by decide +kernel
theorem dX2_actOn_69 : decode cX2_actOn 69 = .ok (.iload_n 3, 1) := by decide +kernel
theorem dX2_actOn_70 : decode cX2_actOn 70 = .ok (.ifCond .eq 18, 3) := by decide +kernel
theorem dX2_actOn_73 : decode cX2_actOn 73 = .ok (.aload_n 1, 1) := by decide +kernel
theorem dX2_actOn_74 : decode cX2_actOn 74 = .ok (.aload_n 2, 1) := by decide +kernel
theorem dX2_actOn_75 : decode cX2_actOn 75 = .ok (.invokevirtual 40, 3) := by decide +kernel
theorem dX2_actOn_78 : decode cX2_actOn 78 = .ok (.aload_n 0, 1) := by decide +kernel
theorem dX2_actOn_79 : decode cX2_actOn 79 = .ok (.dup, 1) := by decide +kernel
theorem dX2_actOn_80 : decode cX2_actOn 80 = .ok (.getfield 27, 3) := by decide +kernel
theorem dX2_actOn_83 : decode cX2_actOn 83 = .ok (.iconst 1, 1) := by decide +kernel
theorem dX2_actOn_84 : decode cX2_actOn 84 = .ok (.iadd, 1) := by decide +kernel
theorem dX2_actOn_85 : decode cX2_actOn 85 = .ok (.putfield 27, 3) := by decide +kernel
theorem dX2_actOn_88 : decode cX2_actOn 88 = .ok (.iload 4, 2) := by decide +kernel
theorem dX2_actOn_90 : decode cX2_actOn 90 = .ok (.ifCond .eq 18, 3) := by decide +kernel
theorem dX2_actOn_93 : decode cX2_actOn 93 = .ok (.aload_n 2, 1) := by decide +kernel
theorem dX2_actOn_94 : decode cX2_actOn 94 = .ok (.aload_n 1, 1) := by decide +kernel
theorem dX2_actOn_95 : decode cX2_actOn 95 = .ok (.invokevirtual 40, 3) := by decide +kernel
theorem dX2_actOn_98 : decode cX2_actOn 98 = .ok (.aload_n 0, 1) := by decide +kernel
theorem dX2_actOn_99 : decode cX2_actOn 99 = .ok (.dup, 1) := by decide +kernel
theorem dX2_actOn_100 : decode cX2_actOn 100 = .ok (.getfield 27, 3) := by decide +kernel
theorem dX2_actOn_103 : decode cX2_actOn 103 = .ok (.iconst 1, 1) := by decide +kernel
theorem dX2_actOn_104 : decode cX2_actOn 104 = .ok (.iadd, 1) := by decide +kernel
theorem dX2_actOn_105 : decode cX2_actOn 105 = .ok (.putfield 27, 3) := by decide +kernel
theorem dX2_actOn_108 : decode cX2_actOn 108 = .ok (.return_, 1) := by decide +kernel
theorem dX3_init_0 : decode cX3_init 0 = .ok (.aload_n 0, 1) := by decide +kernel
theorem dX3_init_1 : decode cX3_init 1 = .ok (.invokespecial 3, 3) := by decide +kernel
theorem dX3_init_4 : decode cX3_init 4 = .ok (.aload_n 0, 1) := by decide +kernel
theorem dX3_init_5 : decode cX3_init 5 = .ok (.bipush 80, 2) := by decide +kernel
theorem dX3_init_7 : decode cX3_init 7 = .ok (.newarray .int, 2) := by decide +kernel
theorem dX3_init_9 : decode cX3_init 9 = .ok (.putfield 9, 3) := by decide +kernel
theorem dX3_init_12 : decode cX3_init 12 = .ok (.aload_n 0, 1) := by decide +kernel
theorem dX3_init_13 : decode cX3_init 13 = .ok (.aload_n 1, 1) := by decide +kernel
theorem dX3_init_14 : decode cX3_init 14 = .ok (.putfield 15, 3) := by decide +kernel
theorem dX3_init_17 : decode cX3_init 17 = .ok (.return_, 1) := by decide +kernel
theorem dX3_goToStart_0 : decode cX3_goToStart 0 = .ok (.aload_n 0, 1) := by decide +kernel
theorem dX3_goToStart_1 : decode cX3_goToStart 1 = .ok (.iconst 0, 1) := by decide +kernel
theorem dX3_goToStart_2 : decode cX3_goToStart 2 = .ok (.putfield 19, 3) := by decide +kernel
theorem dX3_goToStart_5 : decode cX3_goToStart 5 = .ok (.return_, 1) := by decide +kernel
theorem dX3_number_0 : decode cX3_number 0 = .ok (.iload_n 1, 1) := by decide +kernel
theorem dX3_number_1 : decode cX3_number 1 = .ok (.ifCond .lt 20, 3) := by decide +kernel
theorem dX3_number_4 : decode cX3_number 4 = .ok (.iload_n 1, 1) := by decide +kernel
theorem dX3_number_5 : decode cX3_number 5 = .ok (.aload_n 0, 1) := by decide +kernel
theorem dX3_number_6 : decode cX3_number 6 = .ok (.getfield 23, 3) := by decide +kernel
theorem dX3_number_9 : decode cX3_number 9 = .ok (.if_icmp .ge 12, 3) := by decide +kernel
theorem dX3_number_12 : decode cX3_number 12 = .ok (.aload_n 0, 1) := by decide +kernel
theorem dX3_number_13 : decode cX3_number 13 = .ok (.getfield 9, 3) := by decide +kernel
theorem dX3_number_16 : decode cX3_number 16 = .ok (.iload_n 1, 1) := by decide +kernel
theorem dX3_number_17 : decode cX3_number 17 = .ok (.iaload, 1) := by decide +kernel
theorem dX3_number_18 : decode cX3_number 18 = .ok (.goto 4, 3) := by decide +kernel
theorem dX3_number_21 : decode cX3_number 21 = .ok (.iconst 0, 1) := by decide +kernel
theorem dX3_number_22 : decode cX3_number 22 = .ok (.ireturn, 1) := by decide +kernel
theorem dX3_firstFault_0 : decode cX3_firstFault 0 = .ok (.aload_n 0, 1) := by decide +kernel
theorem dX3_firstFault_1 : decode cX3_firstFault 1 = .ok (.invokevirtual 26, 3) := by decide +kernel
theorem dX3_firstFault_4 : decode cX3_firstFault 4 = .ok (.iconst 0, 1) := by decide +kernel
theorem dX3_firstFault_5 : decode cX3_firstFault 5 = .ok (.istore_n 1, 1) := by decide +kernel
theorem dX3_firstFault_6 : decode cX3_firstFault 6 = .ok (.iload_n 1, 1) := by decide +kernel
theorem dX3_firstFault_7 : decode cX3_firstFault 7 = .ok (.bipush 80, 2) := by decide +kernel
theorem dX3_firstFault_9 : decode cX3_firstFault 9 = .ok (.if_icmp .ge 52, 3) := by decide +kernel
theorem dX3_firstFault_12 : decode cX3_firstFault 12 = .ok (.aload_n 0, 1) := by decide +kernel
theorem dX3_firstFault_13 : decode cX3_firstFault 13 = .ok (.invokevirtual 29, 3) := by decide +kernel
theorem dX3_firstFault_16 : decode cX3_firstFault 16 = .ok (.ifCond .ne 8, 3) := by decide +kernel
theorem dX3_firstFault_19 : decode cX3_firstFault 19 = .ok (.aload_n 0, 1) := by decide +kernel
theorem dX3_firstFault_20 : decode cX3_firstFault 20 = .ok (.getfield 19, 3) := by decide +kernel
theorem dX3_firstFault_23 : decode cX3_firstFault 23 = .ok (.ireturn, 1) := by decide +kernel
theorem dX3_firstFault_24 : decode cX3_firstFault 24 = .ok (.aload_n 0, 1) := by decide +kernel
theorem dX3_firstFault_25 : decode cX3_firstFault 25 = .ok (.getfield 19, 3) := by decide +kernel
theorem dX3_firstFault_28 : decode cX3_firstFault 28 = .ok (.aload_n 0, 1) := by decide +kernel
theorem dX3_firstFault_29 : decode cX3_firstFault 29 = .ok (.getfield 15, 3) := by decide +kernel
theorem dX3_firstFault_32 : decode cX3_firstFault 32 = .ok (.getfield 33, 3) := by decide +kernel
theorem dX3_firstFault_35 : decode cX3_firstFault 35 = .ok (.if_icmp .ne 6, 3) := by decide +kernel
theorem dX3_firstFault_38 : decode cX3_firstFault 38 = .ok (.bipush (-6), 2) := by decide +kernel
theorem dX3_firstFault_40 : decode cX3_firstFault 40 = .ok (.ireturn, 1) := by decide +kernel
theorem dX3_firstFault_41 : decode cX3_firstFault 41 = .ok (.aload_n 0, 1) := by decide +kernel
theorem dX3_firstFault_42 : decode cX3_firstFault 42 = .ok (.bipush 59, 2) := by decide +kernel
theorem dX3_firstFault_44 : decode cX3_firstFault 44 = .ok (.invokevirtual 38, 3) := by decide +kernel
theorem dX3_firstFault_47 : decode cX3_firstFault 47 = .ok (.ifCond .ne 8, 3) := by decide +kernel
theorem dX3_firstFault_50 : decode cX3_firstFault 50 = .ok (.aload_n 0, 1) := by decide +kernel
theorem dX3_firstFault_51 : decode cX3_firstFault 51 = .ok (.getfield 19, 3) := by decide +kernel
theorem dX3_firstFault_54 : decode cX3_firstFault 54 = .ok (.ireturn, 1) := by decide +kernel
theorem dX3_firstFault_55 : decode cX3_firstFault 55 = .ok (.iinc 1 1, 3) := by decide +kernel
theorem dX3_firstFault_58 : decode cX3_firstFault 58 = .ok (.goto (-52), 3) := by decide +kernel
theorem dX3_firstFault_61 : decode cX3_firstFault 61 = .ok (.aload_n 0, 1) := by decide +kernel
theorem dX3_firstFault_62 : decode cX3_firstFault 62 = .ok (.getfield 19, 3) := by decide +kernel
theorem dX3_firstFault_65 : decode cX3_firstFault 65 = .ok (.ireturn, 1) := by decide +kernel
theorem dX3_readNext_0 : decode cX3_readNext 0 = .ok (.aload_n 0, 1) := by decide +kernel
theorem dX3_readNext_1 : decode cX3_readNext 1 = .ok (.bipush 59, 2) := by decide +kernel
theorem dX3_readNext_3 : decode cX3_readNext 3 = .ok (.invokevirtual 38, 3) := by decide +kernel
theorem dX3_readNext_6 : decode cX3_readNext 6 = .ok (.pop, 1) := by decide +kernel
theorem dX3_readNext_7 : decode cX3_readNext 7 = .ok (.aload_n 0, 1) := by decide +kernel
theorem dX3_readNext_8 : decode cX3_readNext 8 = .ok (.invokevirtual 29, 3) := by decide +kernel
theorem dX3_readNext_11 : decode cX3_readNext 11 = .ok (.ireturn, 1) := by decide +kernel
theorem dX3_readOrder_0 : decode cX3_readOrder 0 = .ok (.aload_n 0, 1) := by decide +kernel
theorem dX3_readOrder_1 : decode cX3_readOrder 1 = .ok (.aload_n 0, 1) := by decide +kernel
theorem dX3_readOrder_2 : decode cX3_readOrder 2 = .ok (.getfield 15, 3) := by decide +kernel
theorem dX3_readOrder_5 : decode cX3_readOrder 5 = .ok (.aload_n 0, 1) := by decide +kernel
theorem dX3_readOrder_6 : decode cX3_readOrder 6 = .ok (.getfield 19, 3) := by decide +kernel
theorem dX3_readOrder_9 : decode cX3_readOrder 9 = .ok (.invokevirtual 42, 3) := by decide +kernel
theorem dX3_readOrder_12 : decode cX3_readOrder 12 = .ok (.putfield 46, 3) := by decide +kernel
theorem dX3_readOrder_15 : decode cX3_readOrder 15 = .ok (.aload_n 0, 1) := by decide +kernel
theorem dX3_readOrder_16 : decode cX3_readOrder 16 = .ok (.iconst 0, 1) := by decide +kernel
theorem dX3_readOrder_17 : decode cX3_readOrder 17 = .ok (.putfield 23, 3) := by decide +kernel
theorem dX3_readOrder_20 : decode cX3_readOrder 20 = .ok (.aload_n 0, 1) := by decide +kernel
theorem dX3_readOrder_21 : decode cX3_readOrder 21 = .ok (.bipush 102, 2) := by decide +kernel
theorem dX3_readOrder_23 : decode cX3_readOrder 23 = .ok (.invokevirtual 38, 3) := by decide +kernel
theorem dX3_readOrder_26 : decode cX3_readOrder 26 = .ok (.ifCond .eq 32, 3) := by decide +kernel
theorem dX3_readOrder_29 : decode cX3_readOrder 29 = .ok (.aload_n 0, 1) := by decide +kernel
theorem dX3_readOrder_30 : decode cX3_readOrder 30 = .ok (.invokevirtual 50, 3) := by decide +kernel
theorem dX3_readOrder_33 : decode cX3_readOrder 33 = .ok (.ifCond .eq 23, 3) := by decide +kernel
theorem dX3_readOrder_36 : decode cX3_readOrder 36 = .ok (.aload_n 0, 1) := by decide +kernel
theorem dX3_readOrder_37 : decode cX3_readOrder 37 = .ok (.bipush 58, 2) := by decide +kernel
theorem dX3_readOrder_39 : decode cX3_readOrder 39 = .ok (.invokevirtual 38, 3) := by decide +kernel
theorem dX3_readOrder_42 : decode cX3_readOrder 42 = .ok (.ifCond .eq 14, 3) := by decide +kernel
theorem dX3_readOrder_45 : decode cX3_readOrder 45 = .ok (.aload_n 0, 1) := by decide +kernel
theorem dX3_readOrder_46 : decode cX3_readOrder 46 = .ok (.invokevirtual 53, 3) := by decide +kernel
theorem dX3_readOrder_49 : decode cX3_readOrder 49 = .ok (.ifCond .eq 7, 3) := by decide +kernel
theorem dX3_readOrder_52 : decode cX3_readOrder 52 = .ok (.iconst 1, 1) := by decide +kernel
theorem dX3_readOrder_53 : decode cX3_readOrder 53 = .ok (.goto 4, 3) := by decide +kernel
theorem dX3_readOrder_56 : decode cX3_readOrder 56 = .ok (.iconst 0, 1) := by decide +kernel
theorem dX3_readOrder_57 : decode cX3_readOrder 57 = .ok (.ireturn, 1) := by decide +kernel
theorem dX3_readOrder_58 : decode cX3_readOrder 58 = .ok (.aload_n 0, 1) := by decide +kernel
theorem dX3_readOrder_59 : decode cX3_readOrder 59 = .ok (.bipush 106, 2) := by decide +kernel
theorem dX3_readOrder_61 : decode cX3_readOrder 61 = .ok (.invokevirtual 38, 3) := by decide +kernel
theorem dX3_readOrder_64 : decode cX3_readOrder 64 = .ok (.ifCond .eq 32, 3) := by decide +kernel
theorem dX3_readOrder_67 : decode cX3_readOrder 67 = .ok (.aload_n 0, 1) := by decide +kernel
theorem dX3_readOrder_68 : decode cX3_readOrder 68 = .ok (.invokevirtual 50, 3) := by decide +kernel
theorem dX3_readOrder_71 : decode cX3_readOrder 71 = .ok (.ifCond .eq 23, 3) := by decide +kernel
theorem dX3_readOrder_74 : decode cX3_readOrder 74 = .ok (.aload_n 0, 1) := by decide +kernel
theorem dX3_readOrder_75 : decode cX3_readOrder 75 = .ok (.bipush 61, 2) := by decide +kernel
theorem dX3_readOrder_77 : decode cX3_readOrder 77 = .ok (.invokevirtual 38, 3) := by decide +kernel
theorem dX3_readOrder_80 : decode cX3_readOrder 80 = .ok (.ifCond .eq 14, 3) := by decide +kernel
theorem dX3_readOrder_83 : decode cX3_readOrder 83 = .ok (.aload_n 0, 1) := by decide +kernel
theorem dX3_readOrder_84 : decode cX3_readOrder 84 = .ok (.invokevirtual 56, 3) := by decide +kernel
theorem dX3_readOrder_87 : decode cX3_readOrder 87 = .ok (.ifCond .eq 7, 3) := by decide +kernel
theorem dX3_readOrder_90 : decode cX3_readOrder 90 = .ok (.iconst 1, 1) := by decide +kernel
theorem dX3_readOrder_91 : decode cX3_readOrder 91 = .ok (.goto 4, 3) := by decide +kernel
theorem dX3_readOrder_94 : decode cX3_readOrder 94 = .ok (.iconst 0, 1) := by decide +kernel
theorem dX3_readOrder_95 : decode cX3_readOrder 95 = .ok (.ireturn, 1) := by decide +kernel
theorem dX3_readOrder_96 : decode cX3_readOrder 96 = .ok (.aload_n 0, 1) := by decide +kernel
theorem dX3_readOrder_97 : decode cX3_readOrder 97 = .ok (.bipush 108, 2) := by decide +kernel
theorem dX3_readOrder_99 : decode cX3_readOrder 99 = .ok (.invokevirtual 38, 3) := by decide +kernel
theorem dX3_readOrder_102 : decode cX3_readOrder 102 = .ok (.ifCond .eq 48, 3) := by decide +kernel
theorem dX3_readOrder_105 : decode cX3_readOrder 105 = .ok (.aload_n 0, 1) := by decide +kernel
theorem dX3_readOrder_106 : decode cX3_readOrder 106 = .ok (.invokevirtual 50, 3) := by decide +kernel
theorem dX3_readOrder_109 : decode cX3_readOrder 109 = .ok (.ifCond .eq 39, 3) := by decide +kernel
theorem dX3_readOrder_112 : decode cX3_readOrder 112 = .ok (.aload_n 0, 1) := by decide +kernel
theorem dX3_readOrder_113 : decode cX3_readOrder 113 = .ok (.bipush 58, 2) := by decide +kernel
theorem dX3_readOrder_115 : decode cX3_readOrder 115 = .ok (.invokevirtual 38, 3) := by decide +kernel
theorem dX3_readOrder_118 : decode cX3_readOrder 118 = .ok (.ifCond .eq 30, 3) := by decide +kernel
theorem dX3_readOrder_121 : decode cX3_readOrder 121 = .ok (.aload_n 0, 1) := by decide +kernel
theorem dX3_readOrder_122 : decode cX3_readOrder 122 = .ok (.invokevirtual 50, 3) := by decide +kernel
theorem dX3_readOrder_125 : decode cX3_readOrder 125 = .ok (.ifCond .eq 23, 3) := by decide +kernel
theorem dX3_readOrder_128 : decode cX3_readOrder 128 = .ok (.aload_n 0, 1) := by decide +kernel
theorem dX3_readOrder_129 : decode cX3_readOrder 129 = .ok (.bipush 61, 2) := by decide +kernel
theorem dX3_readOrder_131 : decode cX3_readOrder 131 = .ok (.invokevirtual 38, 3) := by decide +kernel
theorem dX3_readOrder_134 : decode cX3_readOrder 134 = .ok (.ifCond .eq 14, 3) := by decide +kernel
theorem dX3_readOrder_137 : decode cX3_readOrder 137 = .ok (.aload_n 0, 1) := by decide +kernel
theorem dX3_readOrder_138 : decode cX3_readOrder 138 = .ok (.invokevirtual 50, 3) := by decide +kernel
theorem dX3_readOrder_141 : decode cX3_readOrder 141 = .ok (.ifCond .eq 7, 3) := by decide +kernel
theorem dX3_readOrder_144 : decode cX3_readOrder 144 = .ok (.iconst 1, 1) := by decide +kernel
theorem dX3_readOrder_145 : decode cX3_readOrder 145 = .ok (.goto 4, 3) := by decide +kernel
theorem dX3_readOrder_148 : decode cX3_readOrder 148 = .ok (.iconst 0, 1) := by decide +kernel
theorem dX3_readOrder_149 : decode cX3_readOrder 149 = .ok (.ireturn, 1) := by decide +kernel
theorem dX3_readOrder_150 : decode cX3_readOrder 150 = .ok (.aload_n 0, 1) := by decide +kernel
theorem dX3_readOrder_151 : decode cX3_readOrder 151 = .ok (.bipush 116, 2) := by decide +kernel
theorem dX3_readOrder_153 : decode cX3_readOrder 153 = .ok (.invokevirtual 38, 3) := by decide +kernel
theorem dX3_readOrder_156 : decode cX3_readOrder 156 = .ok (.ifCond .eq 14, 3) := by decide +kernel
theorem dX3_readOrder_159 : decode cX3_readOrder 159 = .ok (.aload_n 0, 1) := by decide +kernel
theorem dX3_readOrder_160 : decode cX3_readOrder 160 = .ok (.invokevirtual 50, 3) := by decide +kernel
theorem dX3_readOrder_163 : decode cX3_readOrder 163 = .ok (.ifCond .eq 7, 3) := by decide +kernel
theorem dX3_readOrder_166 : decode cX3_readOrder 166 = .ok (.iconst 1, 1) := by decide +kernel
theorem dX3_readOrder_167 : decode cX3_readOrder 167 = .ok (.goto 4, 3) := by decide +kernel
theorem dX3_readOrder_170 : decode cX3_readOrder 170 = .ok (.iconst 0, 1) := by decide +kernel
theorem dX3_readOrder_171 : decode cX3_readOrder 171 = .ok (.ireturn, 1) := by decide +kernel
theorem dX3_take_0 : decode cX3_take 0 = .ok (.aload_n 0, 1) := by decide +kernel
theorem dX3_take_1 : decode cX3_take 1 = .ok (.getfield 15, 3) := by decide +kernel
theorem dX3_take_4 : decode cX3_take 4 = .ok (.aload_n 0, 1) := by decide +kernel
theorem dX3_take_5 : decode cX3_take 5 = .ok (.getfield 19, 3) := by decide +kernel
theorem dX3_take_8 : decode cX3_take 8 = .ok (.invokevirtual 42, 3) := by decide +kernel
theorem dX3_take_11 : decode cX3_take 11 = .ok (.iload_n 1, 1) := by decide +kernel
theorem dX3_take_12 : decode cX3_take 12 = .ok (.if_icmp .eq 5, 3) := by decide +kernel
theorem dX3_take_15 : decode cX3_take 15 = .ok (.iconst 0, 1) := by decide +kernel
theorem dX3_take_16 : decode cX3_take 16 = .ok (.ireturn, 1) := by decide +kernel
theorem dX3_take_17 : decode cX3_take 17 = .ok (.aload_n 0, 1) := by decide +kernel
theorem dX3_take_18 : decode cX3_take 18 = .ok (.dup, 1) := by decide +kernel
theorem dX3_take_19 : decode cX3_take 19 = .ok (.getfield 19, 3) := by decide +kernel
theorem dX3_take_22 : decode cX3_take 22 = .ok (.iconst 1, 1) := by decide +kernel
theorem dX3_take_23 : decode cX3_take 23 = .ok (.iadd, 1) := by decide +kernel
theorem dX3_take_24 : decode cX3_take 24 = .ok (.putfield 19, 3) := by decide +kernel
theorem dX3_take_27 : decode cX3_take 27 = .ok (.iconst 1, 1) := by decide +kernel
theorem dX3_take_28 : decode cX3_take 28 = .ok (.ireturn, 1) := by decide +kernel
theorem dX3_readValues_0 : decode cX3_readValues 0 = .ok (.iconst 0, 1) := by decide +kernel
theorem dX3_readValues_1 : decode cX3_readValues 1 = .ok (.istore_n 1, 1) := by decide +kernel
theorem dX3_readValues_2 : decode cX3_readValues 2 = .ok (.iload_n 1, 1) := by decide +kernel
theorem dX3_readValues_3 : decode cX3_readValues 3 = .ok (.bipush 80, 2) := by decide +kernel
theorem dX3_readValues_5 : decode cX3_readValues 5 = .ok (.if_icmp .ge 29, 3) := by decide +kernel
theorem dX3_readValues_8 : decode cX3_readValues 8 = .ok (.aload_n 0, 1) := by decide +kernel
theorem dX3_readValues_9 : decode cX3_readValues 9 = .ok (.invokevirtual 50, 3) := by decide +kernel
theorem dX3_readValues_12 : decode cX3_readValues 12 = .ok (.ifCond .ne 5, 3) := by decide +kernel
theorem dX3_readValues_15 : decode cX3_readValues 15 = .ok (.iconst 0, 1) := by decide +kernel
theorem dX3_readValues_16 : decode cX3_readValues 16 = .ok (.ireturn, 1) := by decide +kernel
theorem dX3_readValues_17 : decode cX3_readValues 17 = .ok (.aload_n 0, 1) := by decide +kernel
theorem dX3_readValues_18 : decode cX3_readValues 18 = .ok (.bipush 44, 2) := by decide +kernel
theorem dX3_readValues_20 : decode cX3_readValues 20 = .ok (.invokevirtual 38, 3) := by decide +kernel
theorem dX3_readValues_23 : decode cX3_readValues 23 = .ok (.ifCond .ne 5, 3) := by decide +kernel
theorem dX3_readValues_26 : decode cX3_readValues 26 = .ok (.iconst 1, 1) := by decide +kernel
theorem dX3_readValues_27 : decode cX3_readValues 27 = .ok (.ireturn, 1) := by decide +kernel
theorem dX3_readValues_28 : decode cX3_readValues 28 = .ok (.iinc 1 1, 3) := by decide +kernel
theorem dX3_readValues_31 : decode cX3_readValues 31 = .ok (.goto (-29), 3) := by decide +kernel
theorem dX3_readValues_34 : decode cX3_readValues 34 = .ok (.iconst 0, 1) := by decide +kernel
theorem dX3_readValues_35 : decode cX3_readValues 35 = .ok (.ireturn, 1) := by decide +kernel
theorem dX3_digit_0 : decode cX3_digit 0 = .ok (.aload_n 0, 1) := by decide +kernel
theorem dX3_digit_1 : decode cX3_digit 1 = .ok (.getfield 15, 3) := by decide +kernel
theorem dX3_digit_4 : decode cX3_digit 4 = .ok (.aload_n 0, 1) := by decide +kernel
theorem dX3_digit_5 : decode cX3_digit 5 = .ok (.getfield 19, 3) := by decide +kernel
theorem dX3_digit_8 : decode cX3_digit 8 = .ok (.invokevirtual 42, 3) := by decide +kernel
theorem dX3_digit_11 : decode cX3_digit 11 = .ok (.istore_n 1, 1) := by decide +kernel
theorem dX3_digit_12 : decode cX3_digit 12 = .ok (.iload_n 1, 1) := by decide +kernel
theorem dX3_digit_13 : decode cX3_digit 13 = .ok (.bipush 48, 2) := by decide +kernel
theorem dX3_digit_15 : decode cX3_digit 15 = .ok (.bipush 57, 2) := by decide +kernel
theorem dX3_digit_17 : decode cX3_digit 17 = .ok (.invokestatic 59, 3) := by decide +kernel
theorem dX3_digit_20 : decode cX3_digit 20 = .ok (.ifCond .eq 10, 3) := by decide +kernel
theorem dX3_digit_23 : decode cX3_digit 23 = .ok (.iload_n 1, 1) := by decide +kernel
theorem dX3_digit_24 : decode cX3_digit 24 = .ok (.bipush 48, 2) := by decide +kernel
theorem dX3_digit_26 : decode cX3_digit 26 = .ok (.isub, 1) := by decide +kernel
theorem dX3_digit_27 : decode cX3_digit 27 = .ok (.goto 5, 3) := by decide +kernel
theorem dX3_digit_30 : decode cX3_digit 30 = .ok (.bipush (-6), 2) := by decide +kernel
theorem dX3_digit_32 : decode cX3_digit 32 = .ok (.ireturn, 1) := by decide +kernel
theorem dX3_readNumber_0 : decode cX3_readNumber 0 = .ok (.aload_n 0, 1) := by decide +kernel
theorem dX3_readNumber_1 : decode cX3_readNumber 1 = .ok (.invokevirtual 63, 3) := by decide +kernel
theorem dX3_readNumber_4 : decode cX3_readNumber 4 = .ok (.istore_n 1, 1) := by decide +kernel
theorem dX3_readNumber_5 : decode cX3_readNumber 5 = .ok (.iload_n 1, 1) := by decide +kernel
theorem dX3_readNumber_6 : decode cX3_readNumber 6 = .ok (.ifCond .ge 5, 3) := by decide +kernel
theorem dX3_readNumber_9 : decode cX3_readNumber 9 = .ok (.iconst 0, 1) := by decide +kernel
theorem dX3_readNumber_10 : decode cX3_readNumber 10 = .ok (.ireturn, 1) := by decide +kernel
theorem dX3_readNumber_11 : decode cX3_readNumber 11 = .ok (.aload_n 0, 1) := by decide +kernel
theorem dX3_readNumber_12 : decode cX3_readNumber 12 = .ok (.dup, 1) := by decide +kernel
theorem dX3_readNumber_13 : decode cX3_readNumber 13 = .ok (.getfield 19, 3) := by decide +kernel
theorem dX3_readNumber_16 : decode cX3_readNumber 16 = .ok (.iconst 1, 1) := by decide +kernel
theorem dX3_readNumber_17 : decode cX3_readNumber 17 = .ok (.iadd, 1) := by decide +kernel
theorem dX3_readNumber_18 : decode cX3_readNumber 18 = .ok (.putfield 19, 3) := by decide +kernel
theorem dX3_readNumber_21 : decode cX3_readNumber 21 = .ok (.iconst 0, 1) := by decide +kernel
theorem dX3_readNumber_22 : decode cX3_readNumber 22 = .ok (.istore_n 2, 1) := by decide +kernel
theorem dX3_readNumber_23 : decode cX3_readNumber 23 = .ok (.iload_n 2, 1) := by decide +kernel
theorem dX3_readNumber_24 : decode cX3_readNumber 24 = .ok (.iconst 2, 1) := by decide +kernel
theorem dX3_readNumber_25 : decode cX3_readNumber 25 = .ok (.if_icmp .ge 40, 3) := by decide +kernel
theorem dX3_readNumber_28 : decode cX3_readNumber 28 = .ok (.iload_n 1, 1) := by decide +kernel
theorem dX3_readNumber_29 : decode cX3_readNumber 29 = .ok (.ifCond .le 36, 3) := by decide +kernel
theorem dX3_readNumber_32 : decode cX3_readNumber 32 = .ok (.aload_n 0, 1) := by decide +kernel
theorem dX3_readNumber_33 : decode cX3_readNumber 33 = .ok (.invokevirtual 63, 3) := by decide +kernel
theorem dX3_readNumber_36 : decode cX3_readNumber 36 = .ok (.ifCond .lt 29, 3) := by decide +kernel
theorem dX3_readNumber_39 : decode cX3_readNumber 39 = .ok (.iload_n 1, 1) := by decide +kernel
theorem dX3_readNumber_40 : decode cX3_readNumber 40 = .ok (.bipush 10, 2) := by decide +kernel
theorem dX3_readNumber_42 : decode cX3_readNumber 42 = .ok (.imul, 1) := by decide +kernel
theorem dX3_readNumber_43 : decode cX3_readNumber 43 = .ok (.aload_n 0, 1) := by decide +kernel
theorem dX3_readNumber_44 : decode cX3_readNumber 44 = .ok (.invokevirtual 63, 3) := by decide +kernel
theorem dX3_readNumber_47 : decode cX3_readNumber 47 = .ok (.iadd, 1) := by decide +kernel
theorem dX3_readNumber_48 : decode cX3_readNumber 48 = .ok (.istore_n 1, 1) := by decide +kernel
theorem dX3_readNumber_49 : decode cX3_readNumber 49 = .ok (.aload_n 0, 1) := by decide +kernel
theorem dX3_readNumber_50 : decode cX3_readNumber 50 = .ok (.dup, 1) := by decide +kernel
theorem dX3_readNumber_51 : decode cX3_readNumber 51 = .ok (.getfield 19, 3) := by decide +kernel
theorem dX3_readNumber_54 : decode cX3_readNumber 54 = .ok (.iconst 1, 1) := by decide +kernel
theorem dX3_readNumber_55 : decode cX3_readNumber 55 = .ok (.iadd, 1) := by decide +kernel
theorem dX3_readNumber_56 : decode cX3_readNumber 56 = .ok (.putfield 19, 3) := by decide +kernel
theorem dX3_readNumber_59 : decode cX3_readNumber 59 = .ok (.iinc 2 1, 3) := by decide +kernel
theorem dX3_readNumber_62 : decode cX3_readNumber 62 = .ok (.goto (-39), 3) := by decide +kernel
theorem dX3_readNumber_65 : decode cX3_readNumber 65 = .ok (.aload_n 0, 1) := by decide +kernel
theorem dX3_readNumber_66 : decode cX3_readNumber 66 = .ok (.iload_n 1, 1) := by decide +kernel
theorem dX3_readNumber_67 : decode cX3_readNumber 67 = .ok (.invokevirtual 67, 3) := by decide +kernel
theorem dX3_readNumber_70 : decode cX3_readNumber 70 = .ok (.ireturn, 1) := by decide +kernel
theorem dX3_readMode_0 : decode cX3_readMode 0 = .ok (.aload_n 0, 1) := by decide +kernel
theorem dX3_readMode_1 : decode cX3_readMode 1 = .ok (.invokevirtual 63, 3) := by decide +kernel
theorem dX3_readMode_4 : decode cX3_readMode 4 = .ok (.istore_n 1, 1) := by decide +kernel
theorem dX3_readMode_5 : decode cX3_readMode 5 = .ok (.iload_n 1, 1) := by decide +kernel
theorem dX3_readMode_6 : decode cX3_readMode 6 = .ok (.iconst 0, 1) := by decide +kernel
theorem dX3_readMode_7 : decode cX3_readMode 7 = .ok (.iconst 2, 1) := by decide +kernel
theorem dX3_readMode_8 : decode cX3_readMode 8 = .ok (.invokestatic 59, 3) := by decide +kernel
theorem dX3_readMode_11 : decode cX3_readMode 11 = .ok (.ifCond .ne 5, 3) := by decide +kernel
theorem dX3_readMode_14 : decode cX3_readMode 14 = .ok (.iconst 0, 1) := by decide +kernel
theorem dX3_readMode_15 : decode cX3_readMode 15 = .ok (.ireturn, 1) := by decide +kernel
theorem dX3_readMode_16 : decode cX3_readMode 16 = .ok (.aload_n 0, 1) := by decide +kernel
theorem dX3_readMode_17 : decode cX3_readMode 17 = .ok (.dup, 1) := by decide +kernel
theorem dX3_readMode_18 : decode cX3_readMode 18 = .ok (.getfield 19, 3) := by decide +kernel
theorem dX3_readMode_21 : decode cX3_readMode 21 = .ok (.iconst 1, 1) := by decide +kernel
theorem dX3_readMode_22 : decode cX3_readMode 22 = .ok (.iadd, 1) := by decide +kernel
theorem dX3_readMode_23 : decode cX3_readMode 23 = .ok (.putfield 19, 3) := by decide +kernel
theorem dX3_readMode_26 : decode cX3_readMode 26 = .ok (.aload_n 0, 1) := by decide +kernel
theorem dX3_readMode_27 : decode cX3_readMode 27 = .ok (.iload_n 1, 1) := by decide +kernel
theorem dX3_readMode_28 : decode cX3_readMode 28 = .ok (.invokevirtual 67, 3) := by decide +kernel
theorem dX3_readMode_31 : decode cX3_readMode 31 = .ok (.ireturn, 1) := by decide +kernel
theorem dX3_keep_0 : decode cX3_keep 0 = .ok (.aload_n 0, 1) := by decide +kernel
theorem dX3_keep_1 : decode cX3_keep 1 = .ok (.getfield 23, 3) := by decide +kernel
theorem dX3_keep_4 : decode cX3_keep 4 = .ok (.bipush 80, 2) := by decide +kernel
theorem dX3_keep_6 : decode cX3_keep 6 = .ok (.if_icmp .lt 5, 3) := by decide +kernel
theorem dX3_keep_9 : decode cX3_keep 9 = .ok (.iconst 0, 1) := by decide +kernel
theorem dX3_keep_10 : decode cX3_keep 10 = .ok (.ireturn, 1) := by decide +kernel
theorem dX3_keep_11 : decode cX3_keep 11 = .ok (.aload_n 0, 1) := by decide +kernel
theorem dX3_keep_12 : decode cX3_keep 12 = .ok (.getfield 9, 3) := by decide +kernel
theorem dX3_keep_15 : decode cX3_keep 15 = .ok (.aload_n 0, 1) := by decide +kernel
theorem dX3_keep_16 : decode cX3_keep 16 = .ok (.getfield 23, 3) := by decide +kernel
theorem dX3_keep_19 : decode cX3_keep 19 = .ok (.iload_n 1, 1) := by decide +kernel
theorem dX3_keep_20 : decode cX3_keep 20 = .ok (.iastore, 1) := by decide +kernel
theorem dX3_keep_21 : decode cX3_keep 21 = .ok (.aload_n 0, 1) := by decide +kernel
theorem dX3_keep_22 : decode cX3_keep 22 = .ok (.dup, 1) := by decide +kernel
theorem dX3_keep_23 : decode cX3_keep 23 = .ok (.getfield 23, 3) := by decide +kernel
theorem dX3_keep_26 : decode cX3_keep 26 = .ok (.iconst 1, 1) := by decide +kernel
theorem dX3_keep_27 : decode cX3_keep 27 = .ok (.iadd, 1) := by decide +kernel
theorem dX3_keep_28 : decode cX3_keep 28 = .ok (.putfield 23, 3) := by decide +kernel
theorem dX3_keep_31 : decode cX3_keep 31 = .ok (.iconst 1, 1) := by decide +kernel
theorem dX3_keep_32 : decode cX3_keep 32 = .ok (.ireturn, 1) := by decide +kernel
theorem dX4_init_0 : decode cX4_init 0 = .ok (.aload_n 0, 1) := by decide +kernel
theorem dX4_init_1 : decode cX4_init 1 = .ok (.invokespecial 3, 3) := by decide +kernel
theorem dX4_init_4 : decode cX4_init 4 = .ok (.aload_n 0, 1) := by decide +kernel
theorem dX4_init_5 : decode cX4_init 5 = .ok (.bipush 80, 2) := by decide +kernel
theorem dX4_init_7 : decode cX4_init 7 = .ok (.newarray .char, 2) := by decide +kernel
theorem dX4_init_9 : decode cX4_init 9 = .ok (.putfield 9, 3) := by decide +kernel
theorem dX4_init_12 : decode cX4_init 12 = .ok (.return_, 1) := by decide +kernel
theorem dX4_append_0 : decode cX4_append 0 = .ok (.aload_n 0, 1) := by decide +kernel
theorem dX4_append_1 : decode cX4_append 1 = .ok (.getfield 15, 3) := by decide +kernel
theorem dX4_append_4 : decode cX4_append 4 = .ok (.bipush 80, 2) := by decide +kernel
theorem dX4_append_6 : decode cX4_append 6 = .ok (.if_icmp .ge 23, 3) := by decide +kernel
theorem dX4_append_9 : decode cX4_append 9 = .ok (.aload_n 0, 1) := by decide +kernel
theorem dX4_append_10 : decode cX4_append 10 = .ok (.getfield 9, 3) := by decide +kernel
theorem dX4_append_13 : decode cX4_append 13 = .ok (.aload_n 0, 1) := by decide +kernel
theorem dX4_append_14 : decode cX4_append 14 = .ok (.getfield 15, 3) := by decide +kernel
theorem dX4_append_17 : decode cX4_append 17 = .ok (.iload_n 1, 1) := by decide +kernel
theorem dX4_append_18 : decode cX4_append 18 = .ok (.castore, 1) := by decide +kernel
theorem dX4_append_19 : decode cX4_append 19 = .ok (.aload_n 0, 1) := by decide +kernel
theorem dX4_append_20 : decode cX4_append 20 = .ok (.dup, 1) := by decide +kernel
theorem dX4_append_21 : decode cX4_append 21 = .ok (.getfield 15, 3) := by decide +kernel
theorem dX4_append_24 : decode cX4_append 24 = .ok (.iconst 1, 1) := by decide +kernel
theorem dX4_append_25 : decode cX4_append 25 = .ok (.iadd, 1) := by decide +kernel
theorem dX4_append_26 : decode cX4_append 26 = .ok (.putfield 15, 3) := by decide +kernel
theorem dX4_append_29 : decode cX4_append 29 = .ok (.return_, 1) := by decide +kernel
theorem dX4_clear_0 : decode cX4_clear 0 = .ok (.aload_n 0, 1) := by decide +kernel
theorem dX4_clear_1 : decode cX4_clear 1 = .ok (.iconst 0, 1) := by decide +kernel
theorem dX4_clear_2 : decode cX4_clear 2 = .ok (.putfield 15, 3) := by decide +kernel
theorem dX4_clear_5 : decode cX4_clear 5 = .ok (.return_, 1) := by decide +kernel
theorem dX4_signAt_0 : decode cX4_signAt 0 = .ok (.iload_n 1, 1) := by decide +kernel
theorem dX4_signAt_1 : decode cX4_signAt 1 = .ok (.ifCond .lt 20, 3) := by decide +kernel
theorem dX4_signAt_4 : decode cX4_signAt 4 = .ok (.iload_n 1, 1) := by decide +kernel
theorem dX4_signAt_5 : decode cX4_signAt 5 = .ok (.aload_n 0, 1) := by decide +kernel
theorem dX4_signAt_6 : decode cX4_signAt 6 = .ok (.getfield 15, 3) := by decide +kernel
theorem dX4_signAt_9 : decode cX4_signAt 9 = .ok (.if_icmp .ge 12, 3) := by decide +kernel
theorem dX4_signAt_12 : decode cX4_signAt 12 = .ok (.aload_n 0, 1) := by decide +kernel
theorem dX4_signAt_13 : decode cX4_signAt 13 = .ok (.getfield 9, 3) := by decide +kernel
theorem dX4_signAt_16 : decode cX4_signAt 16 = .ok (.iload_n 1, 1) := by decide +kernel
theorem dX4_signAt_17 : decode cX4_signAt 17 = .ok (.caload, 1) := by decide +kernel
theorem dX4_signAt_18 : decode cX4_signAt 18 = .ok (.goto 4, 3) := by decide +kernel
theorem dX4_signAt_21 : decode cX4_signAt 21 = .ok (.iconst 0, 1) := by decide +kernel
theorem dX4_signAt_22 : decode cX4_signAt 22 = .ok (.ireturn, 1) := by decide +kernel
theorem dX5_init_0 : decode cX5_init 0 = .ok (.aload_n 0, 1) := by decide +kernel
theorem dX5_init_1 : decode cX5_init 1 = .ok (.invokespecial 3, 3) := by decide +kernel
theorem dX5_init_4 : decode cX5_init 4 = .ok (.aload_n 0, 1) := by decide +kernel
theorem dX5_init_5 : decode cX5_init 5 = .ok (.bipush 32, 2) := by decide +kernel
theorem dX5_init_7 : decode cX5_init 7 = .ok (.newarray .int, 2) := by decide +kernel
theorem dX5_init_9 : decode cX5_init 9 = .ok (.putfield 9, 3) := by decide +kernel
theorem dX5_init_12 : decode cX5_init 12 = .ok (.aload_n 0, 1) := by decide +kernel
theorem dX5_init_13 : decode cX5_init 13 = .ok (.bipush 32, 2) := by decide +kernel
theorem dX5_init_15 : decode cX5_init 15 = .ok (.newarray .int, 2) := by decide +kernel
theorem dX5_init_17 : decode cX5_init 17 = .ok (.putfield 15, 3) := by decide +kernel
theorem dX5_init_20 : decode cX5_init 20 = .ok (.aload_n 0, 1) := by decide +kernel
theorem dX5_init_21 : decode cX5_init 21 = .ok (.bipush 32, 2) := by decide +kernel
theorem dX5_init_23 : decode cX5_init 23 = .ok (.newarray .int, 2) := by decide +kernel
theorem dX5_init_25 : decode cX5_init 25 = .ok (.putfield 18, 3) := by decide +kernel
theorem dX5_init_28 : decode cX5_init 28 = .ok (.aload_n 0, 1) := by decide +kernel
theorem dX5_init_29 : decode cX5_init 29 = .ok (.iconst 5, 1) := by decide +kernel
theorem dX5_init_30 : decode cX5_init 30 = .ok (.newarray .int, 2) := by decide +kernel
theorem dX5_init_32 : decode cX5_init 32 = .ok (.putfield 21, 3) := by decide +kernel
theorem dX5_init_35 : decode cX5_init 35 = .ok (.return_, 1) := by decide +kernel
theorem dX5_begin_0 : decode cX5_begin 0 = .ok (.aload_n 0, 1) := by decide +kernel
theorem dX5_begin_1 : decode cX5_begin 1 = .ok (.iload_n 1, 1) := by decide +kernel
theorem dX5_begin_2 : decode cX5_begin 2 = .ok (.putfield 24, 3) := by decide +kernel
theorem dX5_begin_5 : decode cX5_begin 5 = .ok (.iconst 0, 1) := by decide +kernel
theorem dX5_begin_6 : decode cX5_begin 6 = .ok (.istore_n 2, 1) := by decide +kernel
theorem dX5_begin_7 : decode cX5_begin 7 = .ok (.iload_n 2, 1) := by decide +kernel
theorem dX5_begin_8 : decode cX5_begin 8 = .ok (.bipush 32, 2) := by decide +kernel
theorem dX5_begin_10 : decode cX5_begin 10 = .ok (.if_icmp .ge 16, 3) := by decide +kernel
theorem dX5_begin_13 : decode cX5_begin 13 = .ok (.aload_n 0, 1) := by decide +kernel
theorem dX5_begin_14 : decode cX5_begin 14 = .ok (.getfield 15, 3) := by decide +kernel
theorem dX5_begin_17 : decode cX5_begin 17 = .ok (.iload_n 2, 1) := by decide +kernel
theorem dX5_begin_18 : decode cX5_begin 18 = .ok (.iconst 0, 1) := by decide +kernel
theorem dX5_begin_19 : decode cX5_begin 19 = .ok (.iastore, 1) := by decide +kernel
theorem dX5_begin_20 : decode cX5_begin 20 = .ok (.iinc 2 1, 3) := by decide +kernel
theorem dX5_begin_23 : decode cX5_begin 23 = .ok (.goto (-16), 3) := by decide +kernel
theorem dX5_begin_26 : decode cX5_begin 26 = .ok (.iconst 0, 1) := by decide +kernel
theorem dX5_begin_27 : decode cX5_begin 27 = .ok (.istore_n 2, 1) := by decide +kernel
theorem dX5_begin_28 : decode cX5_begin 28 = .ok (.iload_n 2, 1) := by decide +kernel
theorem dX5_begin_29 : decode cX5_begin 29 = .ok (.iconst 5, 1) := by decide +kernel
theorem dX5_begin_30 : decode cX5_begin 30 = .ok (.if_icmp .ge 16, 3) := by decide +kernel
theorem dX5_begin_33 : decode cX5_begin 33 = .ok (.aload_n 0, 1) := by decide +kernel
theorem dX5_begin_34 : decode cX5_begin 34 = .ok (.getfield 21, 3) := by decide +kernel
theorem dX5_begin_37 : decode cX5_begin 37 = .ok (.iload_n 2, 1) := by decide +kernel
theorem dX5_begin_38 : decode cX5_begin 38 = .ok (.iconst 0, 1) := by decide +kernel
theorem dX5_begin_39 : decode cX5_begin 39 = .ok (.iastore, 1) := by decide +kernel
theorem dX5_begin_40 : decode cX5_begin 40 = .ok (.iinc 2 1, 3) := by decide +kernel
theorem dX5_begin_43 : decode cX5_begin 43 = .ok (.goto (-15), 3) := by decide +kernel
theorem dX5_begin_46 : decode cX5_begin 46 = .ok (.return_, 1) := by decide +kernel
theorem dX5_copyFrom_0 : decode cX5_copyFrom 0 = .ok (.aload_n 0, 1) := by decide +kernel
theorem dX5_copyFrom_1 : decode cX5_copyFrom 1 = .ok (.aload_n 1, 1) := by decide +kernel
theorem dX5_copyFrom_2 : decode cX5_copyFrom 2 = .ok (.getfield 24, 3) := by decide +kernel
theorem dX5_copyFrom_5 : decode cX5_copyFrom 5 = .ok (.putfield 24, 3) := by decide +kernel
theorem dX5_copyFrom_8 : decode cX5_copyFrom 8 = .ok (.aload_n 1, 1) := by decide +kernel
theorem dX5_copyFrom_9 : decode cX5_copyFrom 9 = .ok (.getfield 9, 3) := by decide +kernel
theorem dX5_copyFrom_12 : decode cX5_copyFrom 12 = .ok (.aload_n 0, 1) := by decide +kernel
theorem dX5_copyFrom_13 : decode cX5_copyFrom 13 = .ok (.getfield 9, 3) := by decide +kernel
theorem dX5_copyFrom_16 : decode cX5_copyFrom 16 = .ok (.invokestatic 28, 3) := by decide +kernel
theorem dX5_copyFrom_19 : decode cX5_copyFrom 19 = .ok (.aload_n 1, 1) := by decide +kernel
theorem dX5_copyFrom_20 : decode cX5_copyFrom 20 = .ok (.getfield 15, 3) := by decide +kernel
theorem dX5_copyFrom_23 : decode cX5_copyFrom 23 = .ok (.aload_n 0, 1) := by decide +kernel
theorem dX5_copyFrom_24 : decode cX5_copyFrom 24 = .ok (.getfield 15, 3) := by decide +kernel
theorem dX5_copyFrom_27 : decode cX5_copyFrom 27 = .ok (.invokestatic 28, 3) := by decide +kernel
theorem dX5_copyFrom_30 : decode cX5_copyFrom 30 = .ok (.aload_n 1, 1) := by decide +kernel
theorem dX5_copyFrom_31 : decode cX5_copyFrom 31 = .ok (.getfield 18, 3) := by decide +kernel
theorem dX5_copyFrom_34 : decode cX5_copyFrom 34 = .ok (.aload_n 0, 1) := by decide +kernel
theorem dX5_copyFrom_35 : decode cX5_copyFrom 35 = .ok (.getfield 18, 3) := by decide +kernel
theorem dX5_copyFrom_38 : decode cX5_copyFrom 38 = .ok (.invokestatic 28, 3) := by decide +kernel
theorem dX5_copyFrom_41 : decode cX5_copyFrom 41 = .ok (.aload_n 1, 1) := by decide +kernel
theorem dX5_copyFrom_42 : decode cX5_copyFrom 42 = .ok (.getfield 21, 3) := by decide +kernel
theorem dX5_copyFrom_45 : decode cX5_copyFrom 45 = .ok (.aload_n 0, 1) := by decide +kernel
theorem dX5_copyFrom_46 : decode cX5_copyFrom 46 = .ok (.getfield 21, 3) := by decide +kernel
theorem dX5_copyFrom_49 : decode cX5_copyFrom 49 = .ok (.invokestatic 28, 3) := by decide +kernel
theorem dX5_copyFrom_52 : decode cX5_copyFrom 52 = .ok (.return_, 1) := by decide +kernel
theorem dX5_has_0 : decode cX5_has 0 = .ok (.iload_n 1, 1) := by decide +kernel
theorem dX5_has_1 : decode cX5_has 1 = .ok (.ifCond .lt 15, 3) := by decide +kernel
theorem dX5_has_4 : decode cX5_has 4 = .ok (.iload_n 1, 1) := by decide +kernel
theorem dX5_has_5 : decode cX5_has 5 = .ok (.aload_n 0, 1) := by decide +kernel
theorem dX5_has_6 : decode cX5_has 6 = .ok (.getfield 24, 3) := by decide +kernel
theorem dX5_has_9 : decode cX5_has 9 = .ok (.if_icmp .ge 7, 3) := by decide +kernel
theorem dX5_has_12 : decode cX5_has 12 = .ok (.iconst 1, 1) := by decide +kernel
theorem dX5_has_13 : decode cX5_has 13 = .ok (.goto 4, 3) := by decide +kernel
theorem dX5_has_16 : decode cX5_has 16 = .ok (.iconst 0, 1) := by decide +kernel
theorem dX5_has_17 : decode cX5_has 17 = .ok (.ireturn, 1) := by decide +kernel
theorem dX5_strengthAt_0 : decode cX5_strengthAt 0 = .ok (.aload_n 0, 1) := by decide +kernel
theorem dX5_strengthAt_1 : decode cX5_strengthAt 1 = .ok (.iload_n 1, 1) := by decide +kernel
theorem dX5_strengthAt_2 : decode cX5_strengthAt 2 = .ok (.invokevirtual 32, 3) := by decide +kernel
theorem dX5_strengthAt_5 : decode cX5_strengthAt 5 = .ok (.ifCond .eq 12, 3) := by decide +kernel
theorem dX5_strengthAt_8 : decode cX5_strengthAt 8 = .ok (.aload_n 0, 1) := by decide +kernel
theorem dX5_strengthAt_9 : decode cX5_strengthAt 9 = .ok (.getfield 15, 3) := by decide +kernel
theorem dX5_strengthAt_12 : decode cX5_strengthAt 12 = .ok (.iload_n 1, 1) := by decide +kernel
theorem dX5_strengthAt_13 : decode cX5_strengthAt 13 = .ok (.iaload, 1) := by decide +kernel
theorem dX5_strengthAt_14 : decode cX5_strengthAt 14 = .ok (.goto 4, 3) := by decide +kernel
theorem dX5_strengthAt_17 : decode cX5_strengthAt 17 = .ok (.iconst 0, 1) := by decide +kernel
theorem dX5_strengthAt_18 : decode cX5_strengthAt 18 = .ok (.ireturn, 1) := by decide +kernel
theorem dX5_valueAt_0 : decode cX5_valueAt 0 = .ok (.aload_n 0, 1) := by decide +kernel
theorem dX5_valueAt_1 : decode cX5_valueAt 1 = .ok (.iload_n 1, 1) := by decide +kernel
theorem dX5_valueAt_2 : decode cX5_valueAt 2 = .ok (.invokevirtual 32, 3) := by decide +kernel
theorem dX5_valueAt_5 : decode cX5_valueAt 5 = .ok (.ifCond .eq 21, 3) := by decide +kernel
theorem dX5_valueAt_8 : decode cX5_valueAt 8 = .ok (.aload_n 0, 1) := by decide +kernel
theorem dX5_valueAt_9 : decode cX5_valueAt 9 = .ok (.getfield 15, 3) := by decide +kernel
theorem dX5_valueAt_12 : decode cX5_valueAt 12 = .ok (.iload_n 1, 1) := by decide +kernel
theorem dX5_valueAt_13 : decode cX5_valueAt 13 = .ok (.iaload, 1) := by decide +kernel
theorem dX5_valueAt_14 : decode cX5_valueAt 14 = .ok (.ifCond .le 12, 3) := by decide +kernel
theorem dX5_valueAt_17 : decode cX5_valueAt 17 = .ok (.aload_n 0, 1) := by decide +kernel
theorem dX5_valueAt_18 : decode cX5_valueAt 18 = .ok (.getfield 9, 3) := by decide +kernel
theorem dX5_valueAt_21 : decode cX5_valueAt 21 = .ok (.iload_n 1, 1) := by decide +kernel
theorem dX5_valueAt_22 : decode cX5_valueAt 22 = .ok (.iaload, 1) := by decide +kernel
theorem dX5_valueAt_23 : decode cX5_valueAt 23 = .ok (.goto 5, 3) := by decide +kernel
theorem dX5_valueAt_26 : decode cX5_valueAt 26 = .ok (.bipush (-6), 2) := by decide +kernel
theorem dX5_valueAt_28 : decode cX5_valueAt 28 = .ok (.ireturn, 1) := by decide +kernel
theorem dX5_birthAt_0 : decode cX5_birthAt 0 = .ok (.aload_n 0, 1) := by decide +kernel
theorem dX5_birthAt_1 : decode cX5_birthAt 1 = .ok (.iload_n 1, 1) := by decide +kernel
theorem dX5_birthAt_2 : decode cX5_birthAt 2 = .ok (.invokevirtual 32, 3) := by decide +kernel
theorem dX5_birthAt_5 : decode cX5_birthAt 5 = .ok (.ifCond .eq 12, 3) := by decide +kernel
theorem dX5_birthAt_8 : decode cX5_birthAt 8 = .ok (.aload_n 0, 1) := by decide +kernel
theorem dX5_birthAt_9 : decode cX5_birthAt 9 = .ok (.getfield 18, 3) := by decide +kernel
theorem dX5_birthAt_12 : decode cX5_birthAt 12 = .ok (.iload_n 1, 1) := by decide +kernel
theorem dX5_birthAt_13 : decode cX5_birthAt 13 = .ok (.iaload, 1) := by decide +kernel
theorem dX5_birthAt_14 : decode cX5_birthAt 14 = .ok (.goto 4, 3) := by decide +kernel
theorem dX5_birthAt_17 : decode cX5_birthAt 17 = .ok (.iconst 0, 1) := by decide +kernel
theorem dX5_birthAt_18 : decode cX5_birthAt 18 = .ok (.ireturn, 1) := by decide +kernel
theorem dX5_tally_0 : decode cX5_tally 0 = .ok (.iload_n 1, 1) := by decide +kernel
theorem dX5_tally_1 : decode cX5_tally 1 = .ok (.iconst 0, 1) := by decide +kernel
theorem dX5_tally_2 : decode cX5_tally 2 = .ok (.iconst 4, 1) := by decide +kernel
theorem dX5_tally_3 : decode cX5_tally 3 = .ok (.invokestatic 36, 3) := by decide +kernel
theorem dX5_tally_6 : decode cX5_tally 6 = .ok (.ifCond .eq 12, 3) := by decide +kernel
theorem dX5_tally_9 : decode cX5_tally 9 = .ok (.aload_n 0, 1) := by decide +kernel
theorem dX5_tally_10 : decode cX5_tally 10 = .ok (.getfield 21, 3) := by decide +kernel
theorem dX5_tally_13 : decode cX5_tally 13 = .ok (.iload_n 1, 1) := by decide +kernel
theorem dX5_tally_14 : decode cX5_tally 14 = .ok (.iaload, 1) := by decide +kernel
theorem dX5_tally_15 : decode cX5_tally 15 = .ok (.goto 4, 3) := by decide +kernel
theorem dX5_tally_18 : decode cX5_tally 18 = .ok (.iconst 0, 1) := by decide +kernel
theorem dX5_tally_19 : decode cX5_tally 19 = .ok (.ireturn, 1) := by decide +kernel
theorem dX5_flashes_0 : decode cX5_flashes 0 = .ok (.iconst 0, 1) := by decide +kernel
theorem dX5_flashes_1 : decode cX5_flashes 1 = .ok (.istore_n 1, 1) := by decide +kernel
theorem dX5_flashes_2 : decode cX5_flashes 2 = .ok (.iconst 0, 1) := by decide +kernel
theorem dX5_flashes_3 : decode cX5_flashes 3 = .ok (.istore_n 2, 1) := by decide +kernel
theorem dX5_flashes_4 : decode cX5_flashes 4 = .ok (.iload_n 2, 1) := by decide +kernel
theorem dX5_flashes_5 : decode cX5_flashes 5 = .ok (.aload_n 0, 1) := by decide +kernel
theorem dX5_flashes_6 : decode cX5_flashes 6 = .ok (.getfield 24, 3) := by decide +kernel
theorem dX5_flashes_9 : decode cX5_flashes 9 = .ok (.if_icmp .ge 21, 3) := by decide +kernel
theorem dX5_flashes_12 : decode cX5_flashes 12 = .ok (.aload_n 0, 1) := by decide +kernel
theorem dX5_flashes_13 : decode cX5_flashes 13 = .ok (.getfield 15, 3) := by decide +kernel
theorem dX5_flashes_16 : decode cX5_flashes 16 = .ok (.iload_n 2, 1) := by decide +kernel
theorem dX5_flashes_17 : decode cX5_flashes 17 = .ok (.iaload, 1) := by decide +kernel
theorem dX5_flashes_18 : decode cX5_flashes 18 = .ok (.ifCond .le 6, 3) := by decide +kernel
theorem dX5_flashes_21 : decode cX5_flashes 21 = .ok (.iinc 1 1, 3) := by decide +kernel
theorem dX5_flashes_24 : decode cX5_flashes 24 = .ok (.iinc 2 1, 3) := by decide +kernel
theorem dX5_flashes_27 : decode cX5_flashes 27 = .ok (.goto (-23), 3) := by decide +kernel
theorem dX5_flashes_30 : decode cX5_flashes 30 = .ok (.iload_n 1, 1) := by decide +kernel
theorem dX5_flashes_31 : decode cX5_flashes 31 = .ok (.ireturn, 1) := by decide +kernel
theorem dX5_strengthInAll_0 : decode cX5_strengthInAll 0 = .ok (.iconst 0, 1) := by decide +kernel
theorem dX5_strengthInAll_1 : decode cX5_strengthInAll 1 = .ok (.istore_n 1, 1) := by decide +kernel
theorem dX5_strengthInAll_2 : decode cX5_strengthInAll 2 = .ok (.iconst 0, 1) := by decide +kernel
theorem dX5_strengthInAll_3 : decode cX5_strengthInAll 3 = .ok (.istore_n 2, 1) := by decide +kernel
theorem dX5_strengthInAll_4 : decode cX5_strengthInAll 4 = .ok (.iload_n 2, 1) := by decide +kernel
theorem dX5_strengthInAll_5 : decode cX5_strengthInAll 5 = .ok (.aload_n 0, 1) := by decide +kernel
theorem dX5_strengthInAll_6 : decode cX5_strengthInAll 6 = .ok (.getfield 24, 3) := by decide +kernel
theorem dX5_strengthInAll_9 : decode cX5_strengthInAll 9 = .ok (.if_icmp .ge 18, 3) := by decide +kernel
theorem dX5_strengthInAll_12 : decode cX5_strengthInAll 12 = .ok (.iload_n 1, 1) := by decide +kernel
theorem dX5_strengthInAll_13 : decode cX5_strengthInAll 13 = .ok (.aload_n 0, 1) := by decide +kernel
theorem dX5_strengthInAll_14 : decode cX5_strengthInAll 14 = .ok (.getfield 15, 3) := by decide +kernel
theorem dX5_strengthInAll_17 : decode cX5_strengthInAll 17 = .ok (.iload_n 2, 1) := by decide +kernel
theorem dX5_strengthInAll_18 : decode cX5_strengthInAll 18 = .ok (.iaload, 1) := by decide +kernel
theorem dX5_strengthInAll_19 : decode cX5_strengthInAll 19 = .ok (.iadd, 1) := by decide +kernel
theorem dX5_strengthInAll_20 : decode cX5_strengthInAll 20 = .ok (.istore_n 1, 1) := by decide +kernel
theorem dX5_strengthInAll_21 : decode cX5_strengthInAll 21 = .ok (.iinc 2 1, 3) := by decide +kernel
theorem dX5_strengthInAll_24 : decode cX5_strengthInAll 24 = .ok (.goto (-20), 3) := by decide +kernel
theorem dX5_strengthInAll_27 : decode cX5_strengthInAll 27 = .ok (.iload_n 1, 1) := by decide +kernel
theorem dX5_strengthInAll_28 : decode cX5_strengthInAll 28 = .ok (.ireturn, 1) := by decide +kernel
theorem dX5_faintest_0 : decode cX5_faintest 0 = .ok (.iconst 0, 1) := by decide +kernel
theorem dX5_faintest_1 : decode cX5_faintest 1 = .ok (.istore_n 1, 1) := by decide +kernel
theorem dX5_faintest_2 : decode cX5_faintest 2 = .ok (.iconst 0, 1) := by decide +kernel
theorem dX5_faintest_3 : decode cX5_faintest 3 = .ok (.istore_n 2, 1) := by decide +kernel
theorem dX5_faintest_4 : decode cX5_faintest 4 = .ok (.iload_n 2, 1) := by decide +kernel
theorem dX5_faintest_5 : decode cX5_faintest 5 = .ok (.aload_n 0, 1) := by decide +kernel
theorem dX5_faintest_6 : decode cX5_faintest 6 = .ok (.getfield 24, 3) := by decide +kernel
theorem dX5_faintest_9 : decode cX5_faintest 9 = .ok (.if_icmp .ge 31, 3) := by decide +kernel
theorem dX5_faintest_12 : decode cX5_faintest 12 = .ok (.aload_n 0, 1) := by decide +kernel
theorem dX5_faintest_13 : decode cX5_faintest 13 = .ok (.getfield 15, 3) := by decide +kernel
theorem dX5_faintest_16 : decode cX5_faintest 16 = .ok (.iload_n 2, 1) := by decide +kernel
theorem dX5_faintest_17 : decode cX5_faintest 17 = .ok (.iaload, 1) := by decide +kernel
theorem dX5_faintest_18 : decode cX5_faintest 18 = .ok (.istore_n 3, 1) := by decide +kernel
theorem dX5_faintest_19 : decode cX5_faintest 19 = .ok (.iload_n 3, 1) := by decide +kernel
theorem dX5_faintest_20 : decode cX5_faintest 20 = .ok (.ifCond .le 14, 3) := by decide +kernel
theorem dX5_faintest_23 : decode cX5_faintest 23 = .ok (.iload_n 1, 1) := by decide +kernel
theorem dX5_faintest_24 : decode cX5_faintest 24 = .ok (.ifCond .eq 8, 3) := by decide +kernel
theorem dX5_faintest_27 : decode cX5_faintest 27 = .ok (.iload_n 3, 1) := by decide +kernel
theorem dX5_faintest_28 : decode cX5_faintest 28 = .ok (.iload_n 1, 1) := by decide +kernel
theorem dX5_faintest_29 : decode cX5_faintest 29 = .ok (.if_icmp .ge 5, 3) := by decide +kernel
theorem dX5_faintest_32 : decode cX5_faintest 32 = .ok (.iload_n 3, 1) := by decide +kernel
theorem dX5_faintest_33 : decode cX5_faintest 33 = .ok (.istore_n 1, 1) := by decide +kernel
theorem dX5_faintest_34 : decode cX5_faintest 34 = .ok (.iinc 2 1, 3) := by decide +kernel
theorem dX5_faintest_37 : decode cX5_faintest 37 = .ok (.goto (-33), 3) := by decide +kernel
theorem dX5_faintest_40 : decode cX5_faintest 40 = .ok (.iload_n 1, 1) := by decide +kernel
theorem dX5_faintest_41 : decode cX5_faintest 41 = .ok (.ireturn, 1) := by decide +kernel
theorem dX5_moveOn_0 : decode cX5_moveOn 0 = .ok (.aload_n 0, 1) := by decide +kernel
theorem dX5_moveOn_1 : decode cX5_moveOn 1 = .ok (.getfield 9, 3) := by decide +kernel
theorem dX5_moveOn_4 : decode cX5_moveOn 4 = .ok (.aload_n 0, 1) := by decide +kernel
theorem dX5_moveOn_5 : decode cX5_moveOn 5 = .ok (.getfield 24, 3) := by decide +kernel
theorem dX5_moveOn_8 : decode cX5_moveOn 8 = .ok (.invokestatic 40, 3) := by decide +kernel
theorem dX5_moveOn_11 : decode cX5_moveOn 11 = .ok (.aload_n 0, 1) := by decide +kernel
theorem dX5_moveOn_12 : decode cX5_moveOn 12 = .ok (.getfield 15, 3) := by decide +kernel
theorem dX5_moveOn_15 : decode cX5_moveOn 15 = .ok (.aload_n 0, 1) := by decide +kernel
theorem dX5_moveOn_16 : decode cX5_moveOn 16 = .ok (.getfield 24, 3) := by decide +kernel
theorem dX5_moveOn_19 : decode cX5_moveOn 19 = .ok (.invokestatic 40, 3) := by decide +kernel
theorem dX5_moveOn_22 : decode cX5_moveOn 22 = .ok (.aload_n 0, 1) := by decide +kernel
theorem dX5_moveOn_23 : decode cX5_moveOn 23 = .ok (.getfield 18, 3) := by decide +kernel
theorem dX5_moveOn_26 : decode cX5_moveOn 26 = .ok (.aload_n 0, 1) := by decide +kernel
theorem dX5_moveOn_27 : decode cX5_moveOn 27 = .ok (.getfield 24, 3) := by decide +kernel
theorem dX5_moveOn_30 : decode cX5_moveOn 30 = .ok (.invokestatic 40, 3) := by decide +kernel
theorem dX5_moveOn_33 : decode cX5_moveOn 33 = .ok (.iconst 0, 1) := by decide +kernel
theorem dX5_moveOn_34 : decode cX5_moveOn 34 = .ok (.istore_n 2, 1) := by decide +kernel
theorem dX5_moveOn_35 : decode cX5_moveOn 35 = .ok (.iload_n 2, 1) := by decide +kernel
theorem dX5_moveOn_36 : decode cX5_moveOn 36 = .ok (.aload_n 0, 1) := by decide +kernel
theorem dX5_moveOn_37 : decode cX5_moveOn 37 = .ok (.getfield 24, 3) := by decide +kernel
theorem dX5_moveOn_40 : decode cX5_moveOn 40 = .ok (.if_icmp .ge 24, 3) := by decide +kernel
theorem dX5_moveOn_43 : decode cX5_moveOn 43 = .ok (.aload_n 0, 1) := by decide +kernel
theorem dX5_moveOn_44 : decode cX5_moveOn 44 = .ok (.getfield 15, 3) := by decide +kernel
theorem dX5_moveOn_47 : decode cX5_moveOn 47 = .ok (.iload_n 2, 1) := by decide +kernel
theorem dX5_moveOn_48 : decode cX5_moveOn 48 = .ok (.iaload, 1) := by decide +kernel
theorem dX5_moveOn_49 : decode cX5_moveOn 49 = .ok (.ifCond .le 9, 3) := by decide +kernel
theorem dX5_moveOn_52 : decode cX5_moveOn 52 = .ok (.aload_n 0, 1) := by decide +kernel
theorem dX5_moveOn_53 : decode cX5_moveOn 53 = .ok (.iload_n 2, 1) := by decide +kernel
theorem dX5_moveOn_54 : decode cX5_moveOn 54 = .ok (.iload_n 1, 1) := by decide +kernel
theorem dX5_moveOn_55 : decode cX5_moveOn 55 = .ok (.invokevirtual 44, 3) := by decide +kernel
theorem dX5_moveOn_58 : decode cX5_moveOn 58 = .ok (.iinc 2 1, 3) := by decide +kernel
theorem dX5_moveOn_61 : decode cX5_moveOn 61 = .ok (.goto (-26), 3) := by decide +kernel
theorem dX5_moveOn_64 : decode cX5_moveOn 64 = .ok (.return_, 1) := by decide +kernel
theorem dX5_fade_0 : decode cX5_fade 0 = .ok (.aload_n 0, 1) := by decide +kernel
theorem dX5_fade_1 : decode cX5_fade 1 = .ok (.iload_n 1, 1) := by decide +kernel
theorem dX5_fade_2 : decode cX5_fade 2 = .ok (.invokevirtual 32, 3) := by decide +kernel
theorem dX5_fade_5 : decode cX5_fade 5 = .ok (.ifCond .ne 4, 3) := by decide +kernel
theorem dX5_fade_8 : decode cX5_fade 8 = .ok (.return_, 1) := by decide +kernel
theorem dX5_fade_9 : decode cX5_fade 9 = .ok (.aload_n 0, 1) := by decide +kernel
theorem dX5_fade_10 : decode cX5_fade 10 = .ok (.getfield 15, 3) := by decide +kernel
theorem dX5_fade_13 : decode cX5_fade 13 = .ok (.iload_n 1, 1) := by decide +kernel
theorem dX5_fade_14 : decode cX5_fade 14 = .ok (.dup2, 1) := by decide +kernel
theorem dX5_fade_15 : decode cX5_fade 15 = .ok (.iaload, 1) := by decide +kernel
theorem dX5_fade_16 : decode cX5_fade 16 = .ok (.iload_n 2, 1) := by decide +kernel
theorem dX5_fade_17 : decode cX5_fade 17 = .ok (.isub, 1) := by decide +kernel
theorem dX5_fade_18 : decode cX5_fade 18 = .ok (.iastore, 1) := by decide +kernel
theorem dX5_fade_19 : decode cX5_fade 19 = .ok (.aload_n 0, 1) := by decide +kernel
theorem dX5_fade_20 : decode cX5_fade 20 = .ok (.getfield 15, 3) := by decide +kernel
theorem dX5_fade_23 : decode cX5_fade 23 = .ok (.iload_n 1, 1) := by decide +kernel
theorem dX5_fade_24 : decode cX5_fade 24 = .ok (.iaload, 1) := by decide +kernel
theorem dX5_fade_25 : decode cX5_fade 25 = .ok (.ifCond .gt 20, 3) := by decide +kernel
theorem dX5_fade_28 : decode cX5_fade 28 = .ok (.aload_n 0, 1) := by decide +kernel
theorem dX5_fade_29 : decode cX5_fade 29 = .ok (.getfield 15, 3) := by decide +kernel
theorem dX5_fade_32 : decode cX5_fade 32 = .ok (.iload_n 1, 1) := by decide +kernel
theorem dX5_fade_33 : decode cX5_fade 33 = .ok (.iconst 0, 1) := by decide +kernel
theorem dX5_fade_34 : decode cX5_fade 34 = .ok (.iastore, 1) := by decide +kernel
theorem dX5_fade_35 : decode cX5_fade 35 = .ok (.aload_n 0, 1) := by decide +kernel
theorem dX5_fade_36 : decode cX5_fade 36 = .ok (.getfield 21, 3) := by decide +kernel
theorem dX5_fade_39 : decode cX5_fade 39 = .ok (.iconst 1, 1) := by decide +kernel
theorem dX5_fade_40 : decode cX5_fade 40 = .ok (.dup2, 1) := by decide +kernel
theorem dX5_fade_41 : decode cX5_fade 41 = .ok (.iaload, 1) := by decide +kernel
theorem dX5_fade_42 : decode cX5_fade 42 = .ok (.iconst 1, 1) := by decide +kernel
theorem dX5_fade_43 : decode cX5_fade 43 = .ok (.iadd, 1) := by decide +kernel
theorem dX5_fade_44 : decode cX5_fade 44 = .ok (.iastore, 1) := by decide +kernel
theorem dX5_fade_45 : decode cX5_fade 45 = .ok (.return_, 1) := by decide +kernel
theorem dX5_strengthen_0 : decode cX5_strengthen 0 = .ok (.aload_n 0, 1) := by decide +kernel
theorem dX5_strengthen_1 : decode cX5_strengthen 1 = .ok (.iload_n 1, 1) := by decide +kernel
theorem dX5_strengthen_2 : decode cX5_strengthen 2 = .ok (.invokevirtual 32, 3) := by decide +kernel
theorem dX5_strengthen_5 : decode cX5_strengthen 5 = .ok (.ifCond .eq 13, 3) := by decide +kernel
theorem dX5_strengthen_8 : decode cX5_strengthen 8 = .ok (.aload_n 0, 1) := by decide +kernel
theorem dX5_strengthen_9 : decode cX5_strengthen 9 = .ok (.getfield 15, 3) := by decide +kernel
theorem dX5_strengthen_12 : decode cX5_strengthen 12 = .ok (.iload_n 1, 1) := by decide +kernel
theorem dX5_strengthen_13 : decode cX5_strengthen 13 = .ok (.dup2, 1) := by decide +kernel
theorem dX5_strengthen_14 : decode cX5_strengthen 14 = .ok (.iaload, 1) := by decide +kernel
theorem dX5_strengthen_15 : decode cX5_strengthen 15 = .ok (.iload_n 2, 1) := by decide +kernel
theorem dX5_strengthen_16 : decode cX5_strengthen 16 = .ok (.iadd, 1) := by decide +kernel
theorem dX5_strengthen_17 : decode cX5_strengthen 17 = .ok (.iastore, 1) := by decide +kernel
theorem dX5_strengthen_18 : decode cX5_strengthen 18 = .ok (.return_, 1) := by decide +kernel
theorem dX5_changeValue_0 : decode cX5_changeValue 0 = .ok (.aload_n 0, 1) := by decide +kernel
theorem dX5_changeValue_1 : decode cX5_changeValue 1 = .ok (.iload_n 1, 1) := by decide +kernel
theorem dX5_changeValue_2 : decode cX5_changeValue 2 = .ok (.invokevirtual 32, 3) := by decide +kernel
theorem dX5_changeValue_5 : decode cX5_changeValue 5 = .ok (.ifCond .eq 10, 3) := by decide +kernel
theorem dX5_changeValue_8 : decode cX5_changeValue 8 = .ok (.aload_n 0, 1) := by decide +kernel
theorem dX5_changeValue_9 : decode cX5_changeValue 9 = .ok (.getfield 9, 3) := by decide +kernel
theorem dX5_changeValue_12 : decode cX5_changeValue 12 = .ok (.iload_n 1, 1) := by decide +kernel
theorem dX5_changeValue_13 : decode cX5_changeValue 13 = .ok (.iload_n 2, 1) := by decide +kernel
theorem dX5_changeValue_14 : decode cX5_changeValue 14 = .ok (.iastore, 1) := by decide +kernel
theorem dX5_changeValue_15 : decode cX5_changeValue 15 = .ok (.return_, 1) := by decide +kernel
theorem dX5_putIn_0 : decode cX5_putIn 0 = .ok (.aload_n 0, 1) := by decide +kernel
theorem dX5_putIn_1 : decode cX5_putIn 1 = .ok (.iload_n 1, 1) := by decide +kernel
theorem dX5_putIn_2 : decode cX5_putIn 2 = .ok (.invokevirtual 32, 3) := by decide +kernel
theorem dX5_putIn_5 : decode cX5_putIn 5 = .ok (.ifCond .eq 35, 3) := by decide +kernel
theorem dX5_putIn_8 : decode cX5_putIn 8 = .ok (.aload_n 0, 1) := by decide +kernel
theorem dX5_putIn_9 : decode cX5_putIn 9 = .ok (.getfield 9, 3) := by decide +kernel
theorem dX5_putIn_12 : decode cX5_putIn 12 = .ok (.iload_n 1, 1) := by decide +kernel
theorem dX5_putIn_13 : decode cX5_putIn 13 = .ok (.iload_n 2, 1) := by decide +kernel
theorem dX5_putIn_14 : decode cX5_putIn 14 = .ok (.iastore, 1) := by decide +kernel
theorem dX5_putIn_15 : decode cX5_putIn 15 = .ok (.aload_n 0, 1) := by decide +kernel
theorem dX5_putIn_16 : decode cX5_putIn 16 = .ok (.getfield 15, 3) := by decide +kernel
theorem dX5_putIn_19 : decode cX5_putIn 19 = .ok (.iload_n 1, 1) := by decide +kernel
theorem dX5_putIn_20 : decode cX5_putIn 20 = .ok (.iload_n 3, 1) := by decide +kernel
theorem dX5_putIn_21 : decode cX5_putIn 21 = .ok (.iastore, 1) := by decide +kernel
theorem dX5_putIn_22 : decode cX5_putIn 22 = .ok (.aload_n 0, 1) := by decide +kernel
theorem dX5_putIn_23 : decode cX5_putIn 23 = .ok (.getfield 18, 3) := by decide +kernel
theorem dX5_putIn_26 : decode cX5_putIn 26 = .ok (.iload_n 1, 1) := by decide +kernel
theorem dX5_putIn_27 : decode cX5_putIn 27 = .ok (.iload 4, 2) := by decide +kernel
theorem dX5_putIn_29 : decode cX5_putIn 29 = .ok (.iastore, 1) := by decide +kernel
theorem dX5_putIn_30 : decode cX5_putIn 30 = .ok (.aload_n 0, 1) := by decide +kernel
theorem dX5_putIn_31 : decode cX5_putIn 31 = .ok (.getfield 21, 3) := by decide +kernel
theorem dX5_putIn_34 : decode cX5_putIn 34 = .ok (.iconst 0, 1) := by decide +kernel
theorem dX5_putIn_35 : decode cX5_putIn 35 = .ok (.dup2, 1) := by decide +kernel
theorem dX5_putIn_36 : decode cX5_putIn 36 = .ok (.iaload, 1) := by decide +kernel
theorem dX5_putIn_37 : decode cX5_putIn 37 = .ok (.iconst 1, 1) := by decide +kernel
theorem dX5_putIn_38 : decode cX5_putIn 38 = .ok (.iadd, 1) := by decide +kernel
theorem dX5_putIn_39 : decode cX5_putIn 39 = .ok (.iastore, 1) := by decide +kernel
theorem dX5_putIn_40 : decode cX5_putIn 40 = .ok (.return_, 1) := by decide +kernel
theorem dX5_drop_0 : decode cX5_drop 0 = .ok (.aload_n 0, 1) := by decide +kernel
theorem dX5_drop_1 : decode cX5_drop 1 = .ok (.iload_n 1, 1) := by decide +kernel
theorem dX5_drop_2 : decode cX5_drop 2 = .ok (.invokevirtual 32, 3) := by decide +kernel
theorem dX5_drop_5 : decode cX5_drop 5 = .ok (.ifCond .eq 20, 3) := by decide +kernel
theorem dX5_drop_8 : decode cX5_drop 8 = .ok (.aload_n 0, 1) := by decide +kernel
theorem dX5_drop_9 : decode cX5_drop 9 = .ok (.getfield 15, 3) := by decide +kernel
theorem dX5_drop_12 : decode cX5_drop 12 = .ok (.iload_n 1, 1) := by decide +kernel
theorem dX5_drop_13 : decode cX5_drop 13 = .ok (.iconst 0, 1) := by decide +kernel
theorem dX5_drop_14 : decode cX5_drop 14 = .ok (.iastore, 1) := by decide +kernel
theorem dX5_drop_15 : decode cX5_drop 15 = .ok (.aload_n 0, 1) := by decide +kernel
theorem dX5_drop_16 : decode cX5_drop 16 = .ok (.getfield 21, 3) := by decide +kernel
theorem dX5_drop_19 : decode cX5_drop 19 = .ok (.iconst 2, 1) := by decide +kernel
theorem dX5_drop_20 : decode cX5_drop 20 = .ok (.dup2, 1) := by decide +kernel
theorem dX5_drop_21 : decode cX5_drop 21 = .ok (.iaload, 1) := by decide +kernel
theorem dX5_drop_22 : decode cX5_drop 22 = .ok (.iconst 1, 1) := by decide +kernel
theorem dX5_drop_23 : decode cX5_drop 23 = .ok (.iadd, 1) := by decide +kernel
theorem dX5_drop_24 : decode cX5_drop 24 = .ok (.iastore, 1) := by decide +kernel
theorem dX5_drop_25 : decode cX5_drop 25 = .ok (.return_, 1) := by decide +kernel
theorem dX5_exchange_0 : decode cX5_exchange 0 = .ok (.aload_n 0, 1) := by decide +kernel
theorem dX5_exchange_1 : decode cX5_exchange 1 = .ok (.iload_n 1, 1) := by decide +kernel
theorem dX5_exchange_2 : decode cX5_exchange 2 = .ok (.invokevirtual 32, 3) := by decide +kernel
theorem dX5_exchange_5 : decode cX5_exchange 5 = .ok (.ifCond .eq 11, 3) := by decide +kernel
theorem dX5_exchange_8 : decode cX5_exchange 8 = .ok (.aload_n 2, 1) := by decide +kernel
theorem dX5_exchange_9 : decode cX5_exchange 9 = .ok (.iload_n 3, 1) := by decide +kernel
theorem dX5_exchange_10 : decode cX5_exchange 10 = .ok (.invokevirtual 32, 3) := by decide +kernel
theorem dX5_exchange_13 : decode cX5_exchange 13 = .ok (.ifCond .ne 4, 3) := by decide +kernel
theorem dX5_exchange_16 : decode cX5_exchange 16 = .ok (.return_, 1) := by decide +kernel
theorem dX5_exchange_17 : decode cX5_exchange 17 = .ok (.aload_n 0, 1) := by decide +kernel
theorem dX5_exchange_18 : decode cX5_exchange 18 = .ok (.getfield 9, 3) := by decide +kernel
theorem dX5_exchange_21 : decode cX5_exchange 21 = .ok (.iload_n 1, 1) := by decide +kernel
theorem dX5_exchange_22 : decode cX5_exchange 22 = .ok (.iaload, 1) := by decide +kernel
theorem dX5_exchange_23 : decode cX5_exchange 23 = .ok (.istore 4, 2) := by decide +kernel
theorem dX5_exchange_25 : decode cX5_exchange 25 = .ok (.aload_n 0, 1) := by decide +kernel
theorem dX5_exchange_26 : decode cX5_exchange 26 = .ok (.getfield 15, 3) := by decide +kernel
theorem dX5_exchange_29 : decode cX5_exchange 29 = .ok (.iload_n 1, 1) := by decide +kernel
theorem dX5_exchange_30 : decode cX5_exchange 30 = .ok (.iaload, 1) := by decide +kernel
theorem dX5_exchange_31 : decode cX5_exchange 31 = .ok (.istore 5, 2) := by decide +kernel
theorem dX5_exchange_33 : decode cX5_exchange 33 = .ok (.aload_n 0, 1) := by decide +kernel
theorem dX5_exchange_34 : decode cX5_exchange 34 = .ok (.getfield 18, 3) := by decide +kernel
theorem dX5_exchange_37 : decode cX5_exchange 37 = .ok (.iload_n 1, 1) := by decide +kernel
theorem dX5_exchange_38 : decode cX5_exchange 38 = .ok (.iaload, 1) := by decide +kernel
theorem dX5_exchange_39 : decode cX5_exchange 39 = .ok (.istore 6, 2) := by decide +kernel
theorem dX5_exchange_41 : decode cX5_exchange 41 = .ok (.aload_n 0, 1) := by decide +kernel
theorem dX5_exchange_42 : decode cX5_exchange 42 = .ok (.getfield 9, 3) := by decide +kernel
theorem dX5_exchange_45 : decode cX5_exchange 45 = .ok (.iload_n 1, 1) := by decide +kernel
theorem dX5_exchange_46 : decode cX5_exchange 46 = .ok (.aload_n 2, 1) := by decide +kernel
theorem dX5_exchange_47 : decode cX5_exchange 47 = .ok (.getfield 9, 3) := by decide +kernel
theorem dX5_exchange_50 : decode cX5_exchange 50 = .ok (.iload_n 3, 1) := by decide +kernel
theorem dX5_exchange_51 : decode cX5_exchange 51 = .ok (.iaload, 1) := by decide +kernel
theorem dX5_exchange_52 : decode cX5_exchange 52 = .ok (.iastore, 1) := by decide +kernel
theorem dX5_exchange_53 : decode cX5_exchange 53 = .ok (.aload_n 0, 1) := by decide +kernel
theorem dX5_exchange_54 : decode cX5_exchange 54 = .ok (.getfield 15, 3) := by decide +kernel
theorem dX5_exchange_57 : decode cX5_exchange 57 = .ok (.iload_n 1, 1) := by decide +kernel
theorem dX5_exchange_58 : decode cX5_exchange 58 = .ok (.aload_n 2, 1) := by decide +kernel
theorem dX5_exchange_59 : decode cX5_exchange 59 = .ok (.getfield 15, 3) := by decide +kernel
theorem dX5_exchange_62 : decode cX5_exchange 62 = .ok (.iload_n 3, 1) := by decide +kernel
theorem dX5_exchange_63 : decode cX5_exchange 63 = .ok (.iaload, 1) := by decide +kernel
theorem dX5_exchange_64 : decode cX5_exchange 64 = .ok (.iastore, 1) := by decide +kernel
theorem dX5_exchange_65 : decode cX5_exchange 65 = .ok (.aload_n 0, 1) := by decide +kernel
theorem dX5_exchange_66 : decode cX5_exchange 66 = .ok (.getfield 18, 3) := by decide +kernel
theorem dX5_exchange_69 : decode cX5_exchange 69 = .ok (.iload_n 1, 1) := by decide +kernel
theorem dX5_exchange_70 : decode cX5_exchange 70 = .ok (.aload_n 2, 1) := by decide +kernel
theorem dX5_exchange_71 : decode cX5_exchange 71 = .ok (.getfield 18, 3) := by decide +kernel
theorem dX5_exchange_74 : decode cX5_exchange 74 = .ok (.iload_n 3, 1) := by decide +kernel
theorem dX5_exchange_75 : decode cX5_exchange 75 = .ok (.iaload, 1) := by decide +kernel
theorem dX5_exchange_76 : decode cX5_exchange 76 = .ok (.iastore, 1) := by decide +kernel
theorem dX5_exchange_77 : decode cX5_exchange 77 = .ok (.aload_n 2, 1) := by decide +kernel
theorem dX5_exchange_78 : decode cX5_exchange 78 = .ok (.getfield 9, 3) := by decide +kernel
theorem dX5_exchange_81 : decode cX5_exchange 81 = .ok (.iload_n 3, 1) := by decide +kernel
theorem dX5_exchange_82 : decode cX5_exchange 82 = .ok (.iload 4, 2) := by decide +kernel
theorem dX5_exchange_84 : decode cX5_exchange 84 = .ok (.iastore, 1) := by decide +kernel
theorem dX5_exchange_85 : decode cX5_exchange 85 = .ok (.aload_n 2, 1) := by decide +kernel
theorem dX5_exchange_86 : decode cX5_exchange 86 = .ok (.getfield 15, 3) := by decide +kernel
theorem dX5_exchange_89 : decode cX5_exchange 89 = .ok (.iload_n 3, 1) := by decide +kernel
theorem dX5_exchange_90 : decode cX5_exchange 90 = .ok (.iload 5, 2) := by decide +kernel
theorem dX5_exchange_92 : decode cX5_exchange 92 = .ok (.iastore, 1) := by decide +kernel
theorem dX5_exchange_93 : decode cX5_exchange 93 = .ok (.aload_n 2, 1) := by decide +kernel
theorem dX5_exchange_94 : decode cX5_exchange 94 = .ok (.getfield 18, 3) := by decide +kernel
theorem dX5_exchange_97 : decode cX5_exchange 97 = .ok (.iload_n 3, 1) := by decide +kernel
theorem dX5_exchange_98 : decode cX5_exchange 98 = .ok (.iload 6, 2) := by decide +kernel
theorem dX5_exchange_100 : decode cX5_exchange 100 = .ok (.iastore, 1) := by decide +kernel
theorem dX5_exchange_101 : decode cX5_exchange 101 = .ok (.return_, 1) := by decide +kernel
theorem dX5_tellCrossing_0 : decode cX5_tellCrossing 0 = .ok (.aload_n 0, 1) := by decide +kernel
theorem dX5_tellCrossing_1 : decode cX5_tellCrossing 1 = .ok (.getfield 21, 3) := by decide +kernel
theorem dX5_tellCrossing_4 : decode cX5_tellCrossing 4 = .ok (.iconst 4, 1) := by decide +kernel
theorem dX5_tellCrossing_5 : decode cX5_tellCrossing 5 = .ok (.dup2, 1) := by decide +kernel
theorem dX5_tellCrossing_6 : decode cX5_tellCrossing 6 = .ok (.iaload, 1) := by decide +kernel
theorem dX5_tellCrossing_7 : decode cX5_tellCrossing 7 = .ok (.iconst 1, 1) := by decide +kernel
theorem dX5_tellCrossing_8 : decode cX5_tellCrossing 8 = .ok (.iadd, 1) := by decide +kernel
theorem dX5_tellCrossing_9 : decode cX5_tellCrossing 9 = .ok (.iastore, 1) := by decide +kernel
theorem dX5_tellCrossing_10 : decode cX5_tellCrossing 10 = .ok (.aload_n 1, 1) := by decide +kernel
theorem dX5_tellCrossing_11 : decode cX5_tellCrossing 11 = .ok (.getfield 21, 3) := by decide +kernel
theorem dX5_tellCrossing_14 : decode cX5_tellCrossing 14 = .ok (.iconst 3, 1) := by decide +kernel
theorem dX5_tellCrossing_15 : decode cX5_tellCrossing 15 = .ok (.dup2, 1) := by decide +kernel
theorem dX5_tellCrossing_16 : decode cX5_tellCrossing 16 = .ok (.iaload, 1) := by decide +kernel
theorem dX5_tellCrossing_17 : decode cX5_tellCrossing 17 = .ok (.iconst 1, 1) := by decide +kernel
theorem dX5_tellCrossing_18 : decode cX5_tellCrossing 18 = .ok (.iadd, 1) := by decide +kernel
theorem dX5_tellCrossing_19 : decode cX5_tellCrossing 19 = .ok (.iastore, 1) := by decide +kernel
theorem dX5_tellCrossing_20 : decode cX5_tellCrossing 20 = .ok (.return_, 1) := by decide +kernel
theorem dX6_init_0 : decode cX6_init 0 = .ok (.aload_n 0, 1) := by decide +kernel
theorem dX6_init_1 : decode cX6_init 1 = .ok (.invokespecial 3, 3) := by decide +kernel
theorem dX6_init_4 : decode cX6_init 4 = .ok (.aload_n 0, 1) := by decide +kernel
theorem dX6_init_5 : decode cX6_init 5 = .ok (.iconst 4, 1) := by decide +kernel
theorem dX6_init_6 : decode cX6_init 6 = .ok (.newarray .int, 2) := by decide +kernel
theorem dX6_init_8 : decode cX6_init 8 = .ok (.putfield 9, 3) := by decide +kernel
theorem dX6_init_11 : decode cX6_init 11 = .ok (.aload_n 0, 1) := by decide +kernel
theorem dX6_init_12 : decode cX6_init 12 = .ok (.iconst 5, 1) := by decide +kernel
theorem dX6_init_13 : decode cX6_init 13 = .ok (.anewarray 15, 3) := by decide +kernel
theorem dX6_init_16 : decode cX6_init 16 = .ok (.putfield 17, 3) := by decide +kernel
theorem dX6_init_19 : decode cX6_init 19 = .ok (.aload_n 0, 1) := by decide +kernel
theorem dX6_init_20 : decode cX6_init 20 = .ok (.bipush 12, 2) := by decide +kernel
theorem dX6_init_22 : decode cX6_init 22 = .ok (.anewarray 21, 3) := by decide +kernel
theorem dX6_init_25 : decode cX6_init 25 = .ok (.putfield 23, 3) := by decide +kernel
theorem dX6_init_28 : decode cX6_init 28 = .ok (.aload_n 0, 1) := by decide +kernel
theorem dX6_init_29 : decode cX6_init 29 = .ok (.iconst 4, 1) := by decide +kernel
theorem dX6_init_30 : decode cX6_init 30 = .ok (.anewarray 27, 3) := by decide +kernel
theorem dX6_init_33 : decode cX6_init 33 = .ok (.putfield 29, 3) := by decide +kernel
theorem dX6_init_36 : decode cX6_init 36 = .ok (.getstatic 33, 3) := by decide +kernel
theorem dX6_init_39 : decode cX6_init 39 = .ok (.aload_n 0, 1) := by decide +kernel
theorem dX6_init_40 : decode cX6_init 40 = .ok (.getfield 9, 3) := by decide +kernel
theorem dX6_init_43 : decode cX6_init 43 = .ok (.invokestatic 36, 3) := by decide +kernel
theorem dX6_init_46 : decode cX6_init 46 = .ok (.iconst 0, 1) := by decide +kernel
theorem dX6_init_47 : decode cX6_init 47 = .ok (.istore_n 1, 1) := by decide +kernel
theorem dX6_init_48 : decode cX6_init 48 = .ok (.iload_n 1, 1) := by decide +kernel
theorem dX6_init_49 : decode cX6_init 49 = .ok (.iconst 5, 1) := by decide +kernel
theorem dX6_init_50 : decode cX6_init 50 = .ok (.if_icmp .ge 22, 3) := by decide +kernel
theorem dX6_init_53 : decode cX6_init 53 = .ok (.aload_n 0, 1) := by decide +kernel
theorem dX6_init_54 : decode cX6_init 54 = .ok (.getfield 17, 3) := by decide +kernel
theorem dX6_init_57 : decode cX6_init 57 = .ok (.iload_n 1, 1) := by decide +kernel
theorem dX6_init_58 : decode cX6_init 58 = .ok (.new 15, 3) := by decide +kernel
theorem dX6_init_61 : decode cX6_init 61 = .ok (.dup, 1) := by decide +kernel
theorem dX6_init_62 : decode cX6_init 62 = .ok (.invokespecial 40, 3) := by decide +kernel
theorem dX6_init_65 : decode cX6_init 65 = .ok (.aastore, 1) := by decide +kernel
theorem dX6_init_66 : decode cX6_init 66 = .ok (.iinc 1 1, 3) := by decide +kernel
theorem dX6_init_69 : decode cX6_init 69 = .ok (.goto (-21), 3) := by decide +kernel
theorem dX6_init_72 : decode cX6_init 72 = .ok (.iconst 0, 1) := by decide +kernel
theorem dX6_init_73 : decode cX6_init 73 = .ok (.istore_n 1, 1) := by decide +kernel
theorem dX6_init_74 : decode cX6_init 74 = .ok (.iload_n 1, 1) := by decide +kernel
theorem dX6_init_75 : decode cX6_init 75 = .ok (.bipush 12, 2) := by decide +kernel
theorem dX6_init_77 : decode cX6_init 77 = .ok (.if_icmp .ge 22, 3) := by decide +kernel
theorem dX6_init_80 : decode cX6_init 80 = .ok (.aload_n 0, 1) := by decide +kernel
theorem dX6_init_81 : decode cX6_init 81 = .ok (.getfield 23, 3) := by decide +kernel
theorem dX6_init_84 : decode cX6_init 84 = .ok (.iload_n 1, 1) := by decide +kernel
theorem dX6_init_85 : decode cX6_init 85 = .ok (.new 21, 3) := by decide +kernel
theorem dX6_init_88 : decode cX6_init 88 = .ok (.dup, 1) := by decide +kernel
theorem dX6_init_89 : decode cX6_init 89 = .ok (.invokespecial 41, 3) := by decide +kernel
theorem dX6_init_92 : decode cX6_init 92 = .ok (.aastore, 1) := by decide +kernel
theorem dX6_init_93 : decode cX6_init 93 = .ok (.iinc 1 1, 3) := by decide +kernel
theorem dX6_init_96 : decode cX6_init 96 = .ok (.goto (-22), 3) := by decide +kernel
theorem dX6_init_99 : decode cX6_init 99 = .ok (.iconst 0, 1) := by decide +kernel
theorem dX6_init_100 : decode cX6_init 100 = .ok (.istore_n 1, 1) := by decide +kernel
theorem dX6_init_101 : decode cX6_init 101 = .ok (.iload_n 1, 1) := by decide +kernel
theorem dX6_init_102 : decode cX6_init 102 = .ok (.iconst 4, 1) := by decide +kernel
theorem dX6_init_103 : decode cX6_init 103 = .ok (.if_icmp .ge 22, 3) := by decide +kernel
theorem dX6_init_106 : decode cX6_init 106 = .ok (.aload_n 0, 1) := by decide +kernel
theorem dX6_init_107 : decode cX6_init 107 = .ok (.getfield 29, 3) := by decide +kernel
theorem dX6_init_110 : decode cX6_init 110 = .ok (.iload_n 1, 1) := by decide +kernel
theorem dX6_init_111 : decode cX6_init 111 = .ok (.new 27, 3) := by decide +kernel
theorem dX6_init_114 : decode cX6_init 114 = .ok (.dup, 1) := by decide +kernel
theorem dX6_init_115 : decode cX6_init 115 = .ok (.invokespecial 42, 3) := by decide +kernel
theorem dX6_init_118 : decode cX6_init 118 = .ok (.aastore, 1) := by decide +kernel
theorem dX6_init_119 : decode cX6_init 119 = .ok (.iinc 1 1, 3) := by decide +kernel
theorem dX6_init_122 : decode cX6_init 122 = .ok (.goto (-21), 3) := by decide +kernel
theorem dX6_init_125 : decode cX6_init 125 = .ok (.return_, 1) := by decide +kernel
theorem dX6_copyFrom_0 : decode cX6_copyFrom 0 = .ok (.aload_n 1, 1) := by decide +kernel
theorem dX6_copyFrom_1 : decode cX6_copyFrom 1 = .ok (.getfield 9, 3) := by decide +kernel
theorem dX6_copyFrom_4 : decode cX6_copyFrom 4 = .ok (.aload_n 0, 1) := by decide +kernel
theorem dX6_copyFrom_5 : decode cX6_copyFrom 5 = .ok (.getfield 9, 3) := by decide +kernel
theorem dX6_copyFrom_8 : decode cX6_copyFrom 8 = .ok (.invokestatic 36, 3) := by decide +kernel
theorem dX6_copyFrom_11 : decode cX6_copyFrom 11 = .ok (.aload_n 0, 1) := by decide +kernel
theorem dX6_copyFrom_12 : decode cX6_copyFrom 12 = .ok (.aload_n 1, 1) := by decide +kernel
theorem dX6_copyFrom_13 : decode cX6_copyFrom 13 = .ok (.getfield 43, 3) := by decide +kernel
theorem dX6_copyFrom_16 : decode cX6_copyFrom 16 = .ok (.putfield 43, 3) := by decide +kernel
theorem dX6_copyFrom_19 : decode cX6_copyFrom 19 = .ok (.aload_n 0, 1) := by decide +kernel
theorem dX6_copyFrom_20 : decode cX6_copyFrom 20 = .ok (.aload_n 1, 1) := by decide +kernel
theorem dX6_copyFrom_21 : decode cX6_copyFrom 21 = .ok (.getfield 47, 3) := by decide +kernel
theorem dX6_copyFrom_24 : decode cX6_copyFrom 24 = .ok (.putfield 47, 3) := by decide +kernel
theorem dX6_copyFrom_27 : decode cX6_copyFrom 27 = .ok (.aload_n 0, 1) := by decide +kernel
theorem dX6_copyFrom_28 : decode cX6_copyFrom 28 = .ok (.aload_n 1, 1) := by decide +kernel
theorem dX6_copyFrom_29 : decode cX6_copyFrom 29 = .ok (.getfield 50, 3) := by decide +kernel
theorem dX6_copyFrom_32 : decode cX6_copyFrom 32 = .ok (.putfield 50, 3) := by decide +kernel
theorem dX6_copyFrom_35 : decode cX6_copyFrom 35 = .ok (.aload_n 0, 1) := by decide +kernel
theorem dX6_copyFrom_36 : decode cX6_copyFrom 36 = .ok (.aload_n 1, 1) := by decide +kernel
theorem dX6_copyFrom_37 : decode cX6_copyFrom 37 = .ok (.getfield 53, 3) := by decide +kernel
theorem dX6_copyFrom_40 : decode cX6_copyFrom 40 = .ok (.putfield 53, 3) := by decide +kernel
theorem dX6_copyFrom_43 : decode cX6_copyFrom 43 = .ok (.iconst 0, 1) := by decide +kernel
theorem dX6_copyFrom_44 : decode cX6_copyFrom 44 = .ok (.istore_n 2, 1) := by decide +kernel
theorem dX6_copyFrom_45 : decode cX6_copyFrom 45 = .ok (.iload_n 2, 1) := by decide +kernel
theorem dX6_copyFrom_46 : decode cX6_copyFrom 46 = .ok (.aload_n 0, 1) := by decide +kernel
theorem dX6_copyFrom_47 : decode cX6_copyFrom 47 = .ok (.getfield 47, 3) := by decide +kernel
theorem dX6_copyFrom_50 : decode cX6_copyFrom 50 = .ok (.if_icmp .ge 24, 3) := by decide +kernel
theorem dX6_copyFrom_53 : decode cX6_copyFrom 53 = .ok (.aload_n 0, 1) := by decide +kernel
theorem dX6_copyFrom_54 : decode cX6_copyFrom 54 = .ok (.getfield 17, 3) := by decide +kernel
theorem dX6_copyFrom_57 : decode cX6_copyFrom 57 = .ok (.iload_n 2, 1) := by decide +kernel
theorem dX6_copyFrom_58 : decode cX6_copyFrom 58 = .ok (.aaload, 1) := by decide +kernel
theorem dX6_copyFrom_59 : decode cX6_copyFrom 59 = .ok (.aload_n 1, 1) := by decide +kernel
theorem dX6_copyFrom_60 : decode cX6_copyFrom 60 = .ok (.getfield 17, 3) := by decide +kernel
theorem dX6_copyFrom_63 : decode cX6_copyFrom 63 = .ok (.iload_n 2, 1) := by decide +kernel
theorem dX6_copyFrom_64 : decode cX6_copyFrom 64 = .ok (.aaload, 1) := by decide +kernel
theorem dX6_copyFrom_65 : decode cX6_copyFrom 65 = .ok (.invokevirtual 56, 3) := by decide +kernel
theorem dX6_copyFrom_68 : decode cX6_copyFrom 68 = .ok (.iinc 2 1, 3) := by decide +kernel
theorem dX6_copyFrom_71 : decode cX6_copyFrom 71 = .ok (.goto (-26), 3) := by decide +kernel
theorem dX6_copyFrom_74 : decode cX6_copyFrom 74 = .ok (.iconst 0, 1) := by decide +kernel
theorem dX6_copyFrom_75 : decode cX6_copyFrom 75 = .ok (.istore_n 2, 1) := by decide +kernel
theorem dX6_copyFrom_76 : decode cX6_copyFrom 76 = .ok (.iload_n 2, 1) := by decide +kernel
theorem dX6_copyFrom_77 : decode cX6_copyFrom 77 = .ok (.aload_n 0, 1) := by decide +kernel
theorem dX6_copyFrom_78 : decode cX6_copyFrom 78 = .ok (.getfield 50, 3) := by decide +kernel
theorem dX6_copyFrom_81 : decode cX6_copyFrom 81 = .ok (.if_icmp .ge 24, 3) := by decide +kernel
theorem dX6_copyFrom_84 : decode cX6_copyFrom 84 = .ok (.aload_n 0, 1) := by decide +kernel
theorem dX6_copyFrom_85 : decode cX6_copyFrom 85 = .ok (.getfield 23, 3) := by decide +kernel
theorem dX6_copyFrom_88 : decode cX6_copyFrom 88 = .ok (.iload_n 2, 1) := by decide +kernel
theorem dX6_copyFrom_89 : decode cX6_copyFrom 89 = .ok (.aaload, 1) := by decide +kernel
theorem dX6_copyFrom_90 : decode cX6_copyFrom 90 = .ok (.aload_n 1, 1) := by decide +kernel
theorem dX6_copyFrom_91 : decode cX6_copyFrom 91 = .ok (.getfield 23, 3) := by decide +kernel
theorem dX6_copyFrom_94 : decode cX6_copyFrom 94 = .ok (.iload_n 2, 1) := by decide +kernel
theorem dX6_copyFrom_95 : decode cX6_copyFrom 95 = .ok (.aaload, 1) := by decide +kernel
theorem dX6_copyFrom_96 : decode cX6_copyFrom 96 = .ok (.invokevirtual 60, 3) := by decide +kernel
theorem dX6_copyFrom_99 : decode cX6_copyFrom 99 = .ok (.iinc 2 1, 3) := by decide +kernel
theorem dX6_copyFrom_102 : decode cX6_copyFrom 102 = .ok (.goto (-26), 3) := by decide +kernel
theorem dX6_copyFrom_105 : decode cX6_copyFrom 105 = .ok (.iconst 0, 1) := by decide +kernel
theorem dX6_copyFrom_106 : decode cX6_copyFrom 106 = .ok (.istore_n 2, 1) := by decide +kernel
theorem dX6_copyFrom_107 : decode cX6_copyFrom 107 = .ok (.iload_n 2, 1) := by decide +kernel
theorem dX6_copyFrom_108 : decode cX6_copyFrom 108 = .ok (.aload_n 0, 1) := by decide +kernel
theorem dX6_copyFrom_109 : decode cX6_copyFrom 109 = .ok (.getfield 53, 3) := by decide +kernel
theorem dX6_copyFrom_112 : decode cX6_copyFrom 112 = .ok (.if_icmp .ge 24, 3) := by decide +kernel
theorem dX6_copyFrom_115 : decode cX6_copyFrom 115 = .ok (.aload_n 0, 1) := by decide +kernel
theorem dX6_copyFrom_116 : decode cX6_copyFrom 116 = .ok (.getfield 29, 3) := by decide +kernel
theorem dX6_copyFrom_119 : decode cX6_copyFrom 119 = .ok (.iload_n 2, 1) := by decide +kernel
theorem dX6_copyFrom_120 : decode cX6_copyFrom 120 = .ok (.aaload, 1) := by decide +kernel
theorem dX6_copyFrom_121 : decode cX6_copyFrom 121 = .ok (.aload_n 1, 1) := by decide +kernel
theorem dX6_copyFrom_122 : decode cX6_copyFrom 122 = .ok (.getfield 29, 3) := by decide +kernel
theorem dX6_copyFrom_125 : decode cX6_copyFrom 125 = .ok (.iload_n 2, 1) := by decide +kernel
theorem dX6_copyFrom_126 : decode cX6_copyFrom 126 = .ok (.aaload, 1) := by decide +kernel
theorem dX6_copyFrom_127 : decode cX6_copyFrom 127 = .ok (.invokevirtual 63, 3) := by decide +kernel
theorem dX6_copyFrom_130 : decode cX6_copyFrom 130 = .ok (.iinc 2 1, 3) := by decide +kernel
theorem dX6_copyFrom_133 : decode cX6_copyFrom 133 = .ok (.goto (-26), 3) := by decide +kernel
theorem dX6_copyFrom_136 : decode cX6_copyFrom 136 = .ok (.return_, 1) := by decide +kernel
theorem dX6_ringOf_0 : decode cX6_ringOf 0 = .ok (.iload_n 1, 1) := by decide +kernel
theorem dX6_ringOf_1 : decode cX6_ringOf 1 = .ok (.ifCond .lt 20, 3) := by decide +kernel
theorem dX6_ringOf_4 : decode cX6_ringOf 4 = .ok (.iload_n 1, 1) := by decide +kernel
theorem dX6_ringOf_5 : decode cX6_ringOf 5 = .ok (.aload_n 0, 1) := by decide +kernel
theorem dX6_ringOf_6 : decode cX6_ringOf 6 = .ok (.getfield 47, 3) := by decide +kernel
theorem dX6_ringOf_9 : decode cX6_ringOf 9 = .ok (.if_icmp .ge 12, 3) := by decide +kernel
theorem dX6_ringOf_12 : decode cX6_ringOf 12 = .ok (.aload_n 0, 1) := by decide +kernel
theorem dX6_ringOf_13 : decode cX6_ringOf 13 = .ok (.getfield 17, 3) := by decide +kernel
theorem dX6_ringOf_16 : decode cX6_ringOf 16 = .ok (.iload_n 1, 1) := by decide +kernel
theorem dX6_ringOf_17 : decode cX6_ringOf 17 = .ok (.aaload, 1) := by decide +kernel
theorem dX6_ringOf_18 : decode cX6_ringOf 18 = .ok (.goto 4, 3) := by decide +kernel
theorem dX6_ringOf_21 : decode cX6_ringOf 21 = .ok (.aconst_null, 1) := by decide +kernel
theorem dX6_ringOf_22 : decode cX6_ringOf 22 = .ok (.areturn, 1) := by decide +kernel
theorem dX6_ringWith_0 : decode cX6_ringWith 0 = .ok (.aload_n 0, 1) := by decide +kernel
theorem dX6_ringWith_1 : decode cX6_ringWith 1 = .ok (.iload_n 1, 1) := by decide +kernel
theorem dX6_ringWith_2 : decode cX6_ringWith 2 = .ok (.invokevirtual 66, 3) := by decide +kernel
theorem dX6_ringWith_5 : decode cX6_ringWith 5 = .ok (.astore_n 3, 1) := by decide +kernel
theorem dX6_ringWith_6 : decode cX6_ringWith 6 = .ok (.aload_n 3, 1) := by decide +kernel
theorem dX6_ringWith_7 : decode cX6_ringWith 7 = .ok (.ifnull 15, 3) := by decide +kernel
theorem dX6_ringWith_10 : decode cX6_ringWith 10 = .ok (.aload_n 3, 1) := by decide +kernel
theorem dX6_ringWith_11 : decode cX6_ringWith 11 = .ok (.iload_n 2, 1) := by decide +kernel
theorem dX6_ringWith_12 : decode cX6_ringWith 12 = .ok (.invokevirtual 70, 3) := by decide +kernel
theorem dX6_ringWith_15 : decode cX6_ringWith 15 = .ok (.ifCond .eq 7, 3) := by decide +kernel
theorem dX6_ringWith_18 : decode cX6_ringWith 18 = .ok (.aload_n 3, 1) := by decide +kernel
theorem dX6_ringWith_19 : decode cX6_ringWith 19 = .ok (.goto 4, 3) := by decide +kernel
theorem dX6_ringWith_22 : decode cX6_ringWith 22 = .ok (.aconst_null, 1) := by decide +kernel
theorem dX6_ringWith_23 : decode cX6_ringWith 23 = .ok (.areturn, 1) := by decide +kernel
theorem dX6_deviceOf_0 : decode cX6_deviceOf 0 = .ok (.iload_n 1, 1) := by decide +kernel
theorem dX6_deviceOf_1 : decode cX6_deviceOf 1 = .ok (.ifCond .lt 20, 3) := by decide +kernel
theorem dX6_deviceOf_4 : decode cX6_deviceOf 4 = .ok (.iload_n 1, 1) := by decide +kernel
theorem dX6_deviceOf_5 : decode cX6_deviceOf 5 = .ok (.aload_n 0, 1) := by decide +kernel
theorem dX6_deviceOf_6 : decode cX6_deviceOf 6 = .ok (.getfield 50, 3) := by decide +kernel
theorem dX6_deviceOf_9 : decode cX6_deviceOf 9 = .ok (.if_icmp .ge 12, 3) := by decide +kernel
theorem dX6_deviceOf_12 : decode cX6_deviceOf 12 = .ok (.aload_n 0, 1) := by decide +kernel
theorem dX6_deviceOf_13 : decode cX6_deviceOf 13 = .ok (.getfield 23, 3) := by decide +kernel
theorem dX6_deviceOf_16 : decode cX6_deviceOf 16 = .ok (.iload_n 1, 1) := by decide +kernel
theorem dX6_deviceOf_17 : decode cX6_deviceOf 17 = .ok (.aaload, 1) := by decide +kernel
theorem dX6_deviceOf_18 : decode cX6_deviceOf 18 = .ok (.goto 4, 3) := by decide +kernel
theorem dX6_deviceOf_21 : decode cX6_deviceOf 21 = .ok (.aconst_null, 1) := by decide +kernel
theorem dX6_deviceOf_22 : decode cX6_deviceOf 22 = .ok (.areturn, 1) := by decide +kernel
theorem dX6_joinOf_0 : decode cX6_joinOf 0 = .ok (.iload_n 1, 1) := by decide +kernel
theorem dX6_joinOf_1 : decode cX6_joinOf 1 = .ok (.ifCond .lt 20, 3) := by decide +kernel
theorem dX6_joinOf_4 : decode cX6_joinOf 4 = .ok (.iload_n 1, 1) := by decide +kernel
theorem dX6_joinOf_5 : decode cX6_joinOf 5 = .ok (.aload_n 0, 1) := by decide +kernel
theorem dX6_joinOf_6 : decode cX6_joinOf 6 = .ok (.getfield 53, 3) := by decide +kernel
theorem dX6_joinOf_9 : decode cX6_joinOf 9 = .ok (.if_icmp .ge 12, 3) := by decide +kernel
theorem dX6_joinOf_12 : decode cX6_joinOf 12 = .ok (.aload_n 0, 1) := by decide +kernel
theorem dX6_joinOf_13 : decode cX6_joinOf 13 = .ok (.getfield 29, 3) := by decide +kernel
theorem dX6_joinOf_16 : decode cX6_joinOf 16 = .ok (.iload_n 1, 1) := by decide +kernel
theorem dX6_joinOf_17 : decode cX6_joinOf 17 = .ok (.aaload, 1) := by decide +kernel
theorem dX6_joinOf_18 : decode cX6_joinOf 18 = .ok (.goto 4, 3) := by decide +kernel
theorem dX6_joinOf_21 : decode cX6_joinOf 21 = .ok (.aconst_null, 1) := by decide +kernel
theorem dX6_joinOf_22 : decode cX6_joinOf 22 = .ok (.areturn, 1) := by decide +kernel
theorem dX6_setting_0 : decode cX6_setting 0 = .ok (.iload_n 1, 1) := by decide +kernel
theorem dX6_setting_1 : decode cX6_setting 1 = .ok (.iconst 0, 1) := by decide +kernel
theorem dX6_setting_2 : decode cX6_setting 2 = .ok (.iconst 3, 1) := by decide +kernel
theorem dX6_setting_3 : decode cX6_setting 3 = .ok (.invokestatic 74, 3) := by decide +kernel
theorem dX6_setting_6 : decode cX6_setting 6 = .ok (.ifCond .eq 12, 3) := by decide +kernel
theorem dX6_setting_9 : decode cX6_setting 9 = .ok (.aload_n 0, 1) := by decide +kernel
theorem dX6_setting_10 : decode cX6_setting 10 = .ok (.getfield 9, 3) := by decide +kernel
theorem dX6_setting_13 : decode cX6_setting 13 = .ok (.iload_n 1, 1) := by decide +kernel
theorem dX6_setting_14 : decode cX6_setting 14 = .ok (.iaload, 1) := by decide +kernel
theorem dX6_setting_15 : decode cX6_setting 15 = .ok (.goto 4, 3) := by decide +kernel
theorem dX6_setting_18 : decode cX6_setting 18 = .ok (.iconst 0, 1) := by decide +kernel
theorem dX6_setting_19 : decode cX6_setting 19 = .ok (.ireturn, 1) := by decide +kernel
theorem dX6_changeSetting_0 : decode cX6_changeSetting 0 = .ok (.iload_n 1, 1) := by decide +kernel
theorem dX6_changeSetting_1 : decode cX6_changeSetting 1 = .ok (.iconst 0, 1) := by decide +kernel
theorem dX6_changeSetting_2 : decode cX6_changeSetting 2 = .ok (.iconst 3, 1) := by decide +kernel
theorem dX6_changeSetting_3 : decode cX6_changeSetting 3 = .ok (.invokestatic 74, 3) := by decide +kernel
theorem dX6_changeSetting_6 : decode cX6_changeSetting 6 = .ok (.ifCond .ne 6, 3) := by decide +kernel
theorem dX6_changeSetting_9 : decode cX6_changeSetting 9 = .ok (.bipush (-2), 2) := by decide +kernel
theorem dX6_changeSetting_11 : decode cX6_changeSetting 11 = .ok (.ireturn, 1) := by decide +kernel
theorem dX6_changeSetting_12 : decode cX6_changeSetting 12 = .ok (.iload_n 2, 1) := by decide +kernel
theorem dX6_changeSetting_13 : decode cX6_changeSetting 13 = .ok (.getstatic 78, 3) := by decide +kernel
theorem dX6_changeSetting_16 : decode cX6_changeSetting 16 = .ok (.iload_n 1, 1) := by decide +kernel
theorem dX6_changeSetting_17 : decode cX6_changeSetting 17 = .ok (.iaload, 1) := by decide +kernel
theorem dX6_changeSetting_18 : decode cX6_changeSetting 18 = .ok (.getstatic 81, 3) := by decide +kernel
theorem dX6_changeSetting_21 : decode cX6_changeSetting 21 = .ok (.iload_n 1, 1) := by decide +kernel
theorem dX6_changeSetting_22 : decode cX6_changeSetting 22 = .ok (.iaload, 1) := by decide +kernel
theorem dX6_changeSetting_23 : decode cX6_changeSetting 23 = .ok (.invokestatic 74, 3) := by decide +kernel
theorem dX6_changeSetting_26 : decode cX6_changeSetting 26 = .ok (.ifCond .ne 6, 3) := by decide +kernel
theorem dX6_changeSetting_29 : decode cX6_changeSetting 29 = .ok (.bipush (-2), 2) := by decide +kernel
theorem dX6_changeSetting_31 : decode cX6_changeSetting 31 = .ok (.ireturn, 1) := by decide +kernel
theorem dX6_changeSetting_32 : decode cX6_changeSetting 32 = .ok (.aload_n 0, 1) := by decide +kernel
theorem dX6_changeSetting_33 : decode cX6_changeSetting 33 = .ok (.getfield 9, 3) := by decide +kernel
theorem dX6_changeSetting_36 : decode cX6_changeSetting 36 = .ok (.iload_n 1, 1) := by decide +kernel
theorem dX6_changeSetting_37 : decode cX6_changeSetting 37 = .ok (.iaload, 1) := by decide +kernel
theorem dX6_changeSetting_38 : decode cX6_changeSetting 38 = .ok (.istore_n 3, 1) := by decide +kernel
theorem dX6_changeSetting_39 : decode cX6_changeSetting 39 = .ok (.aload_n 0, 1) := by decide +kernel
theorem dX6_changeSetting_40 : decode cX6_changeSetting 40 = .ok (.getfield 9, 3) := by decide +kernel
theorem dX6_changeSetting_43 : decode cX6_changeSetting 43 = .ok (.iload_n 1, 1) := by decide +kernel
theorem dX6_changeSetting_44 : decode cX6_changeSetting 44 = .ok (.iload_n 2, 1) := by decide +kernel
theorem dX6_changeSetting_45 : decode cX6_changeSetting 45 = .ok (.iastore, 1) := by decide +kernel
theorem dX6_changeSetting_46 : decode cX6_changeSetting 46 = .ok (.iload_n 3, 1) := by decide +kernel
theorem dX6_changeSetting_47 : decode cX6_changeSetting 47 = .ok (.ireturn, 1) := by decide +kernel
theorem dX6_addRing_0 : decode cX6_addRing 0 = .ok (.iload_n 1, 1) := by decide +kernel
theorem dX6_addRing_1 : decode cX6_addRing 1 = .ok (.iconst 4, 1) := by decide +kernel
theorem dX6_addRing_2 : decode cX6_addRing 2 = .ok (.bipush 32, 2) := by decide +kernel
theorem dX6_addRing_4 : decode cX6_addRing 4 = .ok (.invokestatic 74, 3) := by decide +kernel
theorem dX6_addRing_7 : decode cX6_addRing 7 = .ok (.ifCond .ne 6, 3) := by decide +kernel
theorem dX6_addRing_10 : decode cX6_addRing 10 = .ok (.bipush (-2), 2) := by decide +kernel
theorem dX6_addRing_12 : decode cX6_addRing 12 = .ok (.ireturn, 1) := by decide +kernel
theorem dX6_addRing_13 : decode cX6_addRing 13 = .ok (.aload_n 0, 1) := by decide +kernel
theorem dX6_addRing_14 : decode cX6_addRing 14 = .ok (.getfield 47, 3) := by decide +kernel
theorem dX6_addRing_17 : decode cX6_addRing 17 = .ok (.iconst 5, 1) := by decide +kernel
theorem dX6_addRing_18 : decode cX6_addRing 18 = .ok (.if_icmp .lt 6, 3) := by decide +kernel
theorem dX6_addRing_21 : decode cX6_addRing 21 = .ok (.bipush (-4), 2) := by decide +kernel
theorem dX6_addRing_23 : decode cX6_addRing 23 = .ok (.ireturn, 1) := by decide +kernel
theorem dX6_addRing_24 : decode cX6_addRing 24 = .ok (.aload_n 0, 1) := by decide +kernel
theorem dX6_addRing_25 : decode cX6_addRing 25 = .ok (.getfield 17, 3) := by decide +kernel
theorem dX6_addRing_28 : decode cX6_addRing 28 = .ok (.aload_n 0, 1) := by decide +kernel
theorem dX6_addRing_29 : decode cX6_addRing 29 = .ok (.getfield 47, 3) := by decide +kernel
theorem dX6_addRing_32 : decode cX6_addRing 32 = .ok (.aaload, 1) := by decide +kernel
theorem dX6_addRing_33 : decode cX6_addRing 33 = .ok (.iload_n 1, 1) := by decide +kernel
theorem dX6_addRing_34 : decode cX6_addRing 34 = .ok (.invokevirtual 84, 3) := by decide +kernel
theorem dX6_addRing_37 : decode cX6_addRing 37 = .ok (.aload_n 0, 1) := by decide +kernel
theorem dX6_addRing_38 : decode cX6_addRing 38 = .ok (.dup, 1) := by decide +kernel
theorem dX6_addRing_39 : decode cX6_addRing 39 = .ok (.getfield 47, 3) := by decide +kernel
theorem dX6_addRing_42 : decode cX6_addRing 42 = .ok (.iconst 1, 1) := by decide +kernel
theorem dX6_addRing_43 : decode cX6_addRing 43 = .ok (.iadd, 1) := by decide +kernel
theorem dX6_addRing_44 : decode cX6_addRing 44 = .ok (.putfield 47, 3) := by decide +kernel
theorem dX6_addRing_47 : decode cX6_addRing 47 = .ok (.aload_n 0, 1) := by decide +kernel
theorem dX6_addRing_48 : decode cX6_addRing 48 = .ok (.getfield 47, 3) := by decide +kernel
theorem dX6_addRing_51 : decode cX6_addRing 51 = .ok (.iconst 1, 1) := by decide +kernel
theorem dX6_addRing_52 : decode cX6_addRing 52 = .ok (.isub, 1) := by decide +kernel
theorem dX6_addRing_53 : decode cX6_addRing 53 = .ok (.ireturn, 1) := by decide +kernel
theorem dX6_addDevice_0 : decode cX6_addDevice 0 = .ok (.aload_n 0, 1) := by decide +kernel
theorem dX6_addDevice_1 : decode cX6_addDevice 1 = .ok (.iload_n 1, 1) := by decide +kernel
theorem dX6_addDevice_2 : decode cX6_addDevice 2 = .ok (.iload_n 2, 1) := by decide +kernel
theorem dX6_addDevice_3 : decode cX6_addDevice 3 = .ok (.invokevirtual 88, 3) := by decide +kernel
theorem dX6_addDevice_6 : decode cX6_addDevice 6 = .ok (.ifnonnull 5, 3) := by decide +kernel
theorem dX6_addDevice_9 : decode cX6_addDevice 9 = .ok (.iconst (-1), 1) := by decide +kernel
theorem dX6_addDevice_10 : decode cX6_addDevice 10 = .ok (.ireturn, 1) := by decide +kernel
theorem dX6_addDevice_11 : decode cX6_addDevice 11 = .ok (.iload_n 3, 1) := by decide +kernel
theorem dX6_addDevice_12 : decode cX6_addDevice 12 = .ok (.iload 4, 2) := by decide +kernel
theorem dX6_addDevice_14 : decode cX6_addDevice 14 = .ok (.iload 5, 2) := by decide +kernel
theorem dX6_addDevice_16 : decode cX6_addDevice 16 = .ok (.invokestatic 92, 3) := by decide +kernel
theorem dX6_addDevice_19 : decode cX6_addDevice 19 = .ok (.ifCond .ne 6, 3) := by decide +kernel
theorem dX6_addDevice_22 : decode cX6_addDevice 22 = .ok (.bipush (-2), 2) := by decide +kernel
theorem dX6_addDevice_24 : decode cX6_addDevice 24 = .ok (.ireturn, 1) := by decide +kernel
theorem dX6_addDevice_25 : decode cX6_addDevice 25 = .ok (.aload_n 0, 1) := by decide +kernel
theorem dX6_addDevice_26 : decode cX6_addDevice 26 = .ok (.getfield 50, 3) := by decide +kernel
theorem dX6_addDevice_29 : decode cX6_addDevice 29 = .ok (.bipush 12, 2) := by decide +kernel
theorem dX6_addDevice_31 : decode cX6_addDevice 31 = .ok (.if_icmp .lt 6, 3) := by decide +kernel
theorem dX6_addDevice_34 : decode cX6_addDevice 34 = .ok (.bipush (-4), 2) := by decide +kernel
theorem dX6_addDevice_36 : decode cX6_addDevice 36 = .ok (.ireturn, 1) := by decide +kernel
theorem dX6_addDevice_37 : decode cX6_addDevice 37 = .ok (.aload_n 0, 1) := by decide +kernel
theorem dX6_addDevice_38 : decode cX6_addDevice 38 = .ok (.getfield 23, 3) := by decide +kernel
theorem dX6_addDevice_41 : decode cX6_addDevice 41 = .ok (.aload_n 0, 1) := by decide +kernel
theorem dX6_addDevice_42 : decode cX6_addDevice 42 = .ok (.getfield 50, 3) := by decide +kernel
theorem dX6_addDevice_45 : decode cX6_addDevice 45 = .ok (.aaload, 1) := by decide +kernel
theorem dX6_addDevice_46 : decode cX6_addDevice 46 = .ok (.iload_n 1, 1) := by decide +kernel
theorem dX6_addDevice_47 : decode cX6_addDevice 47 = .ok (.iload_n 2, 1) := by decide +kernel
theorem dX6_addDevice_48 : decode cX6_addDevice 48 = .ok (.iload_n 3, 1) := by decide +kernel
theorem dX6_addDevice_49 : decode cX6_addDevice 49 = .ok (.iload 4, 2) := by decide +kernel
theorem dX6_addDevice_51 : decode cX6_addDevice 51 = .ok (.iload 5, 2) := by decide +kernel
theorem dX6_addDevice_53 : decode cX6_addDevice 53 = .ok (.invokevirtual 95, 3) := by decide +kernel
theorem dX6_addDevice_56 : decode cX6_addDevice 56 = .ok (.aload_n 0, 1) := by decide +kernel
theorem dX6_addDevice_57 : decode cX6_addDevice 57 = .ok (.dup, 1) := by decide +kernel
theorem dX6_addDevice_58 : decode cX6_addDevice 58 = .ok (.getfield 50, 3) := by decide +kernel
theorem dX6_addDevice_61 : decode cX6_addDevice 61 = .ok (.iconst 1, 1) := by decide +kernel
theorem dX6_addDevice_62 : decode cX6_addDevice 62 = .ok (.iadd, 1) := by decide +kernel
theorem dX6_addDevice_63 : decode cX6_addDevice 63 = .ok (.putfield 50, 3) := by decide +kernel
theorem dX6_addDevice_66 : decode cX6_addDevice 66 = .ok (.aload_n 0, 1) := by decide +kernel
theorem dX6_addDevice_67 : decode cX6_addDevice 67 = .ok (.getfield 50, 3) := by decide +kernel
theorem dX6_addDevice_70 : decode cX6_addDevice 70 = .ok (.iconst 1, 1) := by decide +kernel
theorem dX6_addDevice_71 : decode cX6_addDevice 71 = .ok (.isub, 1) := by decide +kernel
theorem dX6_addDevice_72 : decode cX6_addDevice 72 = .ok (.ireturn, 1) := by decide +kernel
theorem dX6_addJoin_0 : decode cX6_addJoin 0 = .ok (.aload_n 0, 1) := by decide +kernel
theorem dX6_addJoin_1 : decode cX6_addJoin 1 = .ok (.iload_n 1, 1) := by decide +kernel
theorem dX6_addJoin_2 : decode cX6_addJoin 2 = .ok (.iload_n 2, 1) := by decide +kernel
theorem dX6_addJoin_3 : decode cX6_addJoin 3 = .ok (.invokevirtual 88, 3) := by decide +kernel
theorem dX6_addJoin_6 : decode cX6_addJoin 6 = .ok (.ifnull 13, 3) := by decide +kernel
theorem dX6_addJoin_9 : decode cX6_addJoin 9 = .ok (.aload_n 0, 1) := by decide +kernel
theorem dX6_addJoin_10 : decode cX6_addJoin 10 = .ok (.iload_n 3, 1) := by decide +kernel
theorem dX6_addJoin_11 : decode cX6_addJoin 11 = .ok (.iload 4, 2) := by decide +kernel
theorem dX6_addJoin_13 : decode cX6_addJoin 13 = .ok (.invokevirtual 88, 3) := by decide +kernel
theorem dX6_addJoin_16 : decode cX6_addJoin 16 = .ok (.ifnonnull 5, 3) := by decide +kernel
theorem dX6_addJoin_19 : decode cX6_addJoin 19 = .ok (.iconst (-1), 1) := by decide +kernel
theorem dX6_addJoin_20 : decode cX6_addJoin 20 = .ok (.ireturn, 1) := by decide +kernel
theorem dX6_addJoin_21 : decode cX6_addJoin 21 = .ok (.iload_n 1, 1) := by decide +kernel
theorem dX6_addJoin_22 : decode cX6_addJoin 22 = .ok (.iload_n 3, 1) := by decide +kernel
theorem dX6_addJoin_23 : decode cX6_addJoin 23 = .ok (.if_icmp .ne 6, 3) := by decide +kernel
theorem dX6_addJoin_26 : decode cX6_addJoin 26 = .ok (.bipush (-2), 2) := by decide +kernel
theorem dX6_addJoin_28 : decode cX6_addJoin 28 = .ok (.ireturn, 1) := by decide +kernel
theorem dX6_addJoin_29 : decode cX6_addJoin 29 = .ok (.aload_n 0, 1) := by decide +kernel
theorem dX6_addJoin_30 : decode cX6_addJoin 30 = .ok (.getfield 53, 3) := by decide +kernel
theorem dX6_addJoin_33 : decode cX6_addJoin 33 = .ok (.iconst 4, 1) := by decide +kernel
theorem dX6_addJoin_34 : decode cX6_addJoin 34 = .ok (.if_icmp .lt 6, 3) := by decide +kernel
theorem dX6_addJoin_37 : decode cX6_addJoin 37 = .ok (.bipush (-4), 2) := by decide +kernel
theorem dX6_addJoin_39 : decode cX6_addJoin 39 = .ok (.ireturn, 1) := by decide +kernel
theorem dX6_addJoin_40 : decode cX6_addJoin 40 = .ok (.aload_n 0, 1) := by decide +kernel
theorem dX6_addJoin_41 : decode cX6_addJoin 41 = .ok (.getfield 29, 3) := by decide +kernel
theorem dX6_addJoin_44 : decode cX6_addJoin 44 = .ok (.aload_n 0, 1) := by decide +kernel
theorem dX6_addJoin_45 : decode cX6_addJoin 45 = .ok (.getfield 53, 3) := by decide +kernel
theorem dX6_addJoin_48 : decode cX6_addJoin 48 = .ok (.aaload, 1) := by decide +kernel
theorem dX6_addJoin_49 : decode cX6_addJoin 49 = .ok (.iload_n 1, 1) := by decide +kernel
theorem dX6_addJoin_50 : decode cX6_addJoin 50 = .ok (.iload_n 2, 1) := by decide +kernel
theorem dX6_addJoin_51 : decode cX6_addJoin 51 = .ok (.iload_n 3, 1) := by decide +kernel
theorem dX6_addJoin_52 : decode cX6_addJoin 52 = .ok (.iload 4, 2) := by decide +kernel
theorem dX6_addJoin_54 : decode cX6_addJoin 54 = .ok (.invokevirtual 98, 3) := by decide +kernel
theorem dX6_addJoin_57 : decode cX6_addJoin 57 = .ok (.aload_n 0, 1) := by decide +kernel
theorem dX6_addJoin_58 : decode cX6_addJoin 58 = .ok (.dup, 1) := by decide +kernel
theorem dX6_addJoin_59 : decode cX6_addJoin 59 = .ok (.getfield 53, 3) := by decide +kernel
theorem dX6_addJoin_62 : decode cX6_addJoin 62 = .ok (.iconst 1, 1) := by decide +kernel
theorem dX6_addJoin_63 : decode cX6_addJoin 63 = .ok (.iadd, 1) := by decide +kernel
theorem dX6_addJoin_64 : decode cX6_addJoin 64 = .ok (.putfield 53, 3) := by decide +kernel
theorem dX6_addJoin_67 : decode cX6_addJoin 67 = .ok (.aload_n 0, 1) := by decide +kernel
theorem dX6_addJoin_68 : decode cX6_addJoin 68 = .ok (.getfield 53, 3) := by decide +kernel
theorem dX6_addJoin_71 : decode cX6_addJoin 71 = .ok (.iconst 1, 1) := by decide +kernel
theorem dX6_addJoin_72 : decode cX6_addJoin 72 = .ok (.isub, 1) := by decide +kernel
theorem dX6_addJoin_73 : decode cX6_addJoin 73 = .ok (.ireturn, 1) := by decide +kernel
theorem dX6_turnJoin_0 : decode cX6_turnJoin 0 = .ok (.aload_n 0, 1) := by decide +kernel
theorem dX6_turnJoin_1 : decode cX6_turnJoin 1 = .ok (.iload_n 1, 1) := by decide +kernel
theorem dX6_turnJoin_2 : decode cX6_turnJoin 2 = .ok (.invokevirtual 101, 3) := by decide +kernel
theorem dX6_turnJoin_5 : decode cX6_turnJoin 5 = .ok (.astore_n 3, 1) := by decide +kernel
theorem dX6_turnJoin_6 : decode cX6_turnJoin 6 = .ok (.aload_n 3, 1) := by decide +kernel
theorem dX6_turnJoin_7 : decode cX6_turnJoin 7 = .ok (.ifnonnull 5, 3) := by decide +kernel
theorem dX6_turnJoin_10 : decode cX6_turnJoin 10 = .ok (.iconst (-1), 1) := by decide +kernel
theorem dX6_turnJoin_11 : decode cX6_turnJoin 11 = .ok (.ireturn, 1) := by decide +kernel
theorem dX6_turnJoin_12 : decode cX6_turnJoin 12 = .ok (.iload_n 2, 1) := by decide +kernel
theorem dX6_turnJoin_13 : decode cX6_turnJoin 13 = .ok (.iconst 0, 1) := by decide +kernel
theorem dX6_turnJoin_14 : decode cX6_turnJoin 14 = .ok (.iconst 2, 1) := by decide +kernel
theorem dX6_turnJoin_15 : decode cX6_turnJoin 15 = .ok (.invokestatic 74, 3) := by decide +kernel
theorem dX6_turnJoin_18 : decode cX6_turnJoin 18 = .ok (.ifCond .ne 6, 3) := by decide +kernel
theorem dX6_turnJoin_21 : decode cX6_turnJoin 21 = .ok (.bipush (-2), 2) := by decide +kernel
theorem dX6_turnJoin_23 : decode cX6_turnJoin 23 = .ok (.ireturn, 1) := by decide +kernel
theorem dX6_turnJoin_24 : decode cX6_turnJoin 24 = .ok (.aload_n 3, 1) := by decide +kernel
theorem dX6_turnJoin_25 : decode cX6_turnJoin 25 = .ok (.getfield 105, 3) := by decide +kernel
theorem dX6_turnJoin_28 : decode cX6_turnJoin 28 = .ok (.istore 4, 2) := by decide +kernel
theorem dX6_turnJoin_30 : decode cX6_turnJoin 30 = .ok (.aload_n 3, 1) := by decide +kernel
theorem dX6_turnJoin_31 : decode cX6_turnJoin 31 = .ok (.iload_n 2, 1) := by decide +kernel
theorem dX6_turnJoin_32 : decode cX6_turnJoin 32 = .ok (.putfield 105, 3) := by decide +kernel
theorem dX6_turnJoin_35 : decode cX6_turnJoin 35 = .ok (.iload 4, 2) := by decide +kernel
theorem dX6_turnJoin_37 : decode cX6_turnJoin 37 = .ok (.ireturn, 1) := by decide +kernel
theorem dX6_feedDevice_0 : decode cX6_feedDevice 0 = .ok (.aload_n 0, 1) := by decide +kernel
theorem dX6_feedDevice_1 : decode cX6_feedDevice 1 = .ok (.iload_n 1, 1) := by decide +kernel
theorem dX6_feedDevice_2 : decode cX6_feedDevice 2 = .ok (.invokevirtual 108, 3) := by decide +kernel
theorem dX6_feedDevice_5 : decode cX6_feedDevice 5 = .ok (.astore_n 3, 1) := by decide +kernel
theorem dX6_feedDevice_6 : decode cX6_feedDevice 6 = .ok (.aload_n 3, 1) := by decide +kernel
theorem dX6_feedDevice_7 : decode cX6_feedDevice 7 = .ok (.ifnull 11, 3) := by decide +kernel
theorem dX6_feedDevice_10 : decode cX6_feedDevice 10 = .ok (.aload_n 3, 1) := by decide +kernel
theorem dX6_feedDevice_11 : decode cX6_feedDevice 11 = .ok (.getfield 112, 3) := by decide +kernel
theorem dX6_feedDevice_14 : decode cX6_feedDevice 14 = .ok (.iconst 2, 1) := by decide +kernel
theorem dX6_feedDevice_15 : decode cX6_feedDevice 15 = .ok (.if_icmp .eq 5, 3) := by decide +kernel
theorem dX6_feedDevice_18 : decode cX6_feedDevice 18 = .ok (.iconst (-1), 1) := by decide +kernel
theorem dX6_feedDevice_19 : decode cX6_feedDevice 19 = .ok (.ireturn, 1) := by decide +kernel
theorem dX6_feedDevice_20 : decode cX6_feedDevice 20 = .ok (.iload_n 2, 1) := by decide +kernel
theorem dX6_feedDevice_21 : decode cX6_feedDevice 21 = .ok (.invokestatic 115, 3) := by decide +kernel
theorem dX6_feedDevice_24 : decode cX6_feedDevice 24 = .ok (.ifCond .ne 6, 3) := by decide +kernel
theorem dX6_feedDevice_27 : decode cX6_feedDevice 27 = .ok (.bipush (-2), 2) := by decide +kernel
theorem dX6_feedDevice_29 : decode cX6_feedDevice 29 = .ok (.ireturn, 1) := by decide +kernel
theorem dX6_feedDevice_30 : decode cX6_feedDevice 30 = .ok (.aload_n 3, 1) := by decide +kernel
theorem dX6_feedDevice_31 : decode cX6_feedDevice 31 = .ok (.getfield 118, 3) := by decide +kernel
theorem dX6_feedDevice_34 : decode cX6_feedDevice 34 = .ok (.bipush 12, 2) := by decide +kernel
theorem dX6_feedDevice_36 : decode cX6_feedDevice 36 = .ok (.if_icmp .lt 6, 3) := by decide +kernel
theorem dX6_feedDevice_39 : decode cX6_feedDevice 39 = .ok (.bipush (-4), 2) := by decide +kernel
theorem dX6_feedDevice_41 : decode cX6_feedDevice 41 = .ok (.ireturn, 1) := by decide +kernel
theorem dX6_feedDevice_42 : decode cX6_feedDevice 42 = .ok (.aload_n 3, 1) := by decide +kernel
theorem dX6_feedDevice_43 : decode cX6_feedDevice 43 = .ok (.iload_n 2, 1) := by decide +kernel
theorem dX6_feedDevice_44 : decode cX6_feedDevice 44 = .ok (.invokevirtual 121, 3) := by decide +kernel
theorem dX6_feedDevice_47 : decode cX6_feedDevice 47 = .ok (.aload_n 3, 1) := by decide +kernel
theorem dX6_feedDevice_48 : decode cX6_feedDevice 48 = .ok (.getfield 118, 3) := by decide +kernel
theorem dX6_feedDevice_51 : decode cX6_feedDevice 51 = .ok (.ireturn, 1) := by decide +kernel
theorem dX6_lightFlash_0 : decode cX6_lightFlash 0 = .ok (.aload_n 0, 1) := by decide +kernel
theorem dX6_lightFlash_1 : decode cX6_lightFlash 1 = .ok (.iload_n 1, 1) := by decide +kernel
theorem dX6_lightFlash_2 : decode cX6_lightFlash 2 = .ok (.iload_n 2, 1) := by decide +kernel
theorem dX6_lightFlash_3 : decode cX6_lightFlash 3 = .ok (.invokevirtual 88, 3) := by decide +kernel
theorem dX6_lightFlash_6 : decode cX6_lightFlash 6 = .ok (.astore 4, 2) := by decide +kernel
theorem dX6_lightFlash_8 : decode cX6_lightFlash 8 = .ok (.aload 4, 2) := by decide +kernel
theorem dX6_lightFlash_10 : decode cX6_lightFlash 10 = .ok (.ifnonnull 5, 3) := by decide +kernel
theorem dX6_lightFlash_13 : decode cX6_lightFlash 13 = .ok (.iconst (-1), 1) := by decide +kernel
theorem dX6_lightFlash_14 : decode cX6_lightFlash 14 = .ok (.ireturn, 1) := by decide +kernel
theorem dX6_lightFlash_15 : decode cX6_lightFlash 15 = .ok (.iload_n 3, 1) := by decide +kernel
theorem dX6_lightFlash_16 : decode cX6_lightFlash 16 = .ok (.invokestatic 115, 3) := by decide +kernel
theorem dX6_lightFlash_19 : decode cX6_lightFlash 19 = .ok (.ifCond .ne 6, 3) := by decide +kernel
theorem dX6_lightFlash_22 : decode cX6_lightFlash 22 = .ok (.bipush (-2), 2) := by decide +kernel
theorem dX6_lightFlash_24 : decode cX6_lightFlash 24 = .ok (.ireturn, 1) := by decide +kernel
theorem dX6_lightFlash_25 : decode cX6_lightFlash 25 = .ok (.aload 4, 2) := by decide +kernel
theorem dX6_lightFlash_27 : decode cX6_lightFlash 27 = .ok (.iload_n 2, 1) := by decide +kernel
theorem dX6_lightFlash_28 : decode cX6_lightFlash 28 = .ok (.invokevirtual 124, 3) := by decide +kernel
theorem dX6_lightFlash_31 : decode cX6_lightFlash 31 = .ok (.ifCond .le 6, 3) := by decide +kernel
theorem dX6_lightFlash_34 : decode cX6_lightFlash 34 = .ok (.bipush (-5), 2) := by decide +kernel
theorem dX6_lightFlash_36 : decode cX6_lightFlash 36 = .ok (.ireturn, 1) := by decide +kernel
theorem dX6_lightFlash_37 : decode cX6_lightFlash 37 = .ok (.aload 4, 2) := by decide +kernel
theorem dX6_lightFlash_39 : decode cX6_lightFlash 39 = .ok (.iload_n 2, 1) := by decide +kernel
theorem dX6_lightFlash_40 : decode cX6_lightFlash 40 = .ok (.iload_n 3, 1) := by decide +kernel
theorem dX6_lightFlash_41 : decode cX6_lightFlash 41 = .ok (.aload_n 0, 1) := by decide +kernel
theorem dX6_lightFlash_42 : decode cX6_lightFlash 42 = .ok (.iconst 3, 1) := by decide +kernel
theorem dX6_lightFlash_43 : decode cX6_lightFlash 43 = .ok (.invokevirtual 128, 3) := by decide +kernel
theorem dX6_lightFlash_46 : decode cX6_lightFlash 46 = .ok (.aload_n 0, 1) := by decide +kernel
theorem dX6_lightFlash_47 : decode cX6_lightFlash 47 = .ok (.getfield 43, 3) := by decide +kernel
theorem dX6_lightFlash_50 : decode cX6_lightFlash 50 = .ok (.invokevirtual 131, 3) := by decide +kernel
theorem dX6_lightFlash_53 : decode cX6_lightFlash 53 = .ok (.aload 4, 2) := by decide +kernel
theorem dX6_lightFlash_55 : decode cX6_lightFlash 55 = .ok (.invokevirtual 134, 3) := by decide +kernel
theorem dX6_lightFlash_58 : decode cX6_lightFlash 58 = .ok (.ireturn, 1) := by decide +kernel
theorem dX6_passTicks_0 : decode cX6_passTicks 0 = .ok (.iload_n 1, 1) := by decide +kernel
theorem dX6_passTicks_1 : decode cX6_passTicks 1 = .ok (.iconst 1, 1) := by decide +kernel
theorem dX6_passTicks_2 : decode cX6_passTicks 2 = .ok (.sipush 200, 3) := by decide +kernel
theorem dX6_passTicks_5 : decode cX6_passTicks 5 = .ok (.invokestatic 74, 3) := by decide +kernel
theorem dX6_passTicks_8 : decode cX6_passTicks 8 = .ok (.ifCond .ne 6, 3) := by decide +kernel
theorem dX6_passTicks_11 : decode cX6_passTicks 11 = .ok (.bipush (-2), 2) := by decide +kernel
theorem dX6_passTicks_13 : decode cX6_passTicks 13 = .ok (.ireturn, 1) := by decide +kernel
theorem dX6_passTicks_14 : decode cX6_passTicks 14 = .ok (.iconst 0, 1) := by decide +kernel
theorem dX6_passTicks_15 : decode cX6_passTicks 15 = .ok (.istore_n 2, 1) := by decide +kernel
theorem dX6_passTicks_16 : decode cX6_passTicks 16 = .ok (.iload_n 2, 1) := by decide +kernel
theorem dX6_passTicks_17 : decode cX6_passTicks 17 = .ok (.iload_n 1, 1) := by decide +kernel
theorem dX6_passTicks_18 : decode cX6_passTicks 18 = .ok (.if_icmp .ge 13, 3) := by decide +kernel
theorem dX6_passTicks_21 : decode cX6_passTicks 21 = .ok (.aload_n 0, 1) := by decide +kernel
theorem dX6_passTicks_22 : decode cX6_passTicks 22 = .ok (.invokevirtual 138, 3) := by decide +kernel
theorem dX6_passTicks_25 : decode cX6_passTicks 25 = .ok (.iinc 2 1, 3) := by decide +kernel
theorem dX6_passTicks_28 : decode cX6_passTicks 28 = .ok (.goto (-12), 3) := by decide +kernel
theorem dX6_passTicks_31 : decode cX6_passTicks 31 = .ok (.aload_n 0, 1) := by decide +kernel
theorem dX6_passTicks_32 : decode cX6_passTicks 32 = .ok (.getfield 43, 3) := by decide +kernel
theorem dX6_passTicks_35 : decode cX6_passTicks 35 = .ok (.ireturn, 1) := by decide +kernel
theorem dX6_ticksToLoss_0 : decode cX6_ticksToLoss 0 = .ok (.aload_n 0, 1) := by decide +kernel
theorem dX6_ticksToLoss_1 : decode cX6_ticksToLoss 1 = .ok (.iconst 1, 1) := by decide +kernel
theorem dX6_ticksToLoss_2 : decode cX6_ticksToLoss 2 = .ok (.invokevirtual 141, 3) := by decide +kernel
theorem dX6_ticksToLoss_5 : decode cX6_ticksToLoss 5 = .ok (.istore_n 2, 1) := by decide +kernel
theorem dX6_ticksToLoss_6 : decode cX6_ticksToLoss 6 = .ok (.iconst 1, 1) := by decide +kernel
theorem dX6_ticksToLoss_7 : decode cX6_ticksToLoss 7 = .ok (.istore_n 3, 1) := by decide +kernel
theorem dX6_ticksToLoss_8 : decode cX6_ticksToLoss 8 = .ok (.iload_n 3, 1) := by decide +kernel
theorem dX6_ticksToLoss_9 : decode cX6_ticksToLoss 9 = .ok (.iload_n 1, 1) := by decide +kernel
theorem dX6_ticksToLoss_10 : decode cX6_ticksToLoss 10 = .ok (.if_icmp .gt 24, 3) := by decide +kernel
theorem dX6_ticksToLoss_13 : decode cX6_ticksToLoss 13 = .ok (.aload_n 0, 1) := by decide +kernel
theorem dX6_ticksToLoss_14 : decode cX6_ticksToLoss 14 = .ok (.invokevirtual 138, 3) := by decide +kernel
theorem dX6_ticksToLoss_17 : decode cX6_ticksToLoss 17 = .ok (.aload_n 0, 1) := by decide +kernel
theorem dX6_ticksToLoss_18 : decode cX6_ticksToLoss 18 = .ok (.iconst 1, 1) := by decide +kernel
theorem dX6_ticksToLoss_19 : decode cX6_ticksToLoss 19 = .ok (.invokevirtual 141, 3) := by decide +kernel
theorem dX6_ticksToLoss_22 : decode cX6_ticksToLoss 22 = .ok (.iload_n 2, 1) := by decide +kernel
theorem dX6_ticksToLoss_23 : decode cX6_ticksToLoss 23 = .ok (.if_icmp .le 5, 3) := by decide +kernel
theorem dX6_ticksToLoss_26 : decode cX6_ticksToLoss 26 = .ok (.iload_n 3, 1) := by decide +kernel
theorem dX6_ticksToLoss_27 : decode cX6_ticksToLoss 27 = .ok (.ireturn, 1) := by decide +kernel
theorem dX6_ticksToLoss_28 : decode cX6_ticksToLoss 28 = .ok (.iinc 3 1, 3) := by decide +kernel
theorem dX6_ticksToLoss_31 : decode cX6_ticksToLoss 31 = .ok (.goto (-23), 3) := by decide +kernel
theorem dX6_ticksToLoss_34 : decode cX6_ticksToLoss 34 = .ok (.bipush (-6), 2) := by decide +kernel
theorem dX6_ticksToLoss_36 : decode cX6_ticksToLoss 36 = .ok (.ireturn, 1) := by decide +kernel
theorem dX6_passOne_0 : decode cX6_passOne 0 = .ok (.iconst 0, 1) := by decide +kernel
theorem dX6_passOne_1 : decode cX6_passOne 1 = .ok (.istore_n 1, 1) := by decide +kernel
theorem dX6_passOne_2 : decode cX6_passOne 2 = .ok (.iload_n 1, 1) := by decide +kernel
theorem dX6_passOne_3 : decode cX6_passOne 3 = .ok (.aload_n 0, 1) := by decide +kernel
theorem dX6_passOne_4 : decode cX6_passOne 4 = .ok (.getfield 47, 3) := by decide +kernel
theorem dX6_passOne_7 : decode cX6_passOne 7 = .ok (.if_icmp .ge 23, 3) := by decide +kernel
theorem dX6_passOne_10 : decode cX6_passOne 10 = .ok (.aload_n 0, 1) := by decide +kernel
theorem dX6_passOne_11 : decode cX6_passOne 11 = .ok (.getfield 17, 3) := by decide +kernel
theorem dX6_passOne_14 : decode cX6_passOne 14 = .ok (.iload_n 1, 1) := by decide +kernel
theorem dX6_passOne_15 : decode cX6_passOne 15 = .ok (.aaload, 1) := by decide +kernel
theorem dX6_passOne_16 : decode cX6_passOne 16 = .ok (.aload_n 0, 1) := by decide +kernel
theorem dX6_passOne_17 : decode cX6_passOne 17 = .ok (.iconst 0, 1) := by decide +kernel
theorem dX6_passOne_18 : decode cX6_passOne 18 = .ok (.invokevirtual 128, 3) := by decide +kernel
theorem dX6_passOne_21 : decode cX6_passOne 21 = .ok (.invokevirtual 144, 3) := by decide +kernel
theorem dX6_passOne_24 : decode cX6_passOne 24 = .ok (.iinc 1 1, 3) := by decide +kernel
theorem dX6_passOne_27 : decode cX6_passOne 27 = .ok (.goto (-25), 3) := by decide +kernel
theorem dX6_passOne_30 : decode cX6_passOne 30 = .ok (.iconst 0, 1) := by decide +kernel
theorem dX6_passOne_31 : decode cX6_passOne 31 = .ok (.istore_n 1, 1) := by decide +kernel
theorem dX6_passOne_32 : decode cX6_passOne 32 = .ok (.iload_n 1, 1) := by decide +kernel
theorem dX6_passOne_33 : decode cX6_passOne 33 = .ok (.aload_n 0, 1) := by decide +kernel
theorem dX6_passOne_34 : decode cX6_passOne 34 = .ok (.getfield 50, 3) := by decide +kernel
theorem dX6_passOne_37 : decode cX6_passOne 37 = .ok (.if_icmp .ge 38, 3) := by decide +kernel
theorem dX6_passOne_40 : decode cX6_passOne 40 = .ok (.aload_n 0, 1) := by decide +kernel
theorem dX6_passOne_41 : decode cX6_passOne 41 = .ok (.aload_n 0, 1) := by decide +kernel
theorem dX6_passOne_42 : decode cX6_passOne 42 = .ok (.getfield 23, 3) := by decide +kernel
theorem dX6_passOne_45 : decode cX6_passOne 45 = .ok (.iload_n 1, 1) := by decide +kernel
theorem dX6_passOne_46 : decode cX6_passOne 46 = .ok (.aaload, 1) := by decide +kernel
theorem dX6_passOne_47 : decode cX6_passOne 47 = .ok (.getfield 147, 3) := by decide +kernel
theorem dX6_passOne_50 : decode cX6_passOne 50 = .ok (.invokevirtual 66, 3) := by decide +kernel
theorem dX6_passOne_53 : decode cX6_passOne 53 = .ok (.astore_n 2, 1) := by decide +kernel
theorem dX6_passOne_54 : decode cX6_passOne 54 = .ok (.aload_n 2, 1) := by decide +kernel
theorem dX6_passOne_55 : decode cX6_passOne 55 = .ok (.ifnull 14, 3) := by decide +kernel
theorem dX6_passOne_58 : decode cX6_passOne 58 = .ok (.aload_n 0, 1) := by decide +kernel
theorem dX6_passOne_59 : decode cX6_passOne 59 = .ok (.getfield 23, 3) := by decide +kernel
theorem dX6_passOne_62 : decode cX6_passOne 62 = .ok (.iload_n 1, 1) := by decide +kernel
theorem dX6_passOne_63 : decode cX6_passOne 63 = .ok (.aaload, 1) := by decide +kernel
theorem dX6_passOne_64 : decode cX6_passOne 64 = .ok (.aload_n 2, 1) := by decide +kernel
theorem dX6_passOne_65 : decode cX6_passOne 65 = .ok (.aload_n 0, 1) := by decide +kernel
theorem dX6_passOne_66 : decode cX6_passOne 66 = .ok (.invokevirtual 150, 3) := by decide +kernel
theorem dX6_passOne_69 : decode cX6_passOne 69 = .ok (.iinc 1 1, 3) := by decide +kernel
theorem dX6_passOne_72 : decode cX6_passOne 72 = .ok (.goto (-40), 3) := by decide +kernel
theorem dX6_passOne_75 : decode cX6_passOne 75 = .ok (.iconst 0, 1) := by decide +kernel
theorem dX6_passOne_76 : decode cX6_passOne 76 = .ok (.istore_n 1, 1) := by decide +kernel
theorem dX6_passOne_77 : decode cX6_passOne 77 = .ok (.iload_n 1, 1) := by decide +kernel
theorem dX6_passOne_78 : decode cX6_passOne 78 = .ok (.aload_n 0, 1) := by decide +kernel
theorem dX6_passOne_79 : decode cX6_passOne 79 = .ok (.getfield 53, 3) := by decide +kernel
theorem dX6_passOne_82 : decode cX6_passOne 82 = .ok (.if_icmp .ge 56, 3) := by decide +kernel
theorem dX6_passOne_85 : decode cX6_passOne 85 = .ok (.aload_n 0, 1) := by decide +kernel
theorem dX6_passOne_86 : decode cX6_passOne 86 = .ok (.aload_n 0, 1) := by decide +kernel
theorem dX6_passOne_87 : decode cX6_passOne 87 = .ok (.getfield 29, 3) := by decide +kernel
theorem dX6_passOne_90 : decode cX6_passOne 90 = .ok (.iload_n 1, 1) := by decide +kernel
theorem dX6_passOne_91 : decode cX6_passOne 91 = .ok (.aaload, 1) := by decide +kernel
theorem dX6_passOne_92 : decode cX6_passOne 92 = .ok (.getfield 154, 3) := by decide +kernel
theorem dX6_passOne_95 : decode cX6_passOne 95 = .ok (.invokevirtual 66, 3) := by decide +kernel
theorem dX6_passOne_98 : decode cX6_passOne 98 = .ok (.astore_n 2, 1) := by decide +kernel
theorem dX6_passOne_99 : decode cX6_passOne 99 = .ok (.aload_n 0, 1) := by decide +kernel
theorem dX6_passOne_100 : decode cX6_passOne 100 = .ok (.aload_n 0, 1) := by decide +kernel
theorem dX6_passOne_101 : decode cX6_passOne 101 = .ok (.getfield 29, 3) := by decide +kernel
theorem dX6_passOne_104 : decode cX6_passOne 104 = .ok (.iload_n 1, 1) := by decide +kernel
theorem dX6_passOne_105 : decode cX6_passOne 105 = .ok (.aaload, 1) := by decide +kernel
theorem dX6_passOne_106 : decode cX6_passOne 106 = .ok (.getfield 157, 3) := by decide +kernel
theorem dX6_passOne_109 : decode cX6_passOne 109 = .ok (.invokevirtual 66, 3) := by decide +kernel
theorem dX6_passOne_112 : decode cX6_passOne 112 = .ok (.astore_n 3, 1) := by decide +kernel
theorem dX6_passOne_113 : decode cX6_passOne 113 = .ok (.aload_n 2, 1) := by decide +kernel
theorem dX6_passOne_114 : decode cX6_passOne 114 = .ok (.ifnull 18, 3) := by decide +kernel
theorem dX6_passOne_117 : decode cX6_passOne 117 = .ok (.aload_n 3, 1) := by decide +kernel
theorem dX6_passOne_118 : decode cX6_passOne 118 = .ok (.ifnull 14, 3) := by decide +kernel
theorem dX6_passOne_121 : decode cX6_passOne 121 = .ok (.aload_n 0, 1) := by decide +kernel
theorem dX6_passOne_122 : decode cX6_passOne 122 = .ok (.getfield 29, 3) := by decide +kernel
theorem dX6_passOne_125 : decode cX6_passOne 125 = .ok (.iload_n 1, 1) := by decide +kernel
theorem dX6_passOne_126 : decode cX6_passOne 126 = .ok (.aaload, 1) := by decide +kernel
theorem dX6_passOne_127 : decode cX6_passOne 127 = .ok (.aload_n 2, 1) := by decide +kernel
theorem dX6_passOne_128 : decode cX6_passOne 128 = .ok (.aload_n 3, 1) := by decide +kernel
theorem dX6_passOne_129 : decode cX6_passOne 129 = .ok (.invokevirtual 160, 3) := by decide +kernel
theorem dX6_passOne_132 : decode cX6_passOne 132 = .ok (.iinc 1 1, 3) := by decide +kernel
theorem dX6_passOne_135 : decode cX6_passOne 135 = .ok (.goto (-58), 3) := by decide +kernel
theorem dX6_passOne_138 : decode cX6_passOne 138 = .ok (.iconst 0, 1) := by decide +kernel
theorem dX6_passOne_139 : decode cX6_passOne 139 = .ok (.istore_n 1, 1) := by decide +kernel
theorem dX6_passOne_140 : decode cX6_passOne 140 = .ok (.iload_n 1, 1) := by decide +kernel
theorem dX6_passOne_141 : decode cX6_passOne 141 = .ok (.aload_n 0, 1) := by decide +kernel
theorem dX6_passOne_142 : decode cX6_passOne 142 = .ok (.getfield 50, 3) := by decide +kernel
theorem dX6_passOne_145 : decode cX6_passOne 145 = .ok (.if_icmp .ge 23, 3) := by decide +kernel
theorem dX6_passOne_148 : decode cX6_passOne 148 = .ok (.aload_n 0, 1) := by decide +kernel
theorem dX6_passOne_149 : decode cX6_passOne 149 = .ok (.getfield 23, 3) := by decide +kernel
theorem dX6_passOne_152 : decode cX6_passOne 152 = .ok (.iload_n 1, 1) := by decide +kernel
theorem dX6_passOne_153 : decode cX6_passOne 153 = .ok (.aaload, 1) := by decide +kernel
theorem dX6_passOne_154 : decode cX6_passOne 154 = .ok (.aload_n 0, 1) := by decide +kernel
theorem dX6_passOne_155 : decode cX6_passOne 155 = .ok (.iconst 2, 1) := by decide +kernel
theorem dX6_passOne_156 : decode cX6_passOne 156 = .ok (.invokevirtual 128, 3) := by decide +kernel
theorem dX6_passOne_159 : decode cX6_passOne 159 = .ok (.invokevirtual 163, 3) := by decide +kernel
theorem dX6_passOne_162 : decode cX6_passOne 162 = .ok (.iinc 1 1, 3) := by decide +kernel
theorem dX6_passOne_165 : decode cX6_passOne 165 = .ok (.goto (-25), 3) := by decide +kernel
theorem dX6_passOne_168 : decode cX6_passOne 168 = .ok (.aload_n 0, 1) := by decide +kernel
theorem dX6_passOne_169 : decode cX6_passOne 169 = .ok (.dup, 1) := by decide +kernel
theorem dX6_passOne_170 : decode cX6_passOne 170 = .ok (.getfield 43, 3) := by decide +kernel
theorem dX6_passOne_173 : decode cX6_passOne 173 = .ok (.iconst 1, 1) := by decide +kernel
theorem dX6_passOne_174 : decode cX6_passOne 174 = .ok (.iadd, 1) := by decide +kernel
theorem dX6_passOne_175 : decode cX6_passOne 175 = .ok (.putfield 43, 3) := by decide +kernel
theorem dX6_passOne_178 : decode cX6_passOne 178 = .ok (.return_, 1) := by decide +kernel
theorem dX6_flashesInAll_0 : decode cX6_flashesInAll 0 = .ok (.iconst 0, 1) := by decide +kernel
theorem dX6_flashesInAll_1 : decode cX6_flashesInAll 1 = .ok (.istore_n 1, 1) := by decide +kernel
theorem dX6_flashesInAll_2 : decode cX6_flashesInAll 2 = .ok (.iconst 0, 1) := by decide +kernel
theorem dX6_flashesInAll_3 : decode cX6_flashesInAll 3 = .ok (.istore_n 2, 1) := by decide +kernel
theorem dX6_flashesInAll_4 : decode cX6_flashesInAll 4 = .ok (.iload_n 2, 1) := by decide +kernel
theorem dX6_flashesInAll_5 : decode cX6_flashesInAll 5 = .ok (.aload_n 0, 1) := by decide +kernel
theorem dX6_flashesInAll_6 : decode cX6_flashesInAll 6 = .ok (.getfield 47, 3) := by decide +kernel
theorem dX6_flashesInAll_9 : decode cX6_flashesInAll 9 = .ok (.if_icmp .ge 21, 3) := by decide +kernel
theorem dX6_flashesInAll_12 : decode cX6_flashesInAll 12 = .ok (.iload_n 1, 1) := by decide +kernel
theorem dX6_flashesInAll_13 : decode cX6_flashesInAll 13 = .ok (.aload_n 0, 1) := by decide +kernel
theorem dX6_flashesInAll_14 : decode cX6_flashesInAll 14 = .ok (.getfield 17, 3) := by decide +kernel
theorem dX6_flashesInAll_17 : decode cX6_flashesInAll 17 = .ok (.iload_n 2, 1) := by decide +kernel
theorem dX6_flashesInAll_18 : decode cX6_flashesInAll 18 = .ok (.aaload, 1) := by decide +kernel
theorem dX6_flashesInAll_19 : decode cX6_flashesInAll 19 = .ok (.invokevirtual 134, 3) := by decide +kernel
theorem dX6_flashesInAll_22 : decode cX6_flashesInAll 22 = .ok (.iadd, 1) := by decide +kernel
theorem dX6_flashesInAll_23 : decode cX6_flashesInAll 23 = .ok (.istore_n 1, 1) := by decide +kernel
theorem dX6_flashesInAll_24 : decode cX6_flashesInAll 24 = .ok (.iinc 2 1, 3) := by decide +kernel
theorem dX6_flashesInAll_27 : decode cX6_flashesInAll 27 = .ok (.goto (-23), 3) := by decide +kernel
theorem dX6_flashesInAll_30 : decode cX6_flashesInAll 30 = .ok (.iload_n 1, 1) := by decide +kernel
theorem dX6_flashesInAll_31 : decode cX6_flashesInAll 31 = .ok (.ireturn, 1) := by decide +kernel
theorem dX6_tallyInAll_0 : decode cX6_tallyInAll 0 = .ok (.iconst 0, 1) := by decide +kernel
theorem dX6_tallyInAll_1 : decode cX6_tallyInAll 1 = .ok (.istore_n 2, 1) := by decide +kernel
theorem dX6_tallyInAll_2 : decode cX6_tallyInAll 2 = .ok (.iconst 0, 1) := by decide +kernel
theorem dX6_tallyInAll_3 : decode cX6_tallyInAll 3 = .ok (.istore_n 3, 1) := by decide +kernel
theorem dX6_tallyInAll_4 : decode cX6_tallyInAll 4 = .ok (.iload_n 3, 1) := by decide +kernel
theorem dX6_tallyInAll_5 : decode cX6_tallyInAll 5 = .ok (.aload_n 0, 1) := by decide +kernel
theorem dX6_tallyInAll_6 : decode cX6_tallyInAll 6 = .ok (.getfield 47, 3) := by decide +kernel
theorem dX6_tallyInAll_9 : decode cX6_tallyInAll 9 = .ok (.if_icmp .ge 22, 3) := by decide +kernel
theorem dX6_tallyInAll_12 : decode cX6_tallyInAll 12 = .ok (.iload_n 2, 1) := by decide +kernel
theorem dX6_tallyInAll_13 : decode cX6_tallyInAll 13 = .ok (.aload_n 0, 1) := by decide +kernel
theorem dX6_tallyInAll_14 : decode cX6_tallyInAll 14 = .ok (.getfield 17, 3) := by decide +kernel
theorem dX6_tallyInAll_17 : decode cX6_tallyInAll 17 = .ok (.iload_n 3, 1) := by decide +kernel
theorem dX6_tallyInAll_18 : decode cX6_tallyInAll 18 = .ok (.aaload, 1) := by decide +kernel
theorem dX6_tallyInAll_19 : decode cX6_tallyInAll 19 = .ok (.iload_n 1, 1) := by decide +kernel
theorem dX6_tallyInAll_20 : decode cX6_tallyInAll 20 = .ok (.invokevirtual 166, 3) := by decide +kernel
theorem dX6_tallyInAll_23 : decode cX6_tallyInAll 23 = .ok (.iadd, 1) := by decide +kernel
theorem dX6_tallyInAll_24 : decode cX6_tallyInAll 24 = .ok (.istore_n 2, 1) := by decide +kernel
theorem dX6_tallyInAll_25 : decode cX6_tallyInAll 25 = .ok (.iinc 3 1, 3) := by decide +kernel
theorem dX6_tallyInAll_28 : decode cX6_tallyInAll 28 = .ok (.goto (-24), 3) := by decide +kernel
theorem dX6_tallyInAll_31 : decode cX6_tallyInAll 31 = .ok (.iload_n 2, 1) := by decide +kernel
theorem dX6_tallyInAll_32 : decode cX6_tallyInAll 32 = .ok (.ireturn, 1) := by decide +kernel
theorem dX7_init_0 : decode cX7_init 0 = .ok (.aload_n 0, 1) := by decide +kernel
theorem dX7_init_1 : decode cX7_init 1 = .ok (.invokespecial 1, 3) := by decide +kernel
theorem dX7_init_4 : decode cX7_init 4 = .ok (.aload_n 0, 1) := by decide +kernel
theorem dX7_init_5 : decode cX7_init 5 = .ok (.new 7, 3) := by decide +kernel
theorem dX7_init_8 : decode cX7_init 8 = .ok (.dup, 1) := by decide +kernel
theorem dX7_init_9 : decode cX7_init 9 = .ok (.invokespecial 9, 3) := by decide +kernel
theorem dX7_init_12 : decode cX7_init 12 = .ok (.putfield 10, 3) := by decide +kernel
theorem dX7_init_15 : decode cX7_init 15 = .ok (.aload_n 0, 1) := by decide +kernel
theorem dX7_init_16 : decode cX7_init 16 = .ok (.new 7, 3) := by decide +kernel
theorem dX7_init_19 : decode cX7_init 19 = .ok (.dup, 1) := by decide +kernel
theorem dX7_init_20 : decode cX7_init 20 = .ok (.invokespecial 9, 3) := by decide +kernel
theorem dX7_init_23 : decode cX7_init 23 = .ok (.putfield 16, 3) := by decide +kernel
theorem dX7_init_26 : decode cX7_init 26 = .ok (.aload_n 0, 1) := by decide +kernel
theorem dX7_init_27 : decode cX7_init 27 = .ok (.new 19, 3) := by decide +kernel
theorem dX7_init_30 : decode cX7_init 30 = .ok (.dup, 1) := by decide +kernel
theorem dX7_init_31 : decode cX7_init 31 = .ok (.invokespecial 21, 3) := by decide +kernel
theorem dX7_init_34 : decode cX7_init 34 = .ok (.putfield 22, 3) := by decide +kernel
theorem dX7_init_37 : decode cX7_init 37 = .ok (.aload_n 0, 1) := by decide +kernel
theorem dX7_init_38 : decode cX7_init 38 = .ok (.iconst 2, 1) := by decide +kernel
theorem dX7_init_39 : decode cX7_init 39 = .ok (.anewarray 7, 3) := by decide +kernel
theorem dX7_init_42 : decode cX7_init 42 = .ok (.putfield 26, 3) := by decide +kernel
theorem dX7_init_45 : decode cX7_init 45 = .ok (.aload_n 0, 1) := by decide +kernel
theorem dX7_init_46 : decode cX7_init 46 = .ok (.iconst 2, 1) := by decide +kernel
theorem dX7_init_47 : decode cX7_init 47 = .ok (.newarray .boolean, 2) := by decide +kernel
theorem dX7_init_49 : decode cX7_init 49 = .ok (.putfield 30, 3) := by decide +kernel
theorem dX7_init_52 : decode cX7_init 52 = .ok (.aload_n 0, 1) := by decide +kernel
theorem dX7_init_53 : decode cX7_init 53 = .ok (.new 34, 3) := by decide +kernel
theorem dX7_init_56 : decode cX7_init 56 = .ok (.dup, 1) := by decide +kernel
theorem dX7_init_57 : decode cX7_init 57 = .ok (.invokespecial 36, 3) := by decide +kernel
theorem dX7_init_60 : decode cX7_init 60 = .ok (.putfield 37, 3) := by decide +kernel
theorem dX7_init_63 : decode cX7_init 63 = .ok (.aload_n 0, 1) := by decide +kernel
theorem dX7_init_64 : decode cX7_init 64 = .ok (.new 41, 3) := by decide +kernel
theorem dX7_init_67 : decode cX7_init 67 = .ok (.dup, 1) := by decide +kernel
theorem dX7_init_68 : decode cX7_init 68 = .ok (.aload_n 0, 1) := by decide +kernel
theorem dX7_init_69 : decode cX7_init 69 = .ok (.getfield 37, 3) := by decide +kernel
theorem dX7_init_72 : decode cX7_init 72 = .ok (.invokespecial 43, 3) := by decide +kernel
theorem dX7_init_75 : decode cX7_init 75 = .ok (.putfield 46, 3) := by decide +kernel
theorem dX7_init_78 : decode cX7_init 78 = .ok (.iconst 0, 1) := by decide +kernel
theorem dX7_init_79 : decode cX7_init 79 = .ok (.istore_n 1, 1) := by decide +kernel
theorem dX7_init_80 : decode cX7_init 80 = .ok (.iload_n 1, 1) := by decide +kernel
theorem dX7_init_81 : decode cX7_init 81 = .ok (.iconst 2, 1) := by decide +kernel
theorem dX7_init_82 : decode cX7_init 82 = .ok (.if_icmp .ge 22, 3) := by decide +kernel
theorem dX7_init_85 : decode cX7_init 85 = .ok (.aload_n 0, 1) := by decide +kernel
theorem dX7_init_86 : decode cX7_init 86 = .ok (.getfield 26, 3) := by decide +kernel
theorem dX7_init_89 : decode cX7_init 89 = .ok (.iload_n 1, 1) := by decide +kernel
theorem dX7_init_90 : decode cX7_init 90 = .ok (.new 7, 3) := by decide +kernel
theorem dX7_init_93 : decode cX7_init 93 = .ok (.dup, 1) := by decide +kernel
theorem dX7_init_94 : decode cX7_init 94 = .ok (.invokespecial 9, 3) := by decide +kernel
theorem dX7_init_97 : decode cX7_init 97 = .ok (.aastore, 1) := by decide +kernel
theorem dX7_init_98 : decode cX7_init 98 = .ok (.iinc 1 1, 3) := by decide +kernel
theorem dX7_init_101 : decode cX7_init 101 = .ok (.goto (-21), 3) := by decide +kernel
theorem dX7_init_104 : decode cX7_init 104 = .ok (.return_, 1) := by decide +kernel
theorem dX7_set_0 : decode cX7_set 0 = .ok (.aload_n 0, 1) := by decide +kernel
theorem dX7_set_1 : decode cX7_set 1 = .ok (.getfield 22, 3) := by decide +kernel
theorem dX7_set_4 : decode cX7_set 4 = .ok (.aload_n 0, 1) := by decide +kernel
theorem dX7_set_5 : decode cX7_set 5 = .ok (.getfield 10, 3) := by decide +kernel
theorem dX7_set_8 : decode cX7_set 8 = .ok (.invokevirtual 50, 3) := by decide +kernel
theorem dX7_set_11 : decode cX7_set 11 = .ok (.aload_n 0, 1) := by decide +kernel
theorem dX7_set_12 : decode cX7_set 12 = .ok (.getfield 22, 3) := by decide +kernel
theorem dX7_set_15 : decode cX7_set 15 = .ok (.aload_n 0, 1) := by decide +kernel
theorem dX7_set_16 : decode cX7_set 16 = .ok (.getfield 10, 3) := by decide +kernel
theorem dX7_set_19 : decode cX7_set 19 = .ok (.iload_n 1, 1) := by decide +kernel
theorem dX7_set_20 : decode cX7_set 20 = .ok (.iload_n 2, 1) := by decide +kernel
theorem dX7_set_21 : decode cX7_set 21 = .ok (.invokevirtual 54, 3) := by decide +kernel
theorem dX7_set_24 : decode cX7_set 24 = .ok (.invokevirtual 58, 3) := by decide +kernel
theorem dX7_set_27 : decode cX7_set 27 = .ok (.ireturn, 1) := by decide +kernel
theorem dX7_loop_0 : decode cX7_loop 0 = .ok (.aload_n 0, 1) := by decide +kernel
theorem dX7_loop_1 : decode cX7_loop 1 = .ok (.getfield 22, 3) := by decide +kernel
theorem dX7_loop_4 : decode cX7_loop 4 = .ok (.aload_n 0, 1) := by decide +kernel
theorem dX7_loop_5 : decode cX7_loop 5 = .ok (.getfield 10, 3) := by decide +kernel
theorem dX7_loop_8 : decode cX7_loop 8 = .ok (.invokevirtual 50, 3) := by decide +kernel
theorem dX7_loop_11 : decode cX7_loop 11 = .ok (.aload_n 0, 1) := by decide +kernel
theorem dX7_loop_12 : decode cX7_loop 12 = .ok (.getfield 22, 3) := by decide +kernel
theorem dX7_loop_15 : decode cX7_loop 15 = .ok (.aload_n 0, 1) := by decide +kernel
theorem dX7_loop_16 : decode cX7_loop 16 = .ok (.getfield 10, 3) := by decide +kernel
theorem dX7_loop_19 : decode cX7_loop 19 = .ok (.iload_n 1, 1) := by decide +kernel
theorem dX7_loop_20 : decode cX7_loop 20 = .ok (.invokevirtual 62, 3) := by decide +kernel
theorem dX7_loop_23 : decode cX7_loop 23 = .ok (.invokevirtual 58, 3) := by decide +kernel
theorem dX7_loop_26 : decode cX7_loop 26 = .ok (.ireturn, 1) := by decide +kernel
theorem dX7_device_0 : decode cX7_device 0 = .ok (.aload_n 0, 1) := by decide +kernel
theorem dX7_device_1 : decode cX7_device 1 = .ok (.getfield 22, 3) := by decide +kernel
theorem dX7_device_4 : decode cX7_device 4 = .ok (.aload_n 0, 1) := by decide +kernel
theorem dX7_device_5 : decode cX7_device 5 = .ok (.getfield 10, 3) := by decide +kernel
theorem dX7_device_8 : decode cX7_device 8 = .ok (.invokevirtual 50, 3) := by decide +kernel
theorem dX7_device_11 : decode cX7_device 11 = .ok (.aload_n 0, 1) := by decide +kernel
theorem dX7_device_12 : decode cX7_device 12 = .ok (.getfield 22, 3) := by decide +kernel
theorem dX7_device_15 : decode cX7_device 15 = .ok (.aload_n 0, 1) := by decide +kernel
theorem dX7_device_16 : decode cX7_device 16 = .ok (.getfield 10, 3) := by decide +kernel
theorem dX7_device_19 : decode cX7_device 19 = .ok (.iload_n 1, 1) := by decide +kernel
theorem dX7_device_20 : decode cX7_device 20 = .ok (.iload_n 2, 1) := by decide +kernel
theorem dX7_device_21 : decode cX7_device 21 = .ok (.iload_n 3, 1) := by decide +kernel
theorem dX7_device_22 : decode cX7_device 22 = .ok (.iload 4, 2) := by decide +kernel
theorem dX7_device_24 : decode cX7_device 24 = .ok (.iload 5, 2) := by decide +kernel
theorem dX7_device_26 : decode cX7_device 26 = .ok (.invokevirtual 65, 3) := by decide +kernel
theorem dX7_device_29 : decode cX7_device 29 = .ok (.invokevirtual 58, 3) := by decide +kernel
theorem dX7_device_32 : decode cX7_device 32 = .ok (.ireturn, 1) := by decide +kernel
theorem dX7_join_0 : decode cX7_join 0 = .ok (.aload_n 0, 1) := by decide +kernel
theorem dX7_join_1 : decode cX7_join 1 = .ok (.getfield 22, 3) := by decide +kernel
theorem dX7_join_4 : decode cX7_join 4 = .ok (.aload_n 0, 1) := by decide +kernel
theorem dX7_join_5 : decode cX7_join 5 = .ok (.getfield 10, 3) := by decide +kernel
theorem dX7_join_8 : decode cX7_join 8 = .ok (.invokevirtual 50, 3) := by decide +kernel
theorem dX7_join_11 : decode cX7_join 11 = .ok (.aload_n 0, 1) := by decide +kernel
theorem dX7_join_12 : decode cX7_join 12 = .ok (.getfield 22, 3) := by decide +kernel
theorem dX7_join_15 : decode cX7_join 15 = .ok (.aload_n 0, 1) := by decide +kernel
theorem dX7_join_16 : decode cX7_join 16 = .ok (.getfield 10, 3) := by decide +kernel
theorem dX7_join_19 : decode cX7_join 19 = .ok (.iload_n 1, 1) := by decide +kernel
theorem dX7_join_20 : decode cX7_join 20 = .ok (.iload_n 2, 1) := by decide +kernel
theorem dX7_join_21 : decode cX7_join 21 = .ok (.iload_n 3, 1) := by decide +kernel
theorem dX7_join_22 : decode cX7_join 22 = .ok (.iload 4, 2) := by decide +kernel
theorem dX7_join_24 : decode cX7_join 24 = .ok (.invokevirtual 69, 3) := by decide +kernel
theorem dX7_join_27 : decode cX7_join 27 = .ok (.invokevirtual 58, 3) := by decide +kernel
theorem dX7_join_30 : decode cX7_join 30 = .ok (.ireturn, 1) := by decide +kernel
theorem dX7_turn_0 : decode cX7_turn 0 = .ok (.aload_n 0, 1) := by decide +kernel
theorem dX7_turn_1 : decode cX7_turn 1 = .ok (.getfield 22, 3) := by decide +kernel
theorem dX7_turn_4 : decode cX7_turn 4 = .ok (.aload_n 0, 1) := by decide +kernel
theorem dX7_turn_5 : decode cX7_turn 5 = .ok (.getfield 10, 3) := by decide +kernel
theorem dX7_turn_8 : decode cX7_turn 8 = .ok (.invokevirtual 50, 3) := by decide +kernel
theorem dX7_turn_11 : decode cX7_turn 11 = .ok (.aload_n 0, 1) := by decide +kernel
theorem dX7_turn_12 : decode cX7_turn 12 = .ok (.getfield 22, 3) := by decide +kernel
theorem dX7_turn_15 : decode cX7_turn 15 = .ok (.aload_n 0, 1) := by decide +kernel
theorem dX7_turn_16 : decode cX7_turn 16 = .ok (.getfield 10, 3) := by decide +kernel
theorem dX7_turn_19 : decode cX7_turn 19 = .ok (.iload_n 1, 1) := by decide +kernel
theorem dX7_turn_20 : decode cX7_turn 20 = .ok (.iload_n 2, 1) := by decide +kernel
theorem dX7_turn_21 : decode cX7_turn 21 = .ok (.invokevirtual 73, 3) := by decide +kernel
theorem dX7_turn_24 : decode cX7_turn 24 = .ok (.invokevirtual 58, 3) := by decide +kernel
theorem dX7_turn_27 : decode cX7_turn 27 = .ok (.ireturn, 1) := by decide +kernel
theorem dX7_feed_0 : decode cX7_feed 0 = .ok (.aload_n 0, 1) := by decide +kernel
theorem dX7_feed_1 : decode cX7_feed 1 = .ok (.getfield 22, 3) := by decide +kernel
theorem dX7_feed_4 : decode cX7_feed 4 = .ok (.aload_n 0, 1) := by decide +kernel
theorem dX7_feed_5 : decode cX7_feed 5 = .ok (.getfield 10, 3) := by decide +kernel
theorem dX7_feed_8 : decode cX7_feed 8 = .ok (.invokevirtual 50, 3) := by decide +kernel
theorem dX7_feed_11 : decode cX7_feed 11 = .ok (.aload_n 0, 1) := by decide +kernel
theorem dX7_feed_12 : decode cX7_feed 12 = .ok (.getfield 22, 3) := by decide +kernel
theorem dX7_feed_15 : decode cX7_feed 15 = .ok (.aload_n 0, 1) := by decide +kernel
theorem dX7_feed_16 : decode cX7_feed 16 = .ok (.getfield 10, 3) := by decide +kernel
theorem dX7_feed_19 : decode cX7_feed 19 = .ok (.iload_n 1, 1) := by decide +kernel
theorem dX7_feed_20 : decode cX7_feed 20 = .ok (.iload_n 2, 1) := by decide +kernel
theorem dX7_feed_21 : decode cX7_feed 21 = .ok (.invokevirtual 76, 3) := by decide +kernel
theorem dX7_feed_24 : decode cX7_feed 24 = .ok (.invokevirtual 58, 3) := by decide +kernel
theorem dX7_feed_27 : decode cX7_feed 27 = .ok (.ireturn, 1) := by decide +kernel
theorem dX7_light_0 : decode cX7_light 0 = .ok (.aload_n 0, 1) := by decide +kernel
theorem dX7_light_1 : decode cX7_light 1 = .ok (.getfield 22, 3) := by decide +kernel
theorem dX7_light_4 : decode cX7_light 4 = .ok (.aload_n 0, 1) := by decide +kernel
theorem dX7_light_5 : decode cX7_light 5 = .ok (.getfield 10, 3) := by decide +kernel
theorem dX7_light_8 : decode cX7_light 8 = .ok (.invokevirtual 50, 3) := by decide +kernel
theorem dX7_light_11 : decode cX7_light 11 = .ok (.aload_n 0, 1) := by decide +kernel
theorem dX7_light_12 : decode cX7_light 12 = .ok (.getfield 22, 3) := by decide +kernel
theorem dX7_light_15 : decode cX7_light 15 = .ok (.aload_n 0, 1) := by decide +kernel
theorem dX7_light_16 : decode cX7_light 16 = .ok (.getfield 10, 3) := by decide +kernel
theorem dX7_light_19 : decode cX7_light 19 = .ok (.iload_n 1, 1) := by decide +kernel
theorem dX7_light_20 : decode cX7_light 20 = .ok (.iload_n 2, 1) := by decide +kernel
theorem dX7_light_21 : decode cX7_light 21 = .ok (.iload_n 3, 1) := by decide +kernel
theorem dX7_light_22 : decode cX7_light 22 = .ok (.invokevirtual 79, 3) := by decide +kernel
theorem dX7_light_25 : decode cX7_light 25 = .ok (.invokevirtual 58, 3) := by decide +kernel
theorem dX7_light_28 : decode cX7_light 28 = .ok (.ireturn, 1) := by decide +kernel
theorem dX7_ticks_0 : decode cX7_ticks 0 = .ok (.aload_n 0, 1) := by decide +kernel
theorem dX7_ticks_1 : decode cX7_ticks 1 = .ok (.getfield 22, 3) := by decide +kernel
theorem dX7_ticks_4 : decode cX7_ticks 4 = .ok (.aload_n 0, 1) := by decide +kernel
theorem dX7_ticks_5 : decode cX7_ticks 5 = .ok (.getfield 10, 3) := by decide +kernel
theorem dX7_ticks_8 : decode cX7_ticks 8 = .ok (.invokevirtual 50, 3) := by decide +kernel
theorem dX7_ticks_11 : decode cX7_ticks 11 = .ok (.aload_n 0, 1) := by decide +kernel
theorem dX7_ticks_12 : decode cX7_ticks 12 = .ok (.getfield 22, 3) := by decide +kernel
theorem dX7_ticks_15 : decode cX7_ticks 15 = .ok (.aload_n 0, 1) := by decide +kernel
theorem dX7_ticks_16 : decode cX7_ticks 16 = .ok (.getfield 10, 3) := by decide +kernel
theorem dX7_ticks_19 : decode cX7_ticks 19 = .ok (.iload_n 1, 1) := by decide +kernel
theorem dX7_ticks_20 : decode cX7_ticks 20 = .ok (.invokevirtual 83, 3) := by decide +kernel
theorem dX7_ticks_23 : decode cX7_ticks 23 = .ok (.invokevirtual 58, 3) := by decide +kernel
theorem dX7_ticks_26 : decode cX7_ticks 26 = .ok (.ireturn, 1) := by decide +kernel
theorem dX7_at_0 : decode cX7_at 0 = .ok (.aload_n 0, 1) := by decide +kernel
theorem dX7_at_1 : decode cX7_at 1 = .ok (.getfield 10, 3) := by decide +kernel
theorem dX7_at_4 : decode cX7_at 4 = .ok (.iload_n 1, 1) := by decide +kernel
theorem dX7_at_5 : decode cX7_at 5 = .ok (.iload_n 2, 1) := by decide +kernel
theorem dX7_at_6 : decode cX7_at 6 = .ok (.invokevirtual 86, 3) := by decide +kernel
theorem dX7_at_9 : decode cX7_at 9 = .ok (.astore 4, 2) := by decide +kernel
theorem dX7_at_11 : decode cX7_at 11 = .ok (.aload 4, 2) := by decide +kernel
theorem dX7_at_13 : decode cX7_at 13 = .ok (.ifnonnull 5, 3) := by decide +kernel
theorem dX7_at_16 : decode cX7_at 16 = .ok (.iconst (-1), 1) := by decide +kernel
theorem dX7_at_17 : decode cX7_at 17 = .ok (.ireturn, 1) := by decide +kernel
theorem dX7_at_18 : decode cX7_at 18 = .ok (.iload_n 3, 1) := by decide +kernel
theorem dX7_at_19 : decode cX7_at 19 = .ok (.tableswitch 80 0 3 #[29, 36, 43, 72], 29) := by decide +kernel
theorem dX7_at_48 : decode cX7_at 48 = .ok (.aload 4, 2) := by decide +kernel
theorem dX7_at_50 : decode cX7_at 50 = .ok (.iload_n 2, 1) := by decide +kernel
theorem dX7_at_51 : decode cX7_at 51 = .ok (.invokevirtual 90, 3) := by decide +kernel
theorem dX7_at_54 : decode cX7_at 54 = .ok (.ireturn, 1) := by decide +kernel
theorem dX7_at_55 : decode cX7_at 55 = .ok (.aload 4, 2) := by decide +kernel
theorem dX7_at_57 : decode cX7_at 57 = .ok (.iload_n 2, 1) := by decide +kernel
theorem dX7_at_58 : decode cX7_at 58 = .ok (.invokevirtual 95, 3) := by decide +kernel
theorem dX7_at_61 : decode cX7_at 61 = .ok (.ireturn, 1) := by decide +kernel
theorem dX7_at_62 : decode cX7_at 62 = .ok (.aload 4, 2) := by decide +kernel
theorem dX7_at_64 : decode cX7_at 64 = .ok (.iload_n 2, 1) := by decide +kernel
theorem dX7_at_65 : decode cX7_at 65 = .ok (.invokevirtual 95, 3) := by decide +kernel
theorem dX7_at_68 : decode cX7_at 68 = .ok (.ifCond .le 20, 3) := by decide +kernel
theorem dX7_at_71 : decode cX7_at 71 = .ok (.aload_n 0, 1) := by decide +kernel
theorem dX7_at_72 : decode cX7_at 72 = .ok (.getfield 10, 3) := by decide +kernel
theorem dX7_at_75 : decode cX7_at 75 = .ok (.getfield 98, 3) := by decide +kernel
theorem dX7_at_78 : decode cX7_at 78 = .ok (.aload 4, 2) := by decide +kernel
theorem dX7_at_80 : decode cX7_at 80 = .ok (.iload_n 2, 1) := by decide +kernel
theorem dX7_at_81 : decode cX7_at 81 = .ok (.invokevirtual 102, 3) := by decide +kernel
theorem dX7_at_84 : decode cX7_at 84 = .ok (.isub, 1) := by decide +kernel
theorem dX7_at_85 : decode cX7_at 85 = .ok (.goto 5, 3) := by decide +kernel
theorem dX7_at_88 : decode cX7_at 88 = .ok (.bipush (-6), 2) := by decide +kernel
theorem dX7_at_90 : decode cX7_at 90 = .ok (.ireturn, 1) := by decide +kernel
theorem dX7_at_91 : decode cX7_at 91 = .ok (.aload 4, 2) := by decide +kernel
theorem dX7_at_93 : decode cX7_at 93 = .ok (.getfield 105, 3) := by decide +kernel
theorem dX7_at_96 : decode cX7_at 96 = .ok (.iload_n 2, 1) := by decide +kernel
theorem dX7_at_97 : decode cX7_at 97 = .ok (.isub, 1) := by decide +kernel
theorem dX7_at_98 : decode cX7_at 98 = .ok (.ireturn, 1) := by decide +kernel
theorem dX7_at_99 : decode cX7_at 99 = .ok (.bipush (-2), 2) := by decide +kernel
theorem dX7_at_101 : decode cX7_at 101 = .ok (.ireturn, 1) := by decide +kernel
theorem dX7_ofLoop_0 : decode cX7_ofLoop 0 = .ok (.aload_n 0, 1) := by decide +kernel
theorem dX7_ofLoop_1 : decode cX7_ofLoop 1 = .ok (.getfield 10, 3) := by decide +kernel
theorem dX7_ofLoop_4 : decode cX7_ofLoop 4 = .ok (.iload_n 1, 1) := by decide +kernel
theorem dX7_ofLoop_5 : decode cX7_ofLoop 5 = .ok (.invokevirtual 108, 3) := by decide +kernel
theorem dX7_ofLoop_8 : decode cX7_ofLoop 8 = .ok (.astore_n 3, 1) := by decide +kernel
theorem dX7_ofLoop_9 : decode cX7_ofLoop 9 = .ok (.aload_n 3, 1) := by decide +kernel
theorem dX7_ofLoop_10 : decode cX7_ofLoop 10 = .ok (.ifnonnull 5, 3) := by decide +kernel
theorem dX7_ofLoop_13 : decode cX7_ofLoop 13 = .ok (.iconst (-1), 1) := by decide +kernel
theorem dX7_ofLoop_14 : decode cX7_ofLoop 14 = .ok (.ireturn, 1) := by decide +kernel
theorem dX7_ofLoop_15 : decode cX7_ofLoop 15 = .ok (.iload_n 2, 1) := by decide +kernel
theorem dX7_ofLoop_16 : decode cX7_ofLoop 16 = .ok (.tableswitch 102 0 8 #[52, 57, 62, 67, 72, 78, 84, 90, 96], 52) := by decide +kernel
theorem dX7_ofLoop_68 : decode cX7_ofLoop 68 = .ok (.aload_n 3, 1) := by decide +kernel
theorem dX7_ofLoop_69 : decode cX7_ofLoop 69 = .ok (.getfield 105, 3) := by decide +kernel
theorem dX7_ofLoop_72 : decode cX7_ofLoop 72 = .ok (.ireturn, 1) := by decide +kernel
theorem dX7_ofLoop_73 : decode cX7_ofLoop 73 = .ok (.aload_n 3, 1) := by decide +kernel
theorem dX7_ofLoop_74 : decode cX7_ofLoop 74 = .ok (.invokevirtual 112, 3) := by decide +kernel
theorem dX7_ofLoop_77 : decode cX7_ofLoop 77 = .ok (.ireturn, 1) := by decide +kernel
theorem dX7_ofLoop_78 : decode cX7_ofLoop 78 = .ok (.aload_n 3, 1) := by decide +kernel
theorem dX7_ofLoop_79 : decode cX7_ofLoop 79 = .ok (.invokevirtual 116, 3) := by decide +kernel
theorem dX7_ofLoop_82 : decode cX7_ofLoop 82 = .ok (.ireturn, 1) := by decide +kernel
theorem dX7_ofLoop_83 : decode cX7_ofLoop 83 = .ok (.aload_n 3, 1) := by decide +kernel
theorem dX7_ofLoop_84 : decode cX7_ofLoop 84 = .ok (.invokevirtual 119, 3) := by decide +kernel
theorem dX7_ofLoop_87 : decode cX7_ofLoop 87 = .ok (.ireturn, 1) := by decide +kernel
theorem dX7_ofLoop_88 : decode cX7_ofLoop 88 = .ok (.aload_n 3, 1) := by decide +kernel
theorem dX7_ofLoop_89 : decode cX7_ofLoop 89 = .ok (.iconst 0, 1) := by decide +kernel
theorem dX7_ofLoop_90 : decode cX7_ofLoop 90 = .ok (.invokevirtual 122, 3) := by decide +kernel
theorem dX7_ofLoop_93 : decode cX7_ofLoop 93 = .ok (.ireturn, 1) := by decide +kernel
theorem dX7_ofLoop_94 : decode cX7_ofLoop 94 = .ok (.aload_n 3, 1) := by decide +kernel
theorem dX7_ofLoop_95 : decode cX7_ofLoop 95 = .ok (.iconst 1, 1) := by decide +kernel
theorem dX7_ofLoop_96 : decode cX7_ofLoop 96 = .ok (.invokevirtual 122, 3) := by decide +kernel
theorem dX7_ofLoop_99 : decode cX7_ofLoop 99 = .ok (.ireturn, 1) := by decide +kernel
theorem dX7_ofLoop_100 : decode cX7_ofLoop 100 = .ok (.aload_n 3, 1) := by decide +kernel
theorem dX7_ofLoop_101 : decode cX7_ofLoop 101 = .ok (.iconst 2, 1) := by decide +kernel
theorem dX7_ofLoop_102 : decode cX7_ofLoop 102 = .ok (.invokevirtual 122, 3) := by decide +kernel
theorem dX7_ofLoop_105 : decode cX7_ofLoop 105 = .ok (.ireturn, 1) := by decide +kernel
theorem dX7_ofLoop_106 : decode cX7_ofLoop 106 = .ok (.aload_n 3, 1) := by decide +kernel
theorem dX7_ofLoop_107 : decode cX7_ofLoop 107 = .ok (.iconst 3, 1) := by decide +kernel
theorem dX7_ofLoop_108 : decode cX7_ofLoop 108 = .ok (.invokevirtual 122, 3) := by decide +kernel
theorem dX7_ofLoop_111 : decode cX7_ofLoop 111 = .ok (.ireturn, 1) := by decide +kernel
theorem dX7_ofLoop_112 : decode cX7_ofLoop 112 = .ok (.aload_n 3, 1) := by decide +kernel
theorem dX7_ofLoop_113 : decode cX7_ofLoop 113 = .ok (.iconst 4, 1) := by decide +kernel
theorem dX7_ofLoop_114 : decode cX7_ofLoop 114 = .ok (.invokevirtual 122, 3) := by decide +kernel
theorem dX7_ofLoop_117 : decode cX7_ofLoop 117 = .ok (.ireturn, 1) := by decide +kernel
theorem dX7_ofLoop_118 : decode cX7_ofLoop 118 = .ok (.bipush (-2), 2) := by decide +kernel
theorem dX7_ofLoop_120 : decode cX7_ofLoop 120 = .ok (.ireturn, 1) := by decide +kernel
theorem dX7_ofDevice_0 : decode cX7_ofDevice 0 = .ok (.aload_n 0, 1) := by decide +kernel
theorem dX7_ofDevice_1 : decode cX7_ofDevice 1 = .ok (.getfield 10, 3) := by decide +kernel
theorem dX7_ofDevice_4 : decode cX7_ofDevice 4 = .ok (.iload_n 1, 1) := by decide +kernel
theorem dX7_ofDevice_5 : decode cX7_ofDevice 5 = .ok (.invokevirtual 125, 3) := by decide +kernel
theorem dX7_ofDevice_8 : decode cX7_ofDevice 8 = .ok (.astore_n 3, 1) := by decide +kernel
theorem dX7_ofDevice_9 : decode cX7_ofDevice 9 = .ok (.aload_n 3, 1) := by decide +kernel
theorem dX7_ofDevice_10 : decode cX7_ofDevice 10 = .ok (.ifnonnull 5, 3) := by decide +kernel
theorem dX7_ofDevice_13 : decode cX7_ofDevice 13 = .ok (.iconst (-1), 1) := by decide +kernel
theorem dX7_ofDevice_14 : decode cX7_ofDevice 14 = .ok (.ireturn, 1) := by decide +kernel
theorem dX7_ofDevice_15 : decode cX7_ofDevice 15 = .ok (.iload_n 2, 1) := by decide +kernel
theorem dX7_ofDevice_16 : decode cX7_ofDevice 16 = .ok (.tableswitch 93 0 6 #[44, 49, 54, 59, 64, 69, 88], 44) := by decide +kernel
theorem dX7_ofDevice_60 : decode cX7_ofDevice 60 = .ok (.aload_n 3, 1) := by decide +kernel
theorem dX7_ofDevice_61 : decode cX7_ofDevice 61 = .ok (.getfield 129, 3) := by decide +kernel
theorem dX7_ofDevice_64 : decode cX7_ofDevice 64 = .ok (.ireturn, 1) := by decide +kernel
theorem dX7_ofDevice_65 : decode cX7_ofDevice 65 = .ok (.aload_n 3, 1) := by decide +kernel
theorem dX7_ofDevice_66 : decode cX7_ofDevice 66 = .ok (.getfield 134, 3) := by decide +kernel
theorem dX7_ofDevice_69 : decode cX7_ofDevice 69 = .ok (.ireturn, 1) := by decide +kernel
theorem dX7_ofDevice_70 : decode cX7_ofDevice 70 = .ok (.aload_n 3, 1) := by decide +kernel
theorem dX7_ofDevice_71 : decode cX7_ofDevice 71 = .ok (.getfield 137, 3) := by decide +kernel
theorem dX7_ofDevice_74 : decode cX7_ofDevice 74 = .ok (.ireturn, 1) := by decide +kernel
theorem dX7_ofDevice_75 : decode cX7_ofDevice 75 = .ok (.aload_n 3, 1) := by decide +kernel
theorem dX7_ofDevice_76 : decode cX7_ofDevice 76 = .ok (.getfield 140, 3) := by decide +kernel
theorem dX7_ofDevice_79 : decode cX7_ofDevice 79 = .ok (.ireturn, 1) := by decide +kernel
theorem dX7_ofDevice_80 : decode cX7_ofDevice 80 = .ok (.aload_n 3, 1) := by decide +kernel
theorem dX7_ofDevice_81 : decode cX7_ofDevice 81 = .ok (.getfield 143, 3) := by decide +kernel
theorem dX7_ofDevice_84 : decode cX7_ofDevice 84 = .ok (.ireturn, 1) := by decide +kernel
theorem dX7_ofDevice_85 : decode cX7_ofDevice 85 = .ok (.aload_n 3, 1) := by decide +kernel
theorem dX7_ofDevice_86 : decode cX7_ofDevice 86 = .ok (.getfield 129, 3) := by decide +kernel
theorem dX7_ofDevice_89 : decode cX7_ofDevice 89 = .ok (.ifCond .ne 10, 3) := by decide +kernel
theorem dX7_ofDevice_92 : decode cX7_ofDevice 92 = .ok (.aload_n 3, 1) := by decide +kernel
theorem dX7_ofDevice_93 : decode cX7_ofDevice 93 = .ok (.getfield 146, 3) := by decide +kernel
theorem dX7_ofDevice_96 : decode cX7_ofDevice 96 = .ok (.goto 7, 3) := by decide +kernel
theorem dX7_ofDevice_99 : decode cX7_ofDevice 99 = .ok (.aload_n 3, 1) := by decide +kernel
theorem dX7_ofDevice_100 : decode cX7_ofDevice 100 = .ok (.getfield 149, 3) := by decide +kernel
theorem dX7_ofDevice_103 : decode cX7_ofDevice 103 = .ok (.ireturn, 1) := by decide +kernel
theorem dX7_ofDevice_104 : decode cX7_ofDevice 104 = .ok (.aload_n 3, 1) := by decide +kernel
theorem dX7_ofDevice_105 : decode cX7_ofDevice 105 = .ok (.getfield 152, 3) := by decide +kernel
theorem dX7_ofDevice_108 : decode cX7_ofDevice 108 = .ok (.ireturn, 1) := by decide +kernel
theorem dX7_ofDevice_109 : decode cX7_ofDevice 109 = .ok (.bipush (-2), 2) := by decide +kernel
theorem dX7_ofDevice_111 : decode cX7_ofDevice 111 = .ok (.ireturn, 1) := by decide +kernel
theorem dX7_noted_0 : decode cX7_noted 0 = .ok (.aload_n 0, 1) := by decide +kernel
theorem dX7_noted_1 : decode cX7_noted 1 = .ok (.getfield 10, 3) := by decide +kernel
theorem dX7_noted_4 : decode cX7_noted 4 = .ok (.iload_n 1, 1) := by decide +kernel
theorem dX7_noted_5 : decode cX7_noted 5 = .ok (.invokevirtual 125, 3) := by decide +kernel
theorem dX7_noted_8 : decode cX7_noted 8 = .ok (.astore_n 3, 1) := by decide +kernel
theorem dX7_noted_9 : decode cX7_noted 9 = .ok (.aload_n 3, 1) := by decide +kernel
theorem dX7_noted_10 : decode cX7_noted 10 = .ok (.ifnull 11, 3) := by decide +kernel
theorem dX7_noted_13 : decode cX7_noted 13 = .ok (.aload_n 3, 1) := by decide +kernel
theorem dX7_noted_14 : decode cX7_noted 14 = .ok (.getfield 129, 3) := by decide +kernel
theorem dX7_noted_17 : decode cX7_noted 17 = .ok (.iconst 1, 1) := by decide +kernel
theorem dX7_noted_18 : decode cX7_noted 18 = .ok (.if_icmp .eq 5, 3) := by decide +kernel
theorem dX7_noted_21 : decode cX7_noted 21 = .ok (.iconst (-1), 1) := by decide +kernel
theorem dX7_noted_22 : decode cX7_noted 22 = .ok (.ireturn, 1) := by decide +kernel
theorem dX7_noted_23 : decode cX7_noted 23 = .ok (.aload_n 3, 1) := by decide +kernel
theorem dX7_noted_24 : decode cX7_noted 24 = .ok (.iload_n 2, 1) := by decide +kernel
theorem dX7_noted_25 : decode cX7_noted 25 = .ok (.invokevirtual 155, 3) := by decide +kernel
theorem dX7_noted_28 : decode cX7_noted 28 = .ok (.ireturn, 1) := by decide +kernel
theorem dX7_ofJoin_0 : decode cX7_ofJoin 0 = .ok (.aload_n 0, 1) := by decide +kernel
theorem dX7_ofJoin_1 : decode cX7_ofJoin 1 = .ok (.getfield 10, 3) := by decide +kernel
theorem dX7_ofJoin_4 : decode cX7_ofJoin 4 = .ok (.iload_n 1, 1) := by decide +kernel
theorem dX7_ofJoin_5 : decode cX7_ofJoin 5 = .ok (.invokevirtual 158, 3) := by decide +kernel
theorem dX7_ofJoin_8 : decode cX7_ofJoin 8 = .ok (.astore_n 3, 1) := by decide +kernel
theorem dX7_ofJoin_9 : decode cX7_ofJoin 9 = .ok (.aload_n 3, 1) := by decide +kernel
theorem dX7_ofJoin_10 : decode cX7_ofJoin 10 = .ok (.ifnonnull 5, 3) := by decide +kernel
theorem dX7_ofJoin_13 : decode cX7_ofJoin 13 = .ok (.iconst (-1), 1) := by decide +kernel
theorem dX7_ofJoin_14 : decode cX7_ofJoin 14 = .ok (.ireturn, 1) := by decide +kernel
theorem dX7_ofJoin_15 : decode cX7_ofJoin 15 = .ok (.iload_n 2, 1) := by decide +kernel
theorem dX7_ofJoin_16 : decode cX7_ofJoin 16 = .ok (.tableswitch 70 0 5 #[40, 45, 50, 55, 60, 65], 40) := by decide +kernel
theorem dX7_ofJoin_56 : decode cX7_ofJoin 56 = .ok (.aload_n 3, 1) := by decide +kernel
theorem dX7_ofJoin_57 : decode cX7_ofJoin 57 = .ok (.getfield 162, 3) := by decide +kernel
theorem dX7_ofJoin_60 : decode cX7_ofJoin 60 = .ok (.ireturn, 1) := by decide +kernel
theorem dX7_ofJoin_61 : decode cX7_ofJoin 61 = .ok (.aload_n 3, 1) := by decide +kernel
theorem dX7_ofJoin_62 : decode cX7_ofJoin 62 = .ok (.getfield 167, 3) := by decide +kernel
theorem dX7_ofJoin_65 : decode cX7_ofJoin 65 = .ok (.ireturn, 1) := by decide +kernel
theorem dX7_ofJoin_66 : decode cX7_ofJoin 66 = .ok (.aload_n 3, 1) := by decide +kernel
theorem dX7_ofJoin_67 : decode cX7_ofJoin 67 = .ok (.getfield 170, 3) := by decide +kernel
theorem dX7_ofJoin_70 : decode cX7_ofJoin 70 = .ok (.ireturn, 1) := by decide +kernel
theorem dX7_ofJoin_71 : decode cX7_ofJoin 71 = .ok (.aload_n 3, 1) := by decide +kernel
theorem dX7_ofJoin_72 : decode cX7_ofJoin 72 = .ok (.getfield 173, 3) := by decide +kernel
theorem dX7_ofJoin_75 : decode cX7_ofJoin 75 = .ok (.ireturn, 1) := by decide +kernel
theorem dX7_ofJoin_76 : decode cX7_ofJoin 76 = .ok (.aload_n 3, 1) := by decide +kernel
theorem dX7_ofJoin_77 : decode cX7_ofJoin 77 = .ok (.getfield 176, 3) := by decide +kernel
theorem dX7_ofJoin_80 : decode cX7_ofJoin 80 = .ok (.ireturn, 1) := by decide +kernel
theorem dX7_ofJoin_81 : decode cX7_ofJoin 81 = .ok (.aload_n 3, 1) := by decide +kernel
theorem dX7_ofJoin_82 : decode cX7_ofJoin 82 = .ok (.getfield 179, 3) := by decide +kernel
theorem dX7_ofJoin_85 : decode cX7_ofJoin 85 = .ok (.ireturn, 1) := by decide +kernel
theorem dX7_ofJoin_86 : decode cX7_ofJoin 86 = .ok (.bipush (-2), 2) := by decide +kernel
theorem dX7_ofJoin_88 : decode cX7_ofJoin 88 = .ok (.ireturn, 1) := by decide +kernel
theorem dX7_find_0 : decode cX7_find 0 = .ok (.iload_n 1, 1) := by decide +kernel
theorem dX7_find_1 : decode cX7_find 1 = .ok (.invokestatic 182, 3) := by decide +kernel
theorem dX7_find_4 : decode cX7_find 4 = .ok (.ifCond .eq 12, 3) := by decide +kernel
theorem dX7_find_7 : decode cX7_find 7 = .ok (.iload_n 2, 1) := by decide +kernel
theorem dX7_find_8 : decode cX7_find 8 = .ok (.iconst 0, 1) := by decide +kernel
theorem dX7_find_9 : decode cX7_find 9 = .ok (.iconst 2, 1) := by decide +kernel
theorem dX7_find_10 : decode cX7_find 10 = .ok (.invokestatic 186, 3) := by decide +kernel
theorem dX7_find_13 : decode cX7_find 13 = .ok (.ifCond .ne 6, 3) := by decide +kernel
theorem dX7_find_16 : decode cX7_find 16 = .ok (.bipush (-2), 2) := by decide +kernel
theorem dX7_find_18 : decode cX7_find 18 = .ok (.ireturn, 1) := by decide +kernel
theorem dX7_find_19 : decode cX7_find 19 = .ok (.bipush (-6), 2) := by decide +kernel
theorem dX7_find_21 : decode cX7_find 21 = .ok (.istore_n 3, 1) := by decide +kernel
theorem dX7_find_22 : decode cX7_find 22 = .ok (.bipush (-6), 2) := by decide +kernel
theorem dX7_find_24 : decode cX7_find 24 = .ok (.istore 4, 2) := by decide +kernel
theorem dX7_find_26 : decode cX7_find 26 = .ok (.iconst 0, 1) := by decide +kernel
theorem dX7_find_27 : decode cX7_find 27 = .ok (.istore 5, 2) := by decide +kernel
theorem dX7_find_29 : decode cX7_find 29 = .ok (.iconst 0, 1) := by decide +kernel
theorem dX7_find_30 : decode cX7_find 30 = .ok (.istore 6, 2) := by decide +kernel
theorem dX7_find_32 : decode cX7_find 32 = .ok (.iload 6, 2) := by decide +kernel
theorem dX7_find_34 : decode cX7_find 34 = .ok (.aload_n 0, 1) := by decide +kernel
theorem dX7_find_35 : decode cX7_find 35 = .ok (.getfield 10, 3) := by decide +kernel
theorem dX7_find_38 : decode cX7_find 38 = .ok (.getfield 190, 3) := by decide +kernel
theorem dX7_find_41 : decode cX7_find 41 = .ok (.if_icmp .ge 76, 3) := by decide +kernel
theorem dX7_find_44 : decode cX7_find 44 = .ok (.aload_n 0, 1) := by decide +kernel
theorem dX7_find_45 : decode cX7_find 45 = .ok (.getfield 10, 3) := by decide +kernel
theorem dX7_find_48 : decode cX7_find 48 = .ok (.iload 6, 2) := by decide +kernel
theorem dX7_find_50 : decode cX7_find 50 = .ok (.invokevirtual 108, 3) := by decide +kernel
theorem dX7_find_53 : decode cX7_find 53 = .ok (.astore 7, 2) := by decide +kernel
theorem dX7_find_55 : decode cX7_find 55 = .ok (.aload 7, 2) := by decide +kernel
theorem dX7_find_57 : decode cX7_find 57 = .ok (.ifnonnull 6, 3) := by decide +kernel
theorem dX7_find_60 : decode cX7_find 60 = .ok (.goto 51, 3) := by decide +kernel
theorem dX7_find_63 : decode cX7_find 63 = .ok (.iconst 0, 1) := by decide +kernel
theorem dX7_find_64 : decode cX7_find 64 = .ok (.istore 8, 2) := by decide +kernel
theorem dX7_find_66 : decode cX7_find 66 = .ok (.iload 8, 2) := by decide +kernel
theorem dX7_find_68 : decode cX7_find 68 = .ok (.aload 7, 2) := by decide +kernel
theorem dX7_find_70 : decode cX7_find 70 = .ok (.getfield 105, 3) := by decide +kernel
theorem dX7_find_73 : decode cX7_find 73 = .ok (.if_icmp .ge 38, 3) := by decide +kernel
theorem dX7_find_76 : decode cX7_find 76 = .ok (.aload 7, 2) := by decide +kernel
theorem dX7_find_78 : decode cX7_find 78 = .ok (.iload 8, 2) := by decide +kernel
theorem dX7_find_80 : decode cX7_find 80 = .ok (.invokevirtual 90, 3) := by decide +kernel
theorem dX7_find_83 : decode cX7_find 83 = .ok (.iload_n 1, 1) := by decide +kernel
theorem dX7_find_84 : decode cX7_find 84 = .ok (.if_icmp .eq 6, 3) := by decide +kernel
theorem dX7_find_87 : decode cX7_find 87 = .ok (.goto 18, 3) := by decide +kernel
theorem dX7_find_90 : decode cX7_find 90 = .ok (.iload 5, 2) := by decide +kernel
theorem dX7_find_92 : decode cX7_find 92 = .ok (.ifCond .ne 10, 3) := by decide +kernel
theorem dX7_find_95 : decode cX7_find 95 = .ok (.iload 6, 2) := by decide +kernel
theorem dX7_find_97 : decode cX7_find 97 = .ok (.istore_n 3, 1) := by decide +kernel
theorem dX7_find_98 : decode cX7_find 98 = .ok (.iload 8, 2) := by decide +kernel
theorem dX7_find_100 : decode cX7_find 100 = .ok (.istore 4, 2) := by decide +kernel
theorem dX7_find_102 : decode cX7_find 102 = .ok (.iinc 5 1, 3) := by decide +kernel
theorem dX7_find_105 : decode cX7_find 105 = .ok (.iinc 8 1, 3) := by decide +kernel
theorem dX7_find_108 : decode cX7_find 108 = .ok (.goto (-42), 3) := by decide +kernel
theorem dX7_find_111 : decode cX7_find 111 = .ok (.iinc 6 1, 3) := by decide +kernel
theorem dX7_find_114 : decode cX7_find 114 = .ok (.goto (-82), 3) := by decide +kernel
theorem dX7_find_117 : decode cX7_find 117 = .ok (.iload 5, 2) := by decide +kernel
theorem dX7_find_119 : decode cX7_find 119 = .ok (.ifCond .ne 6, 3) := by decide +kernel
theorem dX7_find_122 : decode cX7_find 122 = .ok (.bipush (-6), 2) := by decide +kernel
theorem dX7_find_124 : decode cX7_find 124 = .ok (.ireturn, 1) := by decide +kernel
theorem dX7_find_125 : decode cX7_find 125 = .ok (.iload_n 2, 1) := by decide +kernel
theorem dX7_find_126 : decode cX7_find 126 = .ok (.ifCond .ne 7, 3) := by decide +kernel
theorem dX7_find_129 : decode cX7_find 129 = .ok (.iload_n 3, 1) := by decide +kernel
theorem dX7_find_130 : decode cX7_find 130 = .ok (.goto 15, 3) := by decide +kernel
theorem dX7_find_133 : decode cX7_find 133 = .ok (.iload_n 2, 1) := by decide +kernel
theorem dX7_find_134 : decode cX7_find 134 = .ok (.iconst 1, 1) := by decide +kernel
theorem dX7_find_135 : decode cX7_find 135 = .ok (.if_icmp .ne 8, 3) := by decide +kernel
theorem dX7_find_138 : decode cX7_find 138 = .ok (.iload 4, 2) := by decide +kernel
theorem dX7_find_140 : decode cX7_find 140 = .ok (.goto 5, 3) := by decide +kernel
theorem dX7_find_143 : decode cX7_find 143 = .ok (.iload 5, 2) := by decide +kernel
theorem dX7_find_145 : decode cX7_find 145 = .ok (.ireturn, 1) := by decide +kernel
theorem dX7_count_0 : decode cX7_count 0 = .ok (.iload_n 1, 1) := by decide +kernel
theorem dX7_count_1 : decode cX7_count 1 = .ok (.tableswitch 190 0 13 #[71, 79, 87, 95, 103, 111, 120, 129, 138, 147, 156, 165, 174, 182], 71) := by decide +kernel
theorem dX7_count_72 : decode cX7_count 72 = .ok (.aload_n 0, 1) := by decide +kernel
theorem dX7_count_73 : decode cX7_count 73 = .ok (.getfield 10, 3) := by decide +kernel
theorem dX7_count_76 : decode cX7_count 76 = .ok (.getfield 98, 3) := by decide +kernel
theorem dX7_count_79 : decode cX7_count 79 = .ok (.ireturn, 1) := by decide +kernel
theorem dX7_count_80 : decode cX7_count 80 = .ok (.aload_n 0, 1) := by decide +kernel
theorem dX7_count_81 : decode cX7_count 81 = .ok (.getfield 10, 3) := by decide +kernel
theorem dX7_count_84 : decode cX7_count 84 = .ok (.getfield 190, 3) := by decide +kernel
theorem dX7_count_87 : decode cX7_count 87 = .ok (.ireturn, 1) := by decide +kernel
theorem dX7_count_88 : decode cX7_count 88 = .ok (.aload_n 0, 1) := by decide +kernel
theorem dX7_count_89 : decode cX7_count 89 = .ok (.getfield 10, 3) := by decide +kernel
theorem dX7_count_92 : decode cX7_count 92 = .ok (.getfield 193, 3) := by decide +kernel
theorem dX7_count_95 : decode cX7_count 95 = .ok (.ireturn, 1) := by decide +kernel
theorem dX7_count_96 : decode cX7_count 96 = .ok (.aload_n 0, 1) := by decide +kernel
theorem dX7_count_97 : decode cX7_count 97 = .ok (.getfield 10, 3) := by decide +kernel
theorem dX7_count_100 : decode cX7_count 100 = .ok (.getfield 196, 3) := by decide +kernel
theorem dX7_count_103 : decode cX7_count 103 = .ok (.ireturn, 1) := by decide +kernel
theorem dX7_count_104 : decode cX7_count 104 = .ok (.aload_n 0, 1) := by decide +kernel
theorem dX7_count_105 : decode cX7_count 105 = .ok (.getfield 10, 3) := by decide +kernel
theorem dX7_count_108 : decode cX7_count 108 = .ok (.invokevirtual 199, 3) := by decide +kernel
theorem dX7_count_111 : decode cX7_count 111 = .ok (.ireturn, 1) := by decide +kernel
theorem dX7_count_112 : decode cX7_count 112 = .ok (.aload_n 0, 1) := by decide +kernel
theorem dX7_count_113 : decode cX7_count 113 = .ok (.getfield 10, 3) := by decide +kernel
theorem dX7_count_116 : decode cX7_count 116 = .ok (.iconst 0, 1) := by decide +kernel
theorem dX7_count_117 : decode cX7_count 117 = .ok (.invokevirtual 202, 3) := by decide +kernel
theorem dX7_count_120 : decode cX7_count 120 = .ok (.ireturn, 1) := by decide +kernel
theorem dX7_count_121 : decode cX7_count 121 = .ok (.aload_n 0, 1) := by decide +kernel
theorem dX7_count_122 : decode cX7_count 122 = .ok (.getfield 10, 3) := by decide +kernel
theorem dX7_count_125 : decode cX7_count 125 = .ok (.iconst 1, 1) := by decide +kernel
theorem dX7_count_126 : decode cX7_count 126 = .ok (.invokevirtual 202, 3) := by decide +kernel
theorem dX7_count_129 : decode cX7_count 129 = .ok (.ireturn, 1) := by decide +kernel
theorem dX7_count_130 : decode cX7_count 130 = .ok (.aload_n 0, 1) := by decide +kernel
theorem dX7_count_131 : decode cX7_count 131 = .ok (.getfield 10, 3) := by decide +kernel
theorem dX7_count_134 : decode cX7_count 134 = .ok (.iconst 2, 1) := by decide +kernel
theorem dX7_count_135 : decode cX7_count 135 = .ok (.invokevirtual 202, 3) := by decide +kernel
theorem dX7_count_138 : decode cX7_count 138 = .ok (.ireturn, 1) := by decide +kernel
theorem dX7_count_139 : decode cX7_count 139 = .ok (.aload_n 0, 1) := by decide +kernel
theorem dX7_count_140 : decode cX7_count 140 = .ok (.getfield 10, 3) := by decide +kernel
theorem dX7_count_143 : decode cX7_count 143 = .ok (.iconst 0, 1) := by decide +kernel
theorem dX7_count_144 : decode cX7_count 144 = .ok (.invokevirtual 205, 3) := by decide +kernel
theorem dX7_count_147 : decode cX7_count 147 = .ok (.ireturn, 1) := by decide +kernel
theorem dX7_count_148 : decode cX7_count 148 = .ok (.aload_n 0, 1) := by decide +kernel
theorem dX7_count_149 : decode cX7_count 149 = .ok (.getfield 10, 3) := by decide +kernel
theorem dX7_count_152 : decode cX7_count 152 = .ok (.iconst 1, 1) := by decide +kernel
theorem dX7_count_153 : decode cX7_count 153 = .ok (.invokevirtual 205, 3) := by decide +kernel
theorem dX7_count_156 : decode cX7_count 156 = .ok (.ireturn, 1) := by decide +kernel
theorem dX7_count_157 : decode cX7_count 157 = .ok (.aload_n 0, 1) := by decide +kernel
theorem dX7_count_158 : decode cX7_count 158 = .ok (.getfield 10, 3) := by decide +kernel
theorem dX7_count_161 : decode cX7_count 161 = .ok (.iconst 2, 1) := by decide +kernel
theorem dX7_count_162 : decode cX7_count 162 = .ok (.invokevirtual 205, 3) := by decide +kernel
theorem dX7_count_165 : decode cX7_count 165 = .ok (.ireturn, 1) := by decide +kernel
theorem dX7_count_166 : decode cX7_count 166 = .ok (.aload_n 0, 1) := by decide +kernel
theorem dX7_count_167 : decode cX7_count 167 = .ok (.getfield 10, 3) := by decide +kernel
theorem dX7_count_170 : decode cX7_count 170 = .ok (.iconst 3, 1) := by decide +kernel
theorem dX7_count_171 : decode cX7_count 171 = .ok (.invokevirtual 205, 3) := by decide +kernel
theorem dX7_count_174 : decode cX7_count 174 = .ok (.ireturn, 1) := by decide +kernel
theorem dX7_count_175 : decode cX7_count 175 = .ok (.aload_n 0, 1) := by decide +kernel
theorem dX7_count_176 : decode cX7_count 176 = .ok (.getfield 37, 3) := by decide +kernel
theorem dX7_count_179 : decode cX7_count 179 = .ok (.getfield 208, 3) := by decide +kernel
theorem dX7_count_182 : decode cX7_count 182 = .ok (.ireturn, 1) := by decide +kernel
theorem dX7_count_183 : decode cX7_count 183 = .ok (.aload_n 0, 1) := by decide +kernel
theorem dX7_count_184 : decode cX7_count 184 = .ok (.getfield 22, 3) := by decide +kernel
theorem dX7_count_187 : decode cX7_count 187 = .ok (.getfield 211, 3) := by decide +kernel
theorem dX7_count_190 : decode cX7_count 190 = .ok (.ireturn, 1) := by decide +kernel
theorem dX7_count_191 : decode cX7_count 191 = .ok (.bipush (-2), 2) := by decide +kernel
theorem dX7_count_193 : decode cX7_count 193 = .ok (.ireturn, 1) := by decide +kernel
theorem dX7_valueIn_0 : decode cX7_valueIn 0 = .ok (.aload_n 0, 1) := by decide +kernel
theorem dX7_valueIn_1 : decode cX7_valueIn 1 = .ok (.getfield 10, 3) := by decide +kernel
theorem dX7_valueIn_4 : decode cX7_valueIn 4 = .ok (.iload_n 1, 1) := by decide +kernel
theorem dX7_valueIn_5 : decode cX7_valueIn 5 = .ok (.iload_n 2, 1) := by decide +kernel
theorem dX7_valueIn_6 : decode cX7_valueIn 6 = .ok (.invokevirtual 86, 3) := by decide +kernel
theorem dX7_valueIn_9 : decode cX7_valueIn 9 = .ok (.ifnonnull 5, 3) := by decide +kernel
theorem dX7_valueIn_12 : decode cX7_valueIn 12 = .ok (.iconst (-1), 1) := by decide +kernel
theorem dX7_valueIn_13 : decode cX7_valueIn 13 = .ok (.ireturn, 1) := by decide +kernel
theorem dX7_valueIn_14 : decode cX7_valueIn 14 = .ok (.iload_n 3, 1) := by decide +kernel
theorem dX7_valueIn_15 : decode cX7_valueIn 15 = .ok (.iconst 1, 1) := by decide +kernel
theorem dX7_valueIn_16 : decode cX7_valueIn 16 = .ok (.sipush 200, 3) := by decide +kernel
theorem dX7_valueIn_19 : decode cX7_valueIn 19 = .ok (.invokestatic 186, 3) := by decide +kernel
theorem dX7_valueIn_22 : decode cX7_valueIn 22 = .ok (.ifCond .ne 6, 3) := by decide +kernel
theorem dX7_valueIn_25 : decode cX7_valueIn 25 = .ok (.bipush (-2), 2) := by decide +kernel
theorem dX7_valueIn_27 : decode cX7_valueIn 27 = .ok (.ireturn, 1) := by decide +kernel
theorem dX7_valueIn_28 : decode cX7_valueIn 28 = .ok (.aload_n 0, 1) := by decide +kernel
theorem dX7_valueIn_29 : decode cX7_valueIn 29 = .ok (.getfield 16, 3) := by decide +kernel
theorem dX7_valueIn_32 : decode cX7_valueIn 32 = .ok (.aload_n 0, 1) := by decide +kernel
theorem dX7_valueIn_33 : decode cX7_valueIn 33 = .ok (.getfield 10, 3) := by decide +kernel
theorem dX7_valueIn_36 : decode cX7_valueIn 36 = .ok (.invokevirtual 214, 3) := by decide +kernel
theorem dX7_valueIn_39 : decode cX7_valueIn 39 = .ok (.aload_n 0, 1) := by decide +kernel
theorem dX7_valueIn_40 : decode cX7_valueIn 40 = .ok (.getfield 16, 3) := by decide +kernel
theorem dX7_valueIn_43 : decode cX7_valueIn 43 = .ok (.iload_n 3, 1) := by decide +kernel
theorem dX7_valueIn_44 : decode cX7_valueIn 44 = .ok (.invokevirtual 83, 3) := by decide +kernel
theorem dX7_valueIn_47 : decode cX7_valueIn 47 = .ok (.pop, 1) := by decide +kernel
theorem dX7_valueIn_48 : decode cX7_valueIn 48 = .ok (.aload_n 0, 1) := by decide +kernel
theorem dX7_valueIn_49 : decode cX7_valueIn 49 = .ok (.getfield 16, 3) := by decide +kernel
theorem dX7_valueIn_52 : decode cX7_valueIn 52 = .ok (.iload_n 1, 1) := by decide +kernel
theorem dX7_valueIn_53 : decode cX7_valueIn 53 = .ok (.invokevirtual 108, 3) := by decide +kernel
theorem dX7_valueIn_56 : decode cX7_valueIn 56 = .ok (.astore 4, 2) := by decide +kernel
theorem dX7_valueIn_58 : decode cX7_valueIn 58 = .ok (.aload 4, 2) := by decide +kernel
theorem dX7_valueIn_60 : decode cX7_valueIn 60 = .ok (.ifnonnull 8, 3) := by decide +kernel
theorem dX7_valueIn_63 : decode cX7_valueIn 63 = .ok (.bipush (-6), 2) := by decide +kernel
theorem dX7_valueIn_65 : decode cX7_valueIn 65 = .ok (.goto 9, 3) := by decide +kernel
theorem dX7_valueIn_68 : decode cX7_valueIn 68 = .ok (.aload 4, 2) := by decide +kernel
theorem dX7_valueIn_70 : decode cX7_valueIn 70 = .ok (.iload_n 2, 1) := by decide +kernel
theorem dX7_valueIn_71 : decode cX7_valueIn 71 = .ok (.invokevirtual 90, 3) := by decide +kernel
theorem dX7_valueIn_74 : decode cX7_valueIn 74 = .ok (.ireturn, 1) := by decide +kernel
theorem dX7_leftIn_0 : decode cX7_leftIn 0 = .ok (.iload_n 1, 1) := by decide +kernel
theorem dX7_leftIn_1 : decode cX7_leftIn 1 = .ok (.iconst 1, 1) := by decide +kernel
theorem dX7_leftIn_2 : decode cX7_leftIn 2 = .ok (.sipush 200, 3) := by decide +kernel
theorem dX7_leftIn_5 : decode cX7_leftIn 5 = .ok (.invokestatic 186, 3) := by decide +kernel
theorem dX7_leftIn_8 : decode cX7_leftIn 8 = .ok (.ifCond .ne 6, 3) := by decide +kernel
theorem dX7_leftIn_11 : decode cX7_leftIn 11 = .ok (.bipush (-2), 2) := by decide +kernel
theorem dX7_leftIn_13 : decode cX7_leftIn 13 = .ok (.ireturn, 1) := by decide +kernel
theorem dX7_leftIn_14 : decode cX7_leftIn 14 = .ok (.aload_n 0, 1) := by decide +kernel
theorem dX7_leftIn_15 : decode cX7_leftIn 15 = .ok (.getfield 16, 3) := by decide +kernel
theorem dX7_leftIn_18 : decode cX7_leftIn 18 = .ok (.aload_n 0, 1) := by decide +kernel
theorem dX7_leftIn_19 : decode cX7_leftIn 19 = .ok (.getfield 10, 3) := by decide +kernel
theorem dX7_leftIn_22 : decode cX7_leftIn 22 = .ok (.invokevirtual 214, 3) := by decide +kernel
theorem dX7_leftIn_25 : decode cX7_leftIn 25 = .ok (.aload_n 0, 1) := by decide +kernel
theorem dX7_leftIn_26 : decode cX7_leftIn 26 = .ok (.getfield 16, 3) := by decide +kernel
theorem dX7_leftIn_29 : decode cX7_leftIn 29 = .ok (.iload_n 1, 1) := by decide +kernel
theorem dX7_leftIn_30 : decode cX7_leftIn 30 = .ok (.invokevirtual 83, 3) := by decide +kernel
theorem dX7_leftIn_33 : decode cX7_leftIn 33 = .ok (.pop, 1) := by decide +kernel
theorem dX7_leftIn_34 : decode cX7_leftIn 34 = .ok (.aload_n 0, 1) := by decide +kernel
theorem dX7_leftIn_35 : decode cX7_leftIn 35 = .ok (.getfield 16, 3) := by decide +kernel
theorem dX7_leftIn_38 : decode cX7_leftIn 38 = .ok (.invokevirtual 199, 3) := by decide +kernel
theorem dX7_leftIn_41 : decode cX7_leftIn 41 = .ok (.ireturn, 1) := by decide +kernel
theorem dX7_firstLoss_0 : decode cX7_firstLoss 0 = .ok (.aload_n 0, 1) := by decide +kernel
theorem dX7_firstLoss_1 : decode cX7_firstLoss 1 = .ok (.getfield 16, 3) := by decide +kernel
theorem dX7_firstLoss_4 : decode cX7_firstLoss 4 = .ok (.aload_n 0, 1) := by decide +kernel
theorem dX7_firstLoss_5 : decode cX7_firstLoss 5 = .ok (.getfield 10, 3) := by decide +kernel
theorem dX7_firstLoss_8 : decode cX7_firstLoss 8 = .ok (.invokevirtual 214, 3) := by decide +kernel
theorem dX7_firstLoss_11 : decode cX7_firstLoss 11 = .ok (.aload_n 0, 1) := by decide +kernel
theorem dX7_firstLoss_12 : decode cX7_firstLoss 12 = .ok (.getfield 16, 3) := by decide +kernel
theorem dX7_firstLoss_15 : decode cX7_firstLoss 15 = .ok (.sipush 300, 3) := by decide +kernel
theorem dX7_firstLoss_18 : decode cX7_firstLoss 18 = .ok (.invokevirtual 217, 3) := by decide +kernel
theorem dX7_firstLoss_21 : decode cX7_firstLoss 21 = .ok (.ireturn, 1) := by decide +kernel
theorem dX7_bestPlace_0 : decode cX7_bestPlace 0 = .ok (.aload_n 0, 1) := by decide +kernel
theorem dX7_bestPlace_1 : decode cX7_bestPlace 1 = .ok (.getfield 10, 3) := by decide +kernel
theorem dX7_bestPlace_4 : decode cX7_bestPlace 4 = .ok (.iload_n 1, 1) := by decide +kernel
theorem dX7_bestPlace_5 : decode cX7_bestPlace 5 = .ok (.invokevirtual 108, 3) := by decide +kernel
theorem dX7_bestPlace_8 : decode cX7_bestPlace 8 = .ok (.astore 5, 2) := by decide +kernel
theorem dX7_bestPlace_10 : decode cX7_bestPlace 10 = .ok (.aload 5, 2) := by decide +kernel
theorem dX7_bestPlace_12 : decode cX7_bestPlace 12 = .ok (.ifnonnull 5, 3) := by decide +kernel
theorem dX7_bestPlace_15 : decode cX7_bestPlace 15 = .ok (.iconst (-1), 1) := by decide +kernel
theorem dX7_bestPlace_16 : decode cX7_bestPlace 16 = .ok (.ireturn, 1) := by decide +kernel
theorem dX7_bestPlace_17 : decode cX7_bestPlace 17 = .ok (.iconst 0, 1) := by decide +kernel
theorem dX7_bestPlace_18 : decode cX7_bestPlace 18 = .ok (.iload_n 2, 1) := by decide +kernel
theorem dX7_bestPlace_19 : decode cX7_bestPlace 19 = .ok (.iload_n 3, 1) := by decide +kernel
theorem dX7_bestPlace_20 : decode cX7_bestPlace 20 = .ok (.invokestatic 220, 3) := by decide +kernel
theorem dX7_bestPlace_23 : decode cX7_bestPlace 23 = .ok (.ifCond .eq 13, 3) := by decide +kernel
theorem dX7_bestPlace_26 : decode cX7_bestPlace 26 = .ok (.iload 4, 2) := by decide +kernel
theorem dX7_bestPlace_28 : decode cX7_bestPlace 28 = .ok (.iconst 0, 1) := by decide +kernel
theorem dX7_bestPlace_29 : decode cX7_bestPlace 29 = .ok (.iconst 1, 1) := by decide +kernel
theorem dX7_bestPlace_30 : decode cX7_bestPlace 30 = .ok (.invokestatic 186, 3) := by decide +kernel
theorem dX7_bestPlace_33 : decode cX7_bestPlace 33 = .ok (.ifCond .ne 6, 3) := by decide +kernel
theorem dX7_bestPlace_36 : decode cX7_bestPlace 36 = .ok (.bipush (-2), 2) := by decide +kernel
theorem dX7_bestPlace_38 : decode cX7_bestPlace 38 = .ok (.ireturn, 1) := by decide +kernel
theorem dX7_bestPlace_39 : decode cX7_bestPlace 39 = .ok (.aload_n 0, 1) := by decide +kernel
theorem dX7_bestPlace_40 : decode cX7_bestPlace 40 = .ok (.getfield 10, 3) := by decide +kernel
theorem dX7_bestPlace_43 : decode cX7_bestPlace 43 = .ok (.getfield 193, 3) := by decide +kernel
theorem dX7_bestPlace_46 : decode cX7_bestPlace 46 = .ok (.bipush 12, 2) := by decide +kernel
theorem dX7_bestPlace_48 : decode cX7_bestPlace 48 = .ok (.if_icmp .lt 6, 3) := by decide +kernel
theorem dX7_bestPlace_51 : decode cX7_bestPlace 51 = .ok (.bipush (-4), 2) := by decide +kernel
theorem dX7_bestPlace_53 : decode cX7_bestPlace 53 = .ok (.ireturn, 1) := by decide +kernel
theorem dX7_bestPlace_54 : decode cX7_bestPlace 54 = .ok (.iconst 0, 1) := by decide +kernel
theorem dX7_bestPlace_55 : decode cX7_bestPlace 55 = .ok (.istore 6, 2) := by decide +kernel
theorem dX7_bestPlace_57 : decode cX7_bestPlace 57 = .ok (.iconst (-1), 1) := by decide +kernel
theorem dX7_bestPlace_58 : decode cX7_bestPlace 58 = .ok (.istore 7, 2) := by decide +kernel
theorem dX7_bestPlace_60 : decode cX7_bestPlace 60 = .ok (.iconst 0, 1) := by decide +kernel
theorem dX7_bestPlace_61 : decode cX7_bestPlace 61 = .ok (.istore 8, 2) := by decide +kernel
theorem dX7_bestPlace_63 : decode cX7_bestPlace 63 = .ok (.iload 8, 2) := by decide +kernel
theorem dX7_bestPlace_65 : decode cX7_bestPlace 65 = .ok (.aload 5, 2) := by decide +kernel
theorem dX7_bestPlace_67 : decode cX7_bestPlace 67 = .ok (.getfield 105, 3) := by decide +kernel
theorem dX7_bestPlace_70 : decode cX7_bestPlace 70 = .ok (.if_icmp .ge 68, 3) := by decide +kernel
theorem dX7_bestPlace_73 : decode cX7_bestPlace 73 = .ok (.aload_n 0, 1) := by decide +kernel
theorem dX7_bestPlace_74 : decode cX7_bestPlace 74 = .ok (.getfield 16, 3) := by decide +kernel
theorem dX7_bestPlace_77 : decode cX7_bestPlace 77 = .ok (.aload_n 0, 1) := by decide +kernel
theorem dX7_bestPlace_78 : decode cX7_bestPlace 78 = .ok (.getfield 10, 3) := by decide +kernel
theorem dX7_bestPlace_81 : decode cX7_bestPlace 81 = .ok (.invokevirtual 214, 3) := by decide +kernel
theorem dX7_bestPlace_84 : decode cX7_bestPlace 84 = .ok (.aload_n 0, 1) := by decide +kernel
theorem dX7_bestPlace_85 : decode cX7_bestPlace 85 = .ok (.getfield 16, 3) := by decide +kernel
theorem dX7_bestPlace_88 : decode cX7_bestPlace 88 = .ok (.iload_n 1, 1) := by decide +kernel
theorem dX7_bestPlace_89 : decode cX7_bestPlace 89 = .ok (.iload 8, 2) := by decide +kernel
theorem dX7_bestPlace_91 : decode cX7_bestPlace 91 = .ok (.iconst 0, 1) := by decide +kernel
theorem dX7_bestPlace_92 : decode cX7_bestPlace 92 = .ok (.iload_n 2, 1) := by decide +kernel
theorem dX7_bestPlace_93 : decode cX7_bestPlace 93 = .ok (.iload_n 3, 1) := by decide +kernel
theorem dX7_bestPlace_94 : decode cX7_bestPlace 94 = .ok (.invokevirtual 65, 3) := by decide +kernel
theorem dX7_bestPlace_97 : decode cX7_bestPlace 97 = .ok (.pop, 1) := by decide +kernel
theorem dX7_bestPlace_98 : decode cX7_bestPlace 98 = .ok (.aload_n 0, 1) := by decide +kernel
theorem dX7_bestPlace_99 : decode cX7_bestPlace 99 = .ok (.getfield 16, 3) := by decide +kernel
theorem dX7_bestPlace_102 : decode cX7_bestPlace 102 = .ok (.bipush 100, 2) := by decide +kernel
theorem dX7_bestPlace_104 : decode cX7_bestPlace 104 = .ok (.invokevirtual 83, 3) := by decide +kernel
theorem dX7_bestPlace_107 : decode cX7_bestPlace 107 = .ok (.pop, 1) := by decide +kernel
theorem dX7_bestPlace_108 : decode cX7_bestPlace 108 = .ok (.aload_n 0, 1) := by decide +kernel
theorem dX7_bestPlace_109 : decode cX7_bestPlace 109 = .ok (.getfield 16, 3) := by decide +kernel
theorem dX7_bestPlace_112 : decode cX7_bestPlace 112 = .ok (.invokevirtual 199, 3) := by decide +kernel
theorem dX7_bestPlace_115 : decode cX7_bestPlace 115 = .ok (.istore 9, 2) := by decide +kernel
theorem dX7_bestPlace_117 : decode cX7_bestPlace 117 = .ok (.iload 9, 2) := by decide +kernel
theorem dX7_bestPlace_119 : decode cX7_bestPlace 119 = .ok (.iload 7, 2) := by decide +kernel
theorem dX7_bestPlace_121 : decode cX7_bestPlace 121 = .ok (.if_icmp .le 11, 3) := by decide +kernel
theorem dX7_bestPlace_124 : decode cX7_bestPlace 124 = .ok (.iload 9, 2) := by decide +kernel
theorem dX7_bestPlace_126 : decode cX7_bestPlace 126 = .ok (.istore 7, 2) := by decide +kernel
theorem dX7_bestPlace_128 : decode cX7_bestPlace 128 = .ok (.iload 8, 2) := by decide +kernel
theorem dX7_bestPlace_130 : decode cX7_bestPlace 130 = .ok (.istore 6, 2) := by decide +kernel
theorem dX7_bestPlace_132 : decode cX7_bestPlace 132 = .ok (.iinc 8 1, 3) := by decide +kernel
theorem dX7_bestPlace_135 : decode cX7_bestPlace 135 = .ok (.goto (-72), 3) := by decide +kernel
theorem dX7_bestPlace_138 : decode cX7_bestPlace 138 = .ok (.iload 4, 2) := by decide +kernel
theorem dX7_bestPlace_140 : decode cX7_bestPlace 140 = .ok (.ifCond .ne 8, 3) := by decide +kernel
theorem dX7_bestPlace_143 : decode cX7_bestPlace 143 = .ok (.iload 6, 2) := by decide +kernel
theorem dX7_bestPlace_145 : decode cX7_bestPlace 145 = .ok (.goto 5, 3) := by decide +kernel
theorem dX7_bestPlace_148 : decode cX7_bestPlace 148 = .ok (.iload 7, 2) := by decide +kernel
theorem dX7_bestPlace_150 : decode cX7_bestPlace 150 = .ok (.ireturn, 1) := by decide +kernel
theorem dX7_bearable_0 : decode cX7_bearable 0 = .ok (.getstatic 223, 3) := by decide +kernel
theorem dX7_bearable_3 : decode cX7_bearable 3 = .ok (.iconst 0, 1) := by decide +kernel
theorem dX7_bearable_4 : decode cX7_bearable 4 = .ok (.iaload, 1) := by decide +kernel
theorem dX7_bearable_5 : decode cX7_bearable 5 = .ok (.istore_n 1, 1) := by decide +kernel
theorem dX7_bearable_6 : decode cX7_bearable 6 = .ok (.iload_n 1, 1) := by decide +kernel
theorem dX7_bearable_7 : decode cX7_bearable 7 = .ok (.getstatic 227, 3) := by decide +kernel
theorem dX7_bearable_10 : decode cX7_bearable 10 = .ok (.iconst 0, 1) := by decide +kernel
theorem dX7_bearable_11 : decode cX7_bearable 11 = .ok (.iaload, 1) := by decide +kernel
theorem dX7_bearable_12 : decode cX7_bearable 12 = .ok (.if_icmp .lt 46, 3) := by decide +kernel
theorem dX7_bearable_15 : decode cX7_bearable 15 = .ok (.aload_n 0, 1) := by decide +kernel
theorem dX7_bearable_16 : decode cX7_bearable 16 = .ok (.getfield 16, 3) := by decide +kernel
theorem dX7_bearable_19 : decode cX7_bearable 19 = .ok (.aload_n 0, 1) := by decide +kernel
theorem dX7_bearable_20 : decode cX7_bearable 20 = .ok (.getfield 10, 3) := by decide +kernel
theorem dX7_bearable_23 : decode cX7_bearable 23 = .ok (.invokevirtual 214, 3) := by decide +kernel
theorem dX7_bearable_26 : decode cX7_bearable 26 = .ok (.aload_n 0, 1) := by decide +kernel
theorem dX7_bearable_27 : decode cX7_bearable 27 = .ok (.getfield 16, 3) := by decide +kernel
theorem dX7_bearable_30 : decode cX7_bearable 30 = .ok (.iconst 0, 1) := by decide +kernel
theorem dX7_bearable_31 : decode cX7_bearable 31 = .ok (.iload_n 1, 1) := by decide +kernel
theorem dX7_bearable_32 : decode cX7_bearable 32 = .ok (.invokevirtual 54, 3) := by decide +kernel
theorem dX7_bearable_35 : decode cX7_bearable 35 = .ok (.pop, 1) := by decide +kernel
theorem dX7_bearable_36 : decode cX7_bearable 36 = .ok (.aload_n 0, 1) := by decide +kernel
theorem dX7_bearable_37 : decode cX7_bearable 37 = .ok (.getfield 16, 3) := by decide +kernel
theorem dX7_bearable_40 : decode cX7_bearable 40 = .ok (.bipush 100, 2) := by decide +kernel
theorem dX7_bearable_42 : decode cX7_bearable 42 = .ok (.invokevirtual 217, 3) := by decide +kernel
theorem dX7_bearable_45 : decode cX7_bearable 45 = .ok (.bipush (-6), 2) := by decide +kernel
theorem dX7_bearable_47 : decode cX7_bearable 47 = .ok (.if_icmp .ne 5, 3) := by decide +kernel
theorem dX7_bearable_50 : decode cX7_bearable 50 = .ok (.iload_n 1, 1) := by decide +kernel
theorem dX7_bearable_51 : decode cX7_bearable 51 = .ok (.ireturn, 1) := by decide +kernel
theorem dX7_bearable_52 : decode cX7_bearable 52 = .ok (.iinc 1 (-1), 3) := by decide +kernel
theorem dX7_bearable_55 : decode cX7_bearable 55 = .ok (.goto (-49), 3) := by decide +kernel
theorem dX7_bearable_58 : decode cX7_bearable 58 = .ok (.bipush (-6), 2) := by decide +kernel
theorem dX7_bearable_60 : decode cX7_bearable 60 = .ok (.ireturn, 1) := by decide +kernel
theorem dX7_put_0 : decode cX7_put 0 = .ok (.lload_n 1, 1) := by decide +kernel
theorem dX7_put_1 : decode cX7_put 1 = .ok (.invokestatic 230, 3) := by decide +kernel
theorem dX7_put_4 : decode cX7_put 4 = .ok (.istore_n 3, 1) := by decide +kernel
theorem dX7_put_5 : decode cX7_put 5 = .ok (.iload_n 3, 1) := by decide +kernel
theorem dX7_put_6 : decode cX7_put 6 = .ok (.ifCond .ne 6, 3) := by decide +kernel
theorem dX7_put_9 : decode cX7_put 9 = .ok (.bipush (-2), 2) := by decide +kernel
theorem dX7_put_11 : decode cX7_put 11 = .ok (.ireturn, 1) := by decide +kernel
theorem dX7_put_12 : decode cX7_put 12 = .ok (.aload_n 0, 1) := by decide +kernel
theorem dX7_put_13 : decode cX7_put 13 = .ok (.getfield 37, 3) := by decide +kernel
theorem dX7_put_16 : decode cX7_put 16 = .ok (.getfield 208, 3) := by decide +kernel
theorem dX7_put_19 : decode cX7_put 19 = .ok (.iload_n 3, 1) := by decide +kernel
theorem dX7_put_20 : decode cX7_put 20 = .ok (.iadd, 1) := by decide +kernel
theorem dX7_put_21 : decode cX7_put 21 = .ok (.bipush 80, 2) := by decide +kernel
theorem dX7_put_23 : decode cX7_put 23 = .ok (.if_icmp .le 6, 3) := by decide +kernel
theorem dX7_put_26 : decode cX7_put 26 = .ok (.bipush (-4), 2) := by decide +kernel
theorem dX7_put_28 : decode cX7_put 28 = .ok (.ireturn, 1) := by decide +kernel
theorem dX7_put_29 : decode cX7_put 29 = .ok (.iload_n 3, 1) := by decide +kernel
theorem dX7_put_30 : decode cX7_put 30 = .ok (.iconst 1, 1) := by decide +kernel
theorem dX7_put_31 : decode cX7_put 31 = .ok (.isub, 1) := by decide +kernel
theorem dX7_put_32 : decode cX7_put 32 = .ok (.istore 4, 2) := by decide +kernel
theorem dX7_put_34 : decode cX7_put 34 = .ok (.iload 4, 2) := by decide +kernel
theorem dX7_put_36 : decode cX7_put 36 = .ok (.ifCond .lt 22, 3) := by decide +kernel
theorem dX7_put_39 : decode cX7_put 39 = .ok (.aload_n 0, 1) := by decide +kernel
theorem dX7_put_40 : decode cX7_put 40 = .ok (.getfield 37, 3) := by decide +kernel
theorem dX7_put_43 : decode cX7_put 43 = .ok (.lload_n 1, 1) := by decide +kernel
theorem dX7_put_44 : decode cX7_put 44 = .ok (.iload 4, 2) := by decide +kernel
theorem dX7_put_46 : decode cX7_put 46 = .ok (.invokestatic 234, 3) := by decide +kernel
theorem dX7_put_49 : decode cX7_put 49 = .ok (.invokevirtual 238, 3) := by decide +kernel
theorem dX7_put_52 : decode cX7_put 52 = .ok (.iinc 4 (-1), 3) := by decide +kernel
theorem dX7_put_55 : decode cX7_put 55 = .ok (.goto (-21), 3) := by decide +kernel
theorem dX7_put_58 : decode cX7_put 58 = .ok (.aload_n 0, 1) := by decide +kernel
theorem dX7_put_59 : decode cX7_put 59 = .ok (.getfield 37, 3) := by decide +kernel
theorem dX7_put_62 : decode cX7_put 62 = .ok (.getfield 208, 3) := by decide +kernel
theorem dX7_put_65 : decode cX7_put 65 = .ok (.ireturn, 1) := by decide +kernel
theorem dX7_wipe_0 : decode cX7_wipe 0 = .ok (.aload_n 0, 1) := by decide +kernel
theorem dX7_wipe_1 : decode cX7_wipe 1 = .ok (.getfield 37, 3) := by decide +kernel
theorem dX7_wipe_4 : decode cX7_wipe 4 = .ok (.getfield 208, 3) := by decide +kernel
theorem dX7_wipe_7 : decode cX7_wipe 7 = .ok (.istore_n 1, 1) := by decide +kernel
theorem dX7_wipe_8 : decode cX7_wipe 8 = .ok (.aload_n 0, 1) := by decide +kernel
theorem dX7_wipe_9 : decode cX7_wipe 9 = .ok (.getfield 37, 3) := by decide +kernel
theorem dX7_wipe_12 : decode cX7_wipe 12 = .ok (.invokevirtual 242, 3) := by decide +kernel
theorem dX7_wipe_15 : decode cX7_wipe 15 = .ok (.iload_n 1, 1) := by decide +kernel
theorem dX7_wipe_16 : decode cX7_wipe 16 = .ok (.ireturn, 1) := by decide +kernel
theorem dX7_fault_0 : decode cX7_fault 0 = .ok (.aload_n 0, 1) := by decide +kernel
theorem dX7_fault_1 : decode cX7_fault 1 = .ok (.getfield 46, 3) := by decide +kernel
theorem dX7_fault_4 : decode cX7_fault 4 = .ok (.invokevirtual 245, 3) := by decide +kernel
theorem dX7_fault_7 : decode cX7_fault 7 = .ok (.ireturn, 1) := by decide +kernel
theorem dX7_carryOut_0 : decode cX7_carryOut 0 = .ok (.aload_n 0, 1) := by decide +kernel
theorem dX7_carryOut_1 : decode cX7_carryOut 1 = .ok (.getfield 46, 3) := by decide +kernel
theorem dX7_carryOut_4 : decode cX7_carryOut 4 = .ok (.invokevirtual 245, 3) := by decide +kernel
theorem dX7_carryOut_7 : decode cX7_carryOut 7 = .ok (.bipush (-6), 2) := by decide +kernel
theorem dX7_carryOut_9 : decode cX7_carryOut 9 = .ok (.if_icmp .eq 6, 3) := by decide +kernel
theorem dX7_carryOut_12 : decode cX7_carryOut 12 = .ok (.bipush (-3), 2) := by decide +kernel
theorem dX7_carryOut_14 : decode cX7_carryOut 14 = .ok (.ireturn, 1) := by decide +kernel
theorem dX7_carryOut_15 : decode cX7_carryOut 15 = .ok (.aload_n 0, 1) := by decide +kernel
theorem dX7_carryOut_16 : decode cX7_carryOut 16 = .ok (.getfield 22, 3) := by decide +kernel
theorem dX7_carryOut_19 : decode cX7_carryOut 19 = .ok (.aload_n 0, 1) := by decide +kernel
theorem dX7_carryOut_20 : decode cX7_carryOut 20 = .ok (.getfield 10, 3) := by decide +kernel
theorem dX7_carryOut_23 : decode cX7_carryOut 23 = .ok (.invokevirtual 50, 3) := by decide +kernel
theorem dX7_carryOut_26 : decode cX7_carryOut 26 = .ok (.aload_n 0, 1) := by decide +kernel
theorem dX7_carryOut_27 : decode cX7_carryOut 27 = .ok (.getfield 46, 3) := by decide +kernel
theorem dX7_carryOut_30 : decode cX7_carryOut 30 = .ok (.invokevirtual 248, 3) := by decide +kernel
theorem dX7_carryOut_33 : decode cX7_carryOut 33 = .ok (.iconst 0, 1) := by decide +kernel
theorem dX7_carryOut_34 : decode cX7_carryOut 34 = .ok (.istore_n 1, 1) := by decide +kernel
theorem dX7_carryOut_35 : decode cX7_carryOut 35 = .ok (.iload_n 1, 1) := by decide +kernel
theorem dX7_carryOut_36 : decode cX7_carryOut 36 = .ok (.bipush 80, 2) := by decide +kernel
theorem dX7_carryOut_38 : decode cX7_carryOut 38 = .ok (.if_icmp .ge 26, 3) := by decide +kernel
theorem dX7_carryOut_41 : decode cX7_carryOut 41 = .ok (.aload_n 0, 1) := by decide +kernel
theorem dX7_carryOut_42 : decode cX7_carryOut 42 = .ok (.getfield 46, 3) := by decide +kernel
theorem dX7_carryOut_45 : decode cX7_carryOut 45 = .ok (.invokevirtual 251, 3) := by decide +kernel
theorem dX7_carryOut_48 : decode cX7_carryOut 48 = .ok (.ifCond .eq 16, 3) := by decide +kernel
theorem dX7_carryOut_51 : decode cX7_carryOut 51 = .ok (.aload_n 0, 1) := by decide +kernel
theorem dX7_carryOut_52 : decode cX7_carryOut 52 = .ok (.invokevirtual 255, 3) := by decide +kernel
theorem dX7_carryOut_55 : decode cX7_carryOut 55 = .ok (.ifCond .eq 9, 3) := by decide +kernel
theorem dX7_carryOut_58 : decode cX7_carryOut 58 = .ok (.iinc 1 1, 3) := by decide +kernel
theorem dX7_carryOut_61 : decode cX7_carryOut 61 = .ok (.goto (-26), 3) := by decide +kernel
theorem dX7_carryOut_64 : decode cX7_carryOut 64 = .ok (.aload_n 0, 1) := by decide +kernel
theorem dX7_carryOut_65 : decode cX7_carryOut 65 = .ok (.getfield 37, 3) := by decide +kernel
theorem dX7_carryOut_68 : decode cX7_carryOut 68 = .ok (.invokevirtual 242, 3) := by decide +kernel
theorem dX7_carryOut_71 : decode cX7_carryOut 71 = .ok (.aload_n 0, 1) := by decide +kernel
theorem dX7_carryOut_72 : decode cX7_carryOut 72 = .ok (.getfield 22, 3) := by decide +kernel
theorem dX7_carryOut_75 : decode cX7_carryOut 75 = .ok (.iload_n 1, 1) := by decide +kernel
theorem dX7_carryOut_76 : decode cX7_carryOut 76 = .ok (.invokevirtual 58, 3) := by decide +kernel
theorem dX7_carryOut_79 : decode cX7_carryOut 79 = .ok (.ireturn, 1) := by decide +kernel
theorem dX7_carryOrder_0 : decode cX7_carryOrder 0 = .ok (.aload_n 0, 1) := by decide +kernel
theorem dX7_carryOrder_1 : decode cX7_carryOrder 1 = .ok (.getfield 46, 3) := by decide +kernel
theorem dX7_carryOrder_4 : decode cX7_carryOrder 4 = .ok (.iconst 0, 1) := by decide +kernel
theorem dX7_carryOrder_5 : decode cX7_carryOrder 5 = .ok (.invokevirtual 258, 3) := by decide +kernel
theorem dX7_carryOrder_8 : decode cX7_carryOrder 8 = .ok (.istore_n 1, 1) := by decide +kernel
theorem dX7_carryOrder_9 : decode cX7_carryOrder 9 = .ok (.aload_n 0, 1) := by decide +kernel
theorem dX7_carryOrder_10 : decode cX7_carryOrder 10 = .ok (.getfield 46, 3) := by decide +kernel
theorem dX7_carryOrder_13 : decode cX7_carryOrder 13 = .ok (.getfield 261, 3) := by decide +kernel
theorem dX7_carryOrder_16 : decode cX7_carryOrder 16 = .ok (.bipush 102, 2) := by decide +kernel
theorem dX7_carryOrder_18 : decode cX7_carryOrder 18 = .ok (.if_icmp .ne 9, 3) := by decide +kernel
theorem dX7_carryOrder_21 : decode cX7_carryOrder 21 = .ok (.aload_n 0, 1) := by decide +kernel
theorem dX7_carryOrder_22 : decode cX7_carryOrder 22 = .ok (.iload_n 1, 1) := by decide +kernel
theorem dX7_carryOrder_23 : decode cX7_carryOrder 23 = .ok (.invokevirtual 265, 3) := by decide +kernel
theorem dX7_carryOrder_26 : decode cX7_carryOrder 26 = .ok (.ireturn, 1) := by decide +kernel
theorem dX7_carryOrder_27 : decode cX7_carryOrder 27 = .ok (.aload_n 0, 1) := by decide +kernel
theorem dX7_carryOrder_28 : decode cX7_carryOrder 28 = .ok (.getfield 46, 3) := by decide +kernel
theorem dX7_carryOrder_31 : decode cX7_carryOrder 31 = .ok (.getfield 261, 3) := by decide +kernel
theorem dX7_carryOrder_34 : decode cX7_carryOrder 34 = .ok (.bipush 106, 2) := by decide +kernel
theorem dX7_carryOrder_36 : decode cX7_carryOrder 36 = .ok (.if_icmp .ne 28, 3) := by decide +kernel
theorem dX7_carryOrder_39 : decode cX7_carryOrder 39 = .ok (.aload_n 0, 1) := by decide +kernel
theorem dX7_carryOrder_40 : decode cX7_carryOrder 40 = .ok (.getfield 10, 3) := by decide +kernel
theorem dX7_carryOrder_43 : decode cX7_carryOrder 43 = .ok (.iload_n 1, 1) := by decide +kernel
theorem dX7_carryOrder_44 : decode cX7_carryOrder 44 = .ok (.aload_n 0, 1) := by decide +kernel
theorem dX7_carryOrder_45 : decode cX7_carryOrder 45 = .ok (.getfield 46, 3) := by decide +kernel
theorem dX7_carryOrder_48 : decode cX7_carryOrder 48 = .ok (.iconst 1, 1) := by decide +kernel
theorem dX7_carryOrder_49 : decode cX7_carryOrder 49 = .ok (.invokevirtual 258, 3) := by decide +kernel
theorem dX7_carryOrder_52 : decode cX7_carryOrder 52 = .ok (.invokevirtual 73, 3) := by decide +kernel
theorem dX7_carryOrder_55 : decode cX7_carryOrder 55 = .ok (.ifCond .lt 7, 3) := by decide +kernel
theorem dX7_carryOrder_58 : decode cX7_carryOrder 58 = .ok (.iconst 1, 1) := by decide +kernel
theorem dX7_carryOrder_59 : decode cX7_carryOrder 59 = .ok (.goto 4, 3) := by decide +kernel
theorem dX7_carryOrder_62 : decode cX7_carryOrder 62 = .ok (.iconst 0, 1) := by decide +kernel
theorem dX7_carryOrder_63 : decode cX7_carryOrder 63 = .ok (.ireturn, 1) := by decide +kernel
theorem dX7_carryOrder_64 : decode cX7_carryOrder 64 = .ok (.aload_n 0, 1) := by decide +kernel
theorem dX7_carryOrder_65 : decode cX7_carryOrder 65 = .ok (.getfield 46, 3) := by decide +kernel
theorem dX7_carryOrder_68 : decode cX7_carryOrder 68 = .ok (.getfield 261, 3) := by decide +kernel
theorem dX7_carryOrder_71 : decode cX7_carryOrder 71 = .ok (.bipush 108, 2) := by decide +kernel
theorem dX7_carryOrder_73 : decode cX7_carryOrder 73 = .ok (.if_icmp .ne 36, 3) := by decide +kernel
theorem dX7_carryOrder_76 : decode cX7_carryOrder 76 = .ok (.aload_n 0, 1) := by decide +kernel
theorem dX7_carryOrder_77 : decode cX7_carryOrder 77 = .ok (.getfield 10, 3) := by decide +kernel
theorem dX7_carryOrder_80 : decode cX7_carryOrder 80 = .ok (.iload_n 1, 1) := by decide +kernel
theorem dX7_carryOrder_81 : decode cX7_carryOrder 81 = .ok (.aload_n 0, 1) := by decide +kernel
theorem dX7_carryOrder_82 : decode cX7_carryOrder 82 = .ok (.getfield 46, 3) := by decide +kernel
theorem dX7_carryOrder_85 : decode cX7_carryOrder 85 = .ok (.iconst 1, 1) := by decide +kernel
theorem dX7_carryOrder_86 : decode cX7_carryOrder 86 = .ok (.invokevirtual 258, 3) := by decide +kernel
theorem dX7_carryOrder_89 : decode cX7_carryOrder 89 = .ok (.aload_n 0, 1) := by decide +kernel
theorem dX7_carryOrder_90 : decode cX7_carryOrder 90 = .ok (.getfield 46, 3) := by decide +kernel
theorem dX7_carryOrder_93 : decode cX7_carryOrder 93 = .ok (.iconst 2, 1) := by decide +kernel
theorem dX7_carryOrder_94 : decode cX7_carryOrder 94 = .ok (.invokevirtual 258, 3) := by decide +kernel
theorem dX7_carryOrder_97 : decode cX7_carryOrder 97 = .ok (.invokevirtual 79, 3) := by decide +kernel
theorem dX7_carryOrder_100 : decode cX7_carryOrder 100 = .ok (.ifCond .lt 7, 3) := by decide +kernel
theorem dX7_carryOrder_103 : decode cX7_carryOrder 103 = .ok (.iconst 1, 1) := by decide +kernel
theorem dX7_carryOrder_104 : decode cX7_carryOrder 104 = .ok (.goto 4, 3) := by decide +kernel
theorem dX7_carryOrder_107 : decode cX7_carryOrder 107 = .ok (.iconst 0, 1) := by decide +kernel
theorem dX7_carryOrder_108 : decode cX7_carryOrder 108 = .ok (.ireturn, 1) := by decide +kernel
theorem dX7_carryOrder_109 : decode cX7_carryOrder 109 = .ok (.aload_n 0, 1) := by decide +kernel
theorem dX7_carryOrder_110 : decode cX7_carryOrder 110 = .ok (.getfield 10, 3) := by decide +kernel
theorem dX7_carryOrder_113 : decode cX7_carryOrder 113 = .ok (.iload_n 1, 1) := by decide +kernel
theorem dX7_carryOrder_114 : decode cX7_carryOrder 114 = .ok (.invokevirtual 83, 3) := by decide +kernel
theorem dX7_carryOrder_117 : decode cX7_carryOrder 117 = .ok (.ifCond .lt 7, 3) := by decide +kernel
theorem dX7_carryOrder_120 : decode cX7_carryOrder 120 = .ok (.iconst 1, 1) := by decide +kernel
theorem dX7_carryOrder_121 : decode cX7_carryOrder 121 = .ok (.goto 4, 3) := by decide +kernel
theorem dX7_carryOrder_124 : decode cX7_carryOrder 124 = .ok (.iconst 0, 1) := by decide +kernel
theorem dX7_carryOrder_125 : decode cX7_carryOrder 125 = .ok (.ireturn, 1) := by decide +kernel
theorem dX7_feedAll_0 : decode cX7_feedAll 0 = .ok (.iconst 1, 1) := by decide +kernel
theorem dX7_feedAll_1 : decode cX7_feedAll 1 = .ok (.istore_n 2, 1) := by decide +kernel
theorem dX7_feedAll_2 : decode cX7_feedAll 2 = .ok (.iload_n 2, 1) := by decide +kernel
theorem dX7_feedAll_3 : decode cX7_feedAll 3 = .ok (.aload_n 0, 1) := by decide +kernel
theorem dX7_feedAll_4 : decode cX7_feedAll 4 = .ok (.getfield 46, 3) := by decide +kernel
theorem dX7_feedAll_7 : decode cX7_feedAll 7 = .ok (.getfield 268, 3) := by decide +kernel
theorem dX7_feedAll_10 : decode cX7_feedAll 10 = .ok (.if_icmp .ge 30, 3) := by decide +kernel
theorem dX7_feedAll_13 : decode cX7_feedAll 13 = .ok (.aload_n 0, 1) := by decide +kernel
theorem dX7_feedAll_14 : decode cX7_feedAll 14 = .ok (.getfield 10, 3) := by decide +kernel
theorem dX7_feedAll_17 : decode cX7_feedAll 17 = .ok (.iload_n 1, 1) := by decide +kernel
theorem dX7_feedAll_18 : decode cX7_feedAll 18 = .ok (.aload_n 0, 1) := by decide +kernel
theorem dX7_feedAll_19 : decode cX7_feedAll 19 = .ok (.getfield 46, 3) := by decide +kernel
theorem dX7_feedAll_22 : decode cX7_feedAll 22 = .ok (.iload_n 2, 1) := by decide +kernel
theorem dX7_feedAll_23 : decode cX7_feedAll 23 = .ok (.invokevirtual 258, 3) := by decide +kernel
theorem dX7_feedAll_26 : decode cX7_feedAll 26 = .ok (.invokevirtual 76, 3) := by decide +kernel
theorem dX7_feedAll_29 : decode cX7_feedAll 29 = .ok (.ifCond .ge 5, 3) := by decide +kernel
theorem dX7_feedAll_32 : decode cX7_feedAll 32 = .ok (.iconst 0, 1) := by decide +kernel
theorem dX7_feedAll_33 : decode cX7_feedAll 33 = .ok (.ireturn, 1) := by decide +kernel
theorem dX7_feedAll_34 : decode cX7_feedAll 34 = .ok (.iinc 2 1, 3) := by decide +kernel
theorem dX7_feedAll_37 : decode cX7_feedAll 37 = .ok (.goto (-35), 3) := by decide +kernel
theorem dX7_feedAll_40 : decode cX7_feedAll 40 = .ok (.iconst 1, 1) := by decide +kernel
theorem dX7_feedAll_41 : decode cX7_feedAll 41 = .ok (.ireturn, 1) := by decide +kernel
theorem dX7_undo_0 : decode cX7_undo 0 = .ok (.aload_n 0, 1) := by decide +kernel
theorem dX7_undo_1 : decode cX7_undo 1 = .ok (.getfield 22, 3) := by decide +kernel
theorem dX7_undo_4 : decode cX7_undo 4 = .ok (.invokevirtual 271, 3) := by decide +kernel
theorem dX7_undo_7 : decode cX7_undo 7 = .ok (.astore_n 1, 1) := by decide +kernel
theorem dX7_undo_8 : decode cX7_undo 8 = .ok (.aload_n 1, 1) := by decide +kernel
theorem dX7_undo_9 : decode cX7_undo 9 = .ok (.ifnonnull 6, 3) := by decide +kernel
theorem dX7_undo_12 : decode cX7_undo 12 = .ok (.bipush (-5), 2) := by decide +kernel
theorem dX7_undo_14 : decode cX7_undo 14 = .ok (.ireturn, 1) := by decide +kernel
theorem dX7_undo_15 : decode cX7_undo 15 = .ok (.aload_n 0, 1) := by decide +kernel
theorem dX7_undo_16 : decode cX7_undo 16 = .ok (.getfield 10, 3) := by decide +kernel
theorem dX7_undo_19 : decode cX7_undo 19 = .ok (.aload_n 1, 1) := by decide +kernel
theorem dX7_undo_20 : decode cX7_undo 20 = .ok (.invokevirtual 214, 3) := by decide +kernel
theorem dX7_undo_23 : decode cX7_undo 23 = .ok (.aload_n 0, 1) := by decide +kernel
theorem dX7_undo_24 : decode cX7_undo 24 = .ok (.getfield 22, 3) := by decide +kernel
theorem dX7_undo_27 : decode cX7_undo 27 = .ok (.getfield 211, 3) := by decide +kernel
theorem dX7_undo_30 : decode cX7_undo 30 = .ok (.ireturn, 1) := by decide +kernel
theorem dX7_save_0 : decode cX7_save 0 = .ok (.aload_n 0, 1) := by decide +kernel
theorem dX7_save_1 : decode cX7_save 1 = .ok (.iload_n 1, 1) := by decide +kernel
theorem dX7_save_2 : decode cX7_save 2 = .ok (.invokevirtual 275, 3) := by decide +kernel
theorem dX7_save_5 : decode cX7_save 5 = .ok (.astore_n 2, 1) := by decide +kernel
theorem dX7_save_6 : decode cX7_save 6 = .ok (.aload_n 2, 1) := by decide +kernel
theorem dX7_save_7 : decode cX7_save 7 = .ok (.ifnonnull 6, 3) := by decide +kernel
theorem dX7_save_10 : decode cX7_save 10 = .ok (.bipush (-2), 2) := by decide +kernel
theorem dX7_save_12 : decode cX7_save 12 = .ok (.ireturn, 1) := by decide +kernel
theorem dX7_save_13 : decode cX7_save 13 = .ok (.aload_n 2, 1) := by decide +kernel
theorem dX7_save_14 : decode cX7_save 14 = .ok (.aload_n 0, 1) := by decide +kernel
theorem dX7_save_15 : decode cX7_save 15 = .ok (.getfield 10, 3) := by decide +kernel
theorem dX7_save_18 : decode cX7_save 18 = .ok (.invokevirtual 214, 3) := by decide +kernel
theorem dX7_save_21 : decode cX7_save 21 = .ok (.aload_n 0, 1) := by decide +kernel
theorem dX7_save_22 : decode cX7_save 22 = .ok (.getfield 30, 3) := by decide +kernel
theorem dX7_save_25 : decode cX7_save 25 = .ok (.iload_n 1, 1) := by decide +kernel
theorem dX7_save_26 : decode cX7_save 26 = .ok (.iconst 1, 1) := by decide +kernel
theorem dX7_save_27 : decode cX7_save 27 = .ok (.bastore, 1) := by decide +kernel
theorem dX7_save_28 : decode cX7_save 28 = .ok (.aload_n 0, 1) := by decide +kernel
theorem dX7_save_29 : decode cX7_save 29 = .ok (.getfield 10, 3) := by decide +kernel
theorem dX7_save_32 : decode cX7_save 32 = .ok (.getfield 98, 3) := by decide +kernel
theorem dX7_save_35 : decode cX7_save 35 = .ok (.ireturn, 1) := by decide +kernel
theorem dX7_restore_0 : decode cX7_restore 0 = .ok (.aload_n 0, 1) := by decide +kernel
theorem dX7_restore_1 : decode cX7_restore 1 = .ok (.iload_n 1, 1) := by decide +kernel
theorem dX7_restore_2 : decode cX7_restore 2 = .ok (.invokevirtual 275, 3) := by decide +kernel
theorem dX7_restore_5 : decode cX7_restore 5 = .ok (.astore_n 2, 1) := by decide +kernel
theorem dX7_restore_6 : decode cX7_restore 6 = .ok (.aload_n 2, 1) := by decide +kernel
theorem dX7_restore_7 : decode cX7_restore 7 = .ok (.ifnonnull 6, 3) := by decide +kernel
theorem dX7_restore_10 : decode cX7_restore 10 = .ok (.bipush (-2), 2) := by decide +kernel
theorem dX7_restore_12 : decode cX7_restore 12 = .ok (.ireturn, 1) := by decide +kernel
theorem dX7_restore_13 : decode cX7_restore 13 = .ok (.aload_n 0, 1) := by decide +kernel
theorem dX7_restore_14 : decode cX7_restore 14 = .ok (.getfield 30, 3) := by decide +kernel
theorem dX7_restore_17 : decode cX7_restore 17 = .ok (.iload_n 1, 1) := by decide +kernel
theorem dX7_restore_18 : decode cX7_restore 18 = .ok (.baload, 1) := by decide +kernel
theorem dX7_restore_19 : decode cX7_restore 19 = .ok (.ifCond .ne 6, 3) := by decide +kernel
theorem dX7_restore_22 : decode cX7_restore 22 = .ok (.bipush (-5), 2) := by decide +kernel
theorem dX7_restore_24 : decode cX7_restore 24 = .ok (.ireturn, 1) := by decide +kernel
theorem dX7_restore_25 : decode cX7_restore 25 = .ok (.aload_n 0, 1) := by decide +kernel
theorem dX7_restore_26 : decode cX7_restore 26 = .ok (.getfield 22, 3) := by decide +kernel
theorem dX7_restore_29 : decode cX7_restore 29 = .ok (.aload_n 0, 1) := by decide +kernel
theorem dX7_restore_30 : decode cX7_restore 30 = .ok (.getfield 10, 3) := by decide +kernel
theorem dX7_restore_33 : decode cX7_restore 33 = .ok (.invokevirtual 50, 3) := by decide +kernel
theorem dX7_restore_36 : decode cX7_restore 36 = .ok (.aload_n 0, 1) := by decide +kernel
theorem dX7_restore_37 : decode cX7_restore 37 = .ok (.getfield 10, 3) := by decide +kernel
theorem dX7_restore_40 : decode cX7_restore 40 = .ok (.aload_n 2, 1) := by decide +kernel
theorem dX7_restore_41 : decode cX7_restore 41 = .ok (.invokevirtual 214, 3) := by decide +kernel
theorem dX7_restore_44 : decode cX7_restore 44 = .ok (.aload_n 0, 1) := by decide +kernel
theorem dX7_restore_45 : decode cX7_restore 45 = .ok (.getfield 22, 3) := by decide +kernel
theorem dX7_restore_48 : decode cX7_restore 48 = .ok (.aload_n 0, 1) := by decide +kernel
theorem dX7_restore_49 : decode cX7_restore 49 = .ok (.getfield 10, 3) := by decide +kernel
theorem dX7_restore_52 : decode cX7_restore 52 = .ok (.getfield 98, 3) := by decide +kernel
theorem dX7_restore_55 : decode cX7_restore 55 = .ok (.invokevirtual 58, 3) := by decide +kernel
theorem dX7_restore_58 : decode cX7_restore 58 = .ok (.ireturn, 1) := by decide +kernel
theorem dX7_slotOf_0 : decode cX7_slotOf 0 = .ok (.iload_n 1, 1) := by decide +kernel
theorem dX7_slotOf_1 : decode cX7_slotOf 1 = .ok (.iconst 0, 1) := by decide +kernel
theorem dX7_slotOf_2 : decode cX7_slotOf 2 = .ok (.iconst 1, 1) := by decide +kernel
theorem dX7_slotOf_3 : decode cX7_slotOf 3 = .ok (.invokestatic 186, 3) := by decide +kernel
theorem dX7_slotOf_6 : decode cX7_slotOf 6 = .ok (.ifCond .eq 12, 3) := by decide +kernel
theorem dX7_slotOf_9 : decode cX7_slotOf 9 = .ok (.aload_n 0, 1) := by decide +kernel
theorem dX7_slotOf_10 : decode cX7_slotOf 10 = .ok (.getfield 26, 3) := by decide +kernel
theorem dX7_slotOf_13 : decode cX7_slotOf 13 = .ok (.iload_n 1, 1) := by decide +kernel
theorem dX7_slotOf_14 : decode cX7_slotOf 14 = .ok (.aaload, 1) := by decide +kernel
theorem dX7_slotOf_15 : decode cX7_slotOf 15 = .ok (.goto 4, 3) := by decide +kernel
theorem dX7_slotOf_18 : decode cX7_slotOf 18 = .ok (.aconst_null, 1) := by decide +kernel
theorem dX7_slotOf_19 : decode cX7_slotOf 19 = .ok (.areturn, 1) := by decide +kernel
theorem dX7_isBetween_0 : decode cX7_isBetween 0 = .ok (.iload_n 0, 1) := by decide +kernel
theorem dX7_isBetween_1 : decode cX7_isBetween 1 = .ok (.iload_n 1, 1) := by decide +kernel
theorem dX7_isBetween_2 : decode cX7_isBetween 2 = .ok (.if_icmp .lt 12, 3) := by decide +kernel
theorem dX7_isBetween_5 : decode cX7_isBetween 5 = .ok (.iload_n 0, 1) := by decide +kernel
theorem dX7_isBetween_6 : decode cX7_isBetween 6 = .ok (.iload_n 2, 1) := by decide +kernel
theorem dX7_isBetween_7 : decode cX7_isBetween 7 = .ok (.if_icmp .gt 7, 3) := by decide +kernel
theorem dX7_isBetween_10 : decode cX7_isBetween 10 = .ok (.iconst 1, 1) := by decide +kernel
theorem dX7_isBetween_11 : decode cX7_isBetween 11 = .ok (.goto 4, 3) := by decide +kernel
theorem dX7_isBetween_14 : decode cX7_isBetween 14 = .ok (.iconst 0, 1) := by decide +kernel
theorem dX7_isBetween_15 : decode cX7_isBetween 15 = .ok (.ireturn, 1) := by decide +kernel
theorem dX7_isValue_0 : decode cX7_isValue 0 = .ok (.iload_n 0, 1) := by decide +kernel
theorem dX7_isValue_1 : decode cX7_isValue 1 = .ok (.iconst 0, 1) := by decide +kernel
theorem dX7_isValue_2 : decode cX7_isValue 2 = .ok (.bipush 99, 2) := by decide +kernel
theorem dX7_isValue_4 : decode cX7_isValue 4 = .ok (.invokestatic 186, 3) := by decide +kernel
theorem dX7_isValue_7 : decode cX7_isValue 7 = .ok (.ireturn, 1) := by decide +kernel
theorem dX7_fits_0 : decode cX7_fits 0 = .ok (.iload_n 0, 1) := by decide +kernel
theorem dX7_fits_1 : decode cX7_fits 1 = .ok (.tableswitch 114 0 4 #[35, 63, 63, 77, 97], 35) := by decide +kernel
theorem dX7_fits_36 : decode cX7_fits 36 = .ok (.iload_n 1, 1) := by decide +kernel
theorem dX7_fits_37 : decode cX7_fits 37 = .ok (.iconst 1, 1) := by decide +kernel
theorem dX7_fits_38 : decode cX7_fits 38 = .ok (.sipush 500, 3) := by decide +kernel
theorem dX7_fits_41 : decode cX7_fits 41 = .ok (.invokestatic 186, 3) := by decide +kernel
theorem dX7_fits_44 : decode cX7_fits 44 = .ok (.ifCond .eq 18, 3) := by decide +kernel
theorem dX7_fits_47 : decode cX7_fits 47 = .ok (.iload_n 2, 1) := by decide +kernel
theorem dX7_fits_48 : decode cX7_fits 48 = .ok (.iconst 1, 1) := by decide +kernel
theorem dX7_fits_49 : decode cX7_fits 49 = .ok (.sipush 2000, 3) := by decide +kernel
theorem dX7_fits_52 : decode cX7_fits 52 = .ok (.invokestatic 186, 3) := by decide +kernel
theorem dX7_fits_55 : decode cX7_fits 55 = .ok (.ifCond .eq 7, 3) := by decide +kernel
theorem dX7_fits_58 : decode cX7_fits 58 = .ok (.iconst 1, 1) := by decide +kernel
theorem dX7_fits_59 : decode cX7_fits 59 = .ok (.goto 4, 3) := by decide +kernel
theorem dX7_fits_62 : decode cX7_fits 62 = .ok (.iconst 0, 1) := by decide +kernel
theorem dX7_fits_63 : decode cX7_fits 63 = .ok (.ireturn, 1) := by decide +kernel
theorem dX7_fits_64 : decode cX7_fits 64 = .ok (.iload_n 1, 1) := by decide +kernel
theorem dX7_fits_65 : decode cX7_fits 65 = .ok (.ifCond .ne 11, 3) := by decide +kernel
theorem dX7_fits_68 : decode cX7_fits 68 = .ok (.iload_n 2, 1) := by decide +kernel
theorem dX7_fits_69 : decode cX7_fits 69 = .ok (.ifCond .ne 7, 3) := by decide +kernel
theorem dX7_fits_72 : decode cX7_fits 72 = .ok (.iconst 1, 1) := by decide +kernel
theorem dX7_fits_73 : decode cX7_fits 73 = .ok (.goto 4, 3) := by decide +kernel
theorem dX7_fits_76 : decode cX7_fits 76 = .ok (.iconst 0, 1) := by decide +kernel
theorem dX7_fits_77 : decode cX7_fits 77 = .ok (.ireturn, 1) := by decide +kernel
theorem dX7_fits_78 : decode cX7_fits 78 = .ok (.iload_n 1, 1) := by decide +kernel
theorem dX7_fits_79 : decode cX7_fits 79 = .ok (.invokestatic 182, 3) := by decide +kernel
theorem dX7_fits_82 : decode cX7_fits 82 = .ok (.ifCond .eq 14, 3) := by decide +kernel
theorem dX7_fits_85 : decode cX7_fits 85 = .ok (.iload_n 2, 1) := by decide +kernel
theorem dX7_fits_86 : decode cX7_fits 86 = .ok (.invokestatic 182, 3) := by decide +kernel
theorem dX7_fits_89 : decode cX7_fits 89 = .ok (.ifCond .eq 7, 3) := by decide +kernel
theorem dX7_fits_92 : decode cX7_fits 92 = .ok (.iconst 1, 1) := by decide +kernel
theorem dX7_fits_93 : decode cX7_fits 93 = .ok (.goto 4, 3) := by decide +kernel
theorem dX7_fits_96 : decode cX7_fits 96 = .ok (.iconst 0, 1) := by decide +kernel
theorem dX7_fits_97 : decode cX7_fits 97 = .ok (.ireturn, 1) := by decide +kernel
theorem dX7_fits_98 : decode cX7_fits 98 = .ok (.iload_n 1, 1) := by decide +kernel
theorem dX7_fits_99 : decode cX7_fits 99 = .ok (.invokestatic 182, 3) := by decide +kernel
theorem dX7_fits_102 : decode cX7_fits 102 = .ok (.ifCond .eq 11, 3) := by decide +kernel
theorem dX7_fits_105 : decode cX7_fits 105 = .ok (.iload_n 2, 1) := by decide +kernel
theorem dX7_fits_106 : decode cX7_fits 106 = .ok (.ifCond .ne 7, 3) := by decide +kernel
theorem dX7_fits_109 : decode cX7_fits 109 = .ok (.iconst 1, 1) := by decide +kernel
theorem dX7_fits_110 : decode cX7_fits 110 = .ok (.goto 4, 3) := by decide +kernel
theorem dX7_fits_113 : decode cX7_fits 113 = .ok (.iconst 0, 1) := by decide +kernel
theorem dX7_fits_114 : decode cX7_fits 114 = .ok (.ireturn, 1) := by decide +kernel
theorem dX7_fits_115 : decode cX7_fits 115 = .ok (.iconst 0, 1) := by decide +kernel
theorem dX7_fits_116 : decode cX7_fits 116 = .ok (.ireturn, 1) := by decide +kernel
theorem dX7_signIn_0 : decode cX7_signIn 0 = .ok (.lload_n 0, 1) := by decide +kernel
theorem dX7_signIn_1 : decode cX7_signIn 1 = .ok (.bipush 8, 2) := by decide +kernel
theorem dX7_signIn_3 : decode cX7_signIn 3 = .ok (.iload_n 2, 1) := by decide +kernel
theorem dX7_signIn_4 : decode cX7_signIn 4 = .ok (.imul, 1) := by decide +kernel
theorem dX7_signIn_5 : decode cX7_signIn 5 = .ok (.lushr, 1) := by decide +kernel
theorem dX7_signIn_6 : decode cX7_signIn 6 = .ok (.ldc2_w 279, 3) := by decide +kernel
theorem dX7_signIn_9 : decode cX7_signIn 9 = .ok (.land, 1) := by decide +kernel
theorem dX7_signIn_10 : decode cX7_signIn 10 = .ok (.l2i, 1) := by decide +kernel
theorem dX7_signIn_11 : decode cX7_signIn 11 = .ok (.i2c, 1) := by decide +kernel
theorem dX7_signIn_12 : decode cX7_signIn 12 = .ok (.ireturn, 1) := by decide +kernel
theorem dX7_signsIn_0 : decode cX7_signsIn 0 = .ok (.iconst 0, 1) := by decide +kernel
theorem dX7_signsIn_1 : decode cX7_signsIn 1 = .ok (.istore_n 2, 1) := by decide +kernel
theorem dX7_signsIn_2 : decode cX7_signsIn 2 = .ok (.iload_n 2, 1) := by decide +kernel
theorem dX7_signsIn_3 : decode cX7_signsIn 3 = .ok (.bipush 8, 2) := by decide +kernel
theorem dX7_signsIn_5 : decode cX7_signsIn 5 = .ok (.if_icmp .ge 24, 3) := by decide +kernel
theorem dX7_signsIn_8 : decode cX7_signsIn 8 = .ok (.lload_n 0, 1) := by decide +kernel
theorem dX7_signsIn_9 : decode cX7_signsIn 9 = .ok (.iload_n 2, 1) := by decide +kernel
theorem dX7_signsIn_10 : decode cX7_signsIn 10 = .ok (.invokestatic 234, 3) := by decide +kernel
theorem dX7_signsIn_13 : decode cX7_signsIn 13 = .ok (.bipush 33, 2) := by decide +kernel
theorem dX7_signsIn_15 : decode cX7_signsIn 15 = .ok (.bipush 126, 2) := by decide +kernel
theorem dX7_signsIn_17 : decode cX7_signsIn 17 = .ok (.invokestatic 186, 3) := by decide +kernel
theorem dX7_signsIn_20 : decode cX7_signsIn 20 = .ok (.ifCond .eq 9, 3) := by decide +kernel
theorem dX7_signsIn_23 : decode cX7_signsIn 23 = .ok (.iinc 2 1, 3) := by decide +kernel
theorem dX7_signsIn_26 : decode cX7_signsIn 26 = .ok (.goto (-24), 3) := by decide +kernel
theorem dX7_signsIn_29 : decode cX7_signsIn 29 = .ok (.iload_n 2, 1) := by decide +kernel
theorem dX7_signsIn_30 : decode cX7_signsIn 30 = .ok (.bipush 8, 2) := by decide +kernel
theorem dX7_signsIn_32 : decode cX7_signsIn 32 = .ok (.if_icmp .ge 16, 3) := by decide +kernel
theorem dX7_signsIn_35 : decode cX7_signsIn 35 = .ok (.lload_n 0, 1) := by decide +kernel
theorem dX7_signsIn_36 : decode cX7_signsIn 36 = .ok (.bipush 8, 2) := by decide +kernel
theorem dX7_signsIn_38 : decode cX7_signsIn 38 = .ok (.iload_n 2, 1) := by decide +kernel
theorem dX7_signsIn_39 : decode cX7_signsIn 39 = .ok (.imul, 1) := by decide +kernel
theorem dX7_signsIn_40 : decode cX7_signsIn 40 = .ok (.lushr, 1) := by decide +kernel
theorem dX7_signsIn_41 : decode cX7_signsIn 41 = .ok (.lconst 0, 1) := by decide +kernel
theorem dX7_signsIn_42 : decode cX7_signsIn 42 = .ok (.lcmp, 1) := by decide +kernel
theorem dX7_signsIn_43 : decode cX7_signsIn 43 = .ok (.ifCond .eq 5, 3) := by decide +kernel
theorem dX7_signsIn_46 : decode cX7_signsIn 46 = .ok (.iconst 0, 1) := by decide +kernel
theorem dX7_signsIn_47 : decode cX7_signsIn 47 = .ok (.ireturn, 1) := by decide +kernel
theorem dX7_signsIn_48 : decode cX7_signsIn 48 = .ok (.iload_n 2, 1) := by decide +kernel
theorem dX7_signsIn_49 : decode cX7_signsIn 49 = .ok (.ireturn, 1) := by decide +kernel
theorem dX7_copyRow_0 : decode cX7_copyRow 0 = .ok (.aload_n 0, 1) := by decide +kernel
theorem dX7_copyRow_1 : decode cX7_copyRow 1 = .ok (.iconst 0, 1) := by decide +kernel
theorem dX7_copyRow_2 : decode cX7_copyRow 2 = .ok (.aload_n 1, 1) := by decide +kernel
theorem dX7_copyRow_3 : decode cX7_copyRow 3 = .ok (.iconst 0, 1) := by decide +kernel
theorem dX7_copyRow_4 : decode cX7_copyRow 4 = .ok (.aload_n 0, 1) := by decide +kernel
theorem dX7_copyRow_5 : decode cX7_copyRow 5 = .ok (.arraylength, 1) := by decide +kernel
theorem dX7_copyRow_6 : decode cX7_copyRow 6 = .ok (.aload_n 1, 1) := by decide +kernel
theorem dX7_copyRow_7 : decode cX7_copyRow 7 = .ok (.arraylength, 1) := by decide +kernel
theorem dX7_copyRow_8 : decode cX7_copyRow 8 = .ok (.invokestatic 281, 3) := by decide +kernel
theorem dX7_copyRow_11 : decode cX7_copyRow 11 = .ok (.invokestatic 286, 3) := by decide +kernel
theorem dX7_copyRow_14 : decode cX7_copyRow 14 = .ok (.return_, 1) := by decide +kernel
theorem dX7_turnRow_0 : decode cX7_turnRow 0 = .ok (.iload_n 1, 1) := by decide +kernel
theorem dX7_turnRow_1 : decode cX7_turnRow 1 = .ok (.iconst 1, 1) := by decide +kernel
theorem dX7_turnRow_2 : decode cX7_turnRow 2 = .ok (.if_icmp .lt 9, 3) := by decide +kernel
theorem dX7_turnRow_5 : decode cX7_turnRow 5 = .ok (.iload_n 1, 1) := by decide +kernel
theorem dX7_turnRow_6 : decode cX7_turnRow 6 = .ok (.aload_n 0, 1) := by decide +kernel
theorem dX7_turnRow_7 : decode cX7_turnRow 7 = .ok (.arraylength, 1) := by decide +kernel
theorem dX7_turnRow_8 : decode cX7_turnRow 8 = .ok (.if_icmp .le 4, 3) := by decide +kernel
theorem dX7_turnRow_11 : decode cX7_turnRow 11 = .ok (.return_, 1) := by decide +kernel
theorem dX7_turnRow_12 : decode cX7_turnRow 12 = .ok (.aload_n 0, 1) := by decide +kernel
theorem dX7_turnRow_13 : decode cX7_turnRow 13 = .ok (.iload_n 1, 1) := by decide +kernel
theorem dX7_turnRow_14 : decode cX7_turnRow 14 = .ok (.iconst 1, 1) := by decide +kernel
theorem dX7_turnRow_15 : decode cX7_turnRow 15 = .ok (.isub, 1) := by decide +kernel
theorem dX7_turnRow_16 : decode cX7_turnRow 16 = .ok (.iaload, 1) := by decide +kernel
theorem dX7_turnRow_17 : decode cX7_turnRow 17 = .ok (.istore_n 2, 1) := by decide +kernel
theorem dX7_turnRow_18 : decode cX7_turnRow 18 = .ok (.aload_n 0, 1) := by decide +kernel
theorem dX7_turnRow_19 : decode cX7_turnRow 19 = .ok (.iconst 0, 1) := by decide +kernel
theorem dX7_turnRow_20 : decode cX7_turnRow 20 = .ok (.aload_n 0, 1) := by decide +kernel
theorem dX7_turnRow_21 : decode cX7_turnRow 21 = .ok (.iconst 1, 1) := by decide +kernel
theorem dX7_turnRow_22 : decode cX7_turnRow 22 = .ok (.iload_n 1, 1) := by decide +kernel
theorem dX7_turnRow_23 : decode cX7_turnRow 23 = .ok (.iconst 1, 1) := by decide +kernel
theorem dX7_turnRow_24 : decode cX7_turnRow 24 = .ok (.isub, 1) := by decide +kernel
theorem dX7_turnRow_25 : decode cX7_turnRow 25 = .ok (.invokestatic 286, 3) := by decide +kernel
theorem dX7_turnRow_28 : decode cX7_turnRow 28 = .ok (.aload_n 0, 1) := by decide +kernel
theorem dX7_turnRow_29 : decode cX7_turnRow 29 = .ok (.iconst 0, 1) := by decide +kernel
theorem dX7_turnRow_30 : decode cX7_turnRow 30 = .ok (.iload_n 2, 1) := by decide +kernel
theorem dX7_turnRow_31 : decode cX7_turnRow 31 = .ok (.iastore, 1) := by decide +kernel
theorem dX7_turnRow_32 : decode cX7_turnRow 32 = .ok (.return_, 1) := by decide +kernel
end
section
theorem dX8_init_0 : decode cX8_init 0 = .ok (.aload_n 0, 1) := by decide +kernel
theorem dX8_init_1 : decode cX8_init 1 = .ok (.invokespecial 1, 3) := by decide +kernel
theorem dX8_init_4 : decode cX8_init 4 = .ok (.aload_n 0, 1) := by decide +kernel
theorem dX8_init_5 : decode cX8_init 5 = .ok (.sipush 770, 3) := by decide +kernel
theorem dX8_init_8 : decode cX8_init 8 = .ok (.newarray .int, 2) := by decide +kernel
theorem dX8_init_10 : decode cX8_init 10 = .ok (.putfield 7, 3) := by decide +kernel
theorem dX8_init_13 : decode cX8_init 13 = .ok (.aload_n 0, 1) := by decide +kernel
theorem dX8_init_14 : decode cX8_init 14 = .ok (.sipush 4620, 3) := by decide +kernel
theorem dX8_init_17 : decode cX8_init 17 = .ok (.newarray .int, 2) := by decide +kernel
theorem dX8_init_19 : decode cX8_init 19 = .ok (.putfield 13, 3) := by decide +kernel
theorem dX8_init_22 : decode cX8_init 22 = .ok (.aload_n 0, 1) := by decide +kernel
theorem dX8_init_23 : decode cX8_init 23 = .ok (.sipush 1540, 3) := by decide +kernel
theorem dX8_init_26 : decode cX8_init 26 = .ok (.newarray .int, 2) := by decide +kernel
theorem dX8_init_28 : decode cX8_init 28 = .ok (.putfield 16, 3) := by decide +kernel
theorem dX8_init_31 : decode cX8_init 31 = .ok (.aload_n 0, 1) := by decide +kernel
theorem dX8_init_32 : decode cX8_init 32 = .ok (.iconst 2, 1) := by decide +kernel
theorem dX8_init_33 : decode cX8_init 33 = .ok (.newarray .boolean, 2) := by decide +kernel
theorem dX8_init_35 : decode cX8_init 35 = .ok (.putfield 19, 3) := by decide +kernel
theorem dX8_init_38 : decode cX8_init 38 = .ok (.aload_n 0, 1) := by decide +kernel
theorem dX8_init_39 : decode cX8_init 39 = .ok (.sipush 770, 3) := by decide +kernel
theorem dX8_init_42 : decode cX8_init 42 = .ok (.newarray .int, 2) := by decide +kernel
theorem dX8_init_44 : decode cX8_init 44 = .ok (.putfield 23, 3) := by decide +kernel
theorem dX8_init_47 : decode cX8_init 47 = .ok (.aload_n 0, 1) := by decide +kernel
theorem dX8_init_48 : decode cX8_init 48 = .ok (.bipush 80, 2) := by decide +kernel
theorem dX8_init_50 : decode cX8_init 50 = .ok (.newarray .int, 2) := by decide +kernel
theorem dX8_init_52 : decode cX8_init 52 = .ok (.putfield 26, 3) := by decide +kernel
theorem dX8_init_55 : decode cX8_init 55 = .ok (.aload_n 0, 1) := by decide +kernel
theorem dX8_init_56 : decode cX8_init 56 = .ok (.bipush 29, 2) := by decide +kernel
theorem dX8_init_58 : decode cX8_init 58 = .ok (.newarray .int, 2) := by decide +kernel
theorem dX8_init_60 : decode cX8_init 60 = .ok (.putfield 29, 3) := by decide +kernel
theorem dX8_init_63 : decode cX8_init 63 = .ok (.aload_n 0, 1) := by decide +kernel
theorem dX8_init_64 : decode cX8_init 64 = .ok (.bipush 30, 2) := by decide +kernel
theorem dX8_init_66 : decode cX8_init 66 = .ok (.newarray .int, 2) := by decide +kernel
theorem dX8_init_68 : decode cX8_init 68 = .ok (.putfield 32, 3) := by decide +kernel
theorem dX8_init_71 : decode cX8_init 71 = .ok (.aload_n 0, 1) := by decide +kernel
theorem dX8_init_72 : decode cX8_init 72 = .ok (.bipush 81, 2) := by decide +kernel
theorem dX8_init_74 : decode cX8_init 74 = .ok (.newarray .int, 2) := by decide +kernel
theorem dX8_init_76 : decode cX8_init 76 = .ok (.putfield 35, 3) := by decide +kernel
theorem dX8_init_79 : decode cX8_init 79 = .ok (.aload_n 0, 1) := by decide +kernel
theorem dX8_init_80 : decode cX8_init 80 = .ok (.getfield 7, 3) := by decide +kernel
theorem dX8_init_83 : decode cX8_init 83 = .ok (.iconst 0, 1) := by decide +kernel
theorem dX8_init_84 : decode cX8_init 84 = .ok (.bipush 10, 2) := by decide +kernel
theorem dX8_init_86 : decode cX8_init 86 = .ok (.iastore, 1) := by decide +kernel
theorem dX8_init_87 : decode cX8_init 87 = .ok (.aload_n 0, 1) := by decide +kernel
theorem dX8_init_88 : decode cX8_init 88 = .ok (.getfield 7, 3) := by decide +kernel
theorem dX8_init_91 : decode cX8_init 91 = .ok (.iconst 1, 1) := by decide +kernel
theorem dX8_init_92 : decode cX8_init 92 = .ok (.bipush 40, 2) := by decide +kernel
theorem dX8_init_94 : decode cX8_init 94 = .ok (.iastore, 1) := by decide +kernel
theorem dX8_init_95 : decode cX8_init 95 = .ok (.aload_n 0, 1) := by decide +kernel
theorem dX8_init_96 : decode cX8_init 96 = .ok (.getfield 7, 3) := by decide +kernel
theorem dX8_init_99 : decode cX8_init 99 = .ok (.iconst 2, 1) := by decide +kernel
theorem dX8_init_100 : decode cX8_init 100 = .ok (.bipush 20, 2) := by decide +kernel
theorem dX8_init_102 : decode cX8_init 102 = .ok (.iastore, 1) := by decide +kernel
theorem dX8_init_103 : decode cX8_init 103 = .ok (.aload_n 0, 1) := by decide +kernel
theorem dX8_init_104 : decode cX8_init 104 = .ok (.getfield 7, 3) := by decide +kernel
theorem dX8_init_107 : decode cX8_init 107 = .ok (.iconst 3, 1) := by decide +kernel
theorem dX8_init_108 : decode cX8_init 108 = .ok (.sipush 600, 3) := by decide +kernel
theorem dX8_init_111 : decode cX8_init 111 = .ok (.iastore, 1) := by decide +kernel
theorem dX8_init_112 : decode cX8_init 112 = .ok (.sipush 290, 3) := by decide +kernel
theorem dX8_init_115 : decode cX8_init 115 = .ok (.istore_n 1, 1) := by decide +kernel
theorem dX8_init_116 : decode cX8_init 116 = .ok (.iload_n 1, 1) := by decide +kernel
theorem dX8_init_117 : decode cX8_init 117 = .ok (.sipush 770, 3) := by decide +kernel
theorem dX8_init_120 : decode cX8_init 120 = .ok (.if_icmp .ge 17, 3) := by decide +kernel
theorem dX8_init_123 : decode cX8_init 123 = .ok (.aload_n 0, 1) := by decide +kernel
theorem dX8_init_124 : decode cX8_init 124 = .ok (.getfield 7, 3) := by decide +kernel
theorem dX8_init_127 : decode cX8_init 127 = .ok (.iload_n 1, 1) := by decide +kernel
theorem dX8_init_128 : decode cX8_init 128 = .ok (.bipush (-6), 2) := by decide +kernel
theorem dX8_init_130 : decode cX8_init 130 = .ok (.iastore, 1) := by decide +kernel
theorem dX8_init_131 : decode cX8_init 131 = .ok (.iinc 1 3, 3) := by decide +kernel
theorem dX8_init_134 : decode cX8_init 134 = .ok (.goto (-18), 3) := by decide +kernel
theorem dX8_init_137 : decode cX8_init 137 = .ok (.return_, 1) := by decide +kernel
theorem dX8_in_0 : decode cX8_in 0 = .ok (.iload_n 0, 1) := by decide +kernel
theorem dX8_in_1 : decode cX8_in 1 = .ok (.iload_n 1, 1) := by decide +kernel
theorem dX8_in_2 : decode cX8_in 2 = .ok (.if_icmp .lt 12, 3) := by decide +kernel
theorem dX8_in_5 : decode cX8_in 5 = .ok (.iload_n 0, 1) := by decide +kernel
theorem dX8_in_6 : decode cX8_in 6 = .ok (.iload_n 2, 1) := by decide +kernel
theorem dX8_in_7 : decode cX8_in 7 = .ok (.if_icmp .gt 7, 3) := by decide +kernel
theorem dX8_in_10 : decode cX8_in 10 = .ok (.iconst 1, 1) := by decide +kernel
theorem dX8_in_11 : decode cX8_in 11 = .ok (.goto 4, 3) := by decide +kernel
theorem dX8_in_14 : decode cX8_in 14 = .ok (.iconst 0, 1) := by decide +kernel
theorem dX8_in_15 : decode cX8_in 15 = .ok (.ireturn, 1) := by decide +kernel
theorem dX8_ofL_0 : decode cX8_ofL 0 = .ok (.aload_n 0, 1) := by decide +kernel
theorem dX8_ofL_1 : decode cX8_ofL 1 = .ok (.getfield 7, 3) := by decide +kernel
theorem dX8_ofL_4 : decode cX8_ofL 4 = .ok (.bipush 8, 2) := by decide +kernel
theorem dX8_ofL_6 : decode cX8_ofL 6 = .ok (.bipush 6, 2) := by decide +kernel
theorem dX8_ofL_8 : decode cX8_ofL 8 = .ok (.iload_n 1, 1) := by decide +kernel
theorem dX8_ofL_9 : decode cX8_ofL 9 = .ok (.imul, 1) := by decide +kernel
theorem dX8_ofL_10 : decode cX8_ofL 10 = .ok (.iadd, 1) := by decide +kernel
theorem dX8_ofL_11 : decode cX8_ofL 11 = .ok (.iload_n 2, 1) := by decide +kernel
theorem dX8_ofL_12 : decode cX8_ofL 12 = .ok (.iadd, 1) := by decide +kernel
theorem dX8_ofL_13 : decode cX8_ofL 13 = .ok (.iaload, 1) := by decide +kernel
theorem dX8_ofL_14 : decode cX8_ofL 14 = .ok (.ireturn, 1) := by decide +kernel
theorem dX8_moreL_0 : decode cX8_moreL 0 = .ok (.aload_n 0, 1) := by decide +kernel
theorem dX8_moreL_1 : decode cX8_moreL 1 = .ok (.getfield 7, 3) := by decide +kernel
theorem dX8_moreL_4 : decode cX8_moreL 4 = .ok (.bipush 8, 2) := by decide +kernel
theorem dX8_moreL_6 : decode cX8_moreL 6 = .ok (.bipush 6, 2) := by decide +kernel
theorem dX8_moreL_8 : decode cX8_moreL 8 = .ok (.iload_n 1, 1) := by decide +kernel
theorem dX8_moreL_9 : decode cX8_moreL 9 = .ok (.imul, 1) := by decide +kernel
theorem dX8_moreL_10 : decode cX8_moreL 10 = .ok (.iadd, 1) := by decide +kernel
theorem dX8_moreL_11 : decode cX8_moreL 11 = .ok (.iload_n 2, 1) := by decide +kernel
theorem dX8_moreL_12 : decode cX8_moreL 12 = .ok (.iadd, 1) := by decide +kernel
theorem dX8_moreL_13 : decode cX8_moreL 13 = .ok (.dup2, 1) := by decide +kernel
theorem dX8_moreL_14 : decode cX8_moreL 14 = .ok (.iaload, 1) := by decide +kernel
theorem dX8_moreL_15 : decode cX8_moreL 15 = .ok (.iconst 1, 1) := by decide +kernel
theorem dX8_moreL_16 : decode cX8_moreL 16 = .ok (.iadd, 1) := by decide +kernel
theorem dX8_moreL_17 : decode cX8_moreL 17 = .ok (.iastore, 1) := by decide +kernel
theorem dX8_moreL_18 : decode cX8_moreL 18 = .ok (.return_, 1) := by decide +kernel
theorem dX8_ofD_0 : decode cX8_ofD 0 = .ok (.aload_n 0, 1) := by decide +kernel
theorem dX8_ofD_1 : decode cX8_ofD 1 = .ok (.getfield 7, 3) := by decide +kernel
theorem dX8_ofD_4 : decode cX8_ofD 4 = .ok (.bipush 38, 2) := by decide +kernel
theorem dX8_ofD_6 : decode cX8_ofD 6 = .ok (.bipush 19, 2) := by decide +kernel
theorem dX8_ofD_8 : decode cX8_ofD 8 = .ok (.iload_n 1, 1) := by decide +kernel
theorem dX8_ofD_9 : decode cX8_ofD 9 = .ok (.imul, 1) := by decide +kernel
theorem dX8_ofD_10 : decode cX8_ofD 10 = .ok (.iadd, 1) := by decide +kernel
theorem dX8_ofD_11 : decode cX8_ofD 11 = .ok (.iload_n 2, 1) := by decide +kernel
theorem dX8_ofD_12 : decode cX8_ofD 12 = .ok (.iadd, 1) := by decide +kernel
theorem dX8_ofD_13 : decode cX8_ofD 13 = .ok (.iaload, 1) := by decide +kernel
theorem dX8_ofD_14 : decode cX8_ofD 14 = .ok (.ireturn, 1) := by decide +kernel
theorem dX8_layD_0 : decode cX8_layD 0 = .ok (.aload_n 0, 1) := by decide +kernel
theorem dX8_layD_1 : decode cX8_layD 1 = .ok (.getfield 7, 3) := by decide +kernel
theorem dX8_layD_4 : decode cX8_layD 4 = .ok (.bipush 38, 2) := by decide +kernel
theorem dX8_layD_6 : decode cX8_layD 6 = .ok (.bipush 19, 2) := by decide +kernel
theorem dX8_layD_8 : decode cX8_layD 8 = .ok (.iload_n 1, 1) := by decide +kernel
theorem dX8_layD_9 : decode cX8_layD 9 = .ok (.imul, 1) := by decide +kernel
theorem dX8_layD_10 : decode cX8_layD 10 = .ok (.iadd, 1) := by decide +kernel
theorem dX8_layD_11 : decode cX8_layD 11 = .ok (.iload_n 2, 1) := by decide +kernel
theorem dX8_layD_12 : decode cX8_layD 12 = .ok (.iadd, 1) := by decide +kernel
theorem dX8_layD_13 : decode cX8_layD 13 = .ok (.iload_n 3, 1) := by decide +kernel
theorem dX8_layD_14 : decode cX8_layD 14 = .ok (.iastore, 1) := by decide +kernel
theorem dX8_layD_15 : decode cX8_layD 15 = .ok (.return_, 1) := by decide +kernel
theorem dX8_ofJ_0 : decode cX8_ofJ 0 = .ok (.aload_n 0, 1) := by decide +kernel
theorem dX8_ofJ_1 : decode cX8_ofJ 1 = .ok (.getfield 7, 3) := by decide +kernel
theorem dX8_ofJ_4 : decode cX8_ofJ 4 = .ok (.sipush 266, 3) := by decide +kernel
theorem dX8_ofJ_7 : decode cX8_ofJ 7 = .ok (.bipush 6, 2) := by decide +kernel
theorem dX8_ofJ_9 : decode cX8_ofJ 9 = .ok (.iload_n 1, 1) := by decide +kernel
theorem dX8_ofJ_10 : decode cX8_ofJ 10 = .ok (.imul, 1) := by decide +kernel
theorem dX8_ofJ_11 : decode cX8_ofJ 11 = .ok (.iadd, 1) := by decide +kernel
theorem dX8_ofJ_12 : decode cX8_ofJ 12 = .ok (.iload_n 2, 1) := by decide +kernel
theorem dX8_ofJ_13 : decode cX8_ofJ 13 = .ok (.iadd, 1) := by decide +kernel
theorem dX8_ofJ_14 : decode cX8_ofJ 14 = .ok (.iaload, 1) := by decide +kernel
theorem dX8_ofJ_15 : decode cX8_ofJ 15 = .ok (.ireturn, 1) := by decide +kernel
theorem dX8_cell_0 : decode cX8_cell 0 = .ok (.sipush 290, 3) := by decide +kernel
theorem dX8_cell_3 : decode cX8_cell 3 = .ok (.bipush 96, 2) := by decide +kernel
theorem dX8_cell_5 : decode cX8_cell 5 = .ok (.iload_n 0, 1) := by decide +kernel
theorem dX8_cell_6 : decode cX8_cell 6 = .ok (.imul, 1) := by decide +kernel
theorem dX8_cell_7 : decode cX8_cell 7 = .ok (.iadd, 1) := by decide +kernel
theorem dX8_cell_8 : decode cX8_cell 8 = .ok (.iconst 3, 1) := by decide +kernel
theorem dX8_cell_9 : decode cX8_cell 9 = .ok (.iload_n 1, 1) := by decide +kernel
theorem dX8_cell_10 : decode cX8_cell 10 = .ok (.imul, 1) := by decide +kernel
theorem dX8_cell_11 : decode cX8_cell 11 = .ok (.iadd, 1) := by decide +kernel
theorem dX8_cell_12 : decode cX8_cell 12 = .ok (.ireturn, 1) := by decide +kernel
theorem dX8_isLoop_0 : decode cX8_isLoop 0 = .ok (.iload_n 1, 1) := by decide +kernel
theorem dX8_isLoop_1 : decode cX8_isLoop 1 = .ok (.iconst 0, 1) := by decide +kernel
theorem dX8_isLoop_2 : decode cX8_isLoop 2 = .ok (.aload_n 0, 1) := by decide +kernel
theorem dX8_isLoop_3 : decode cX8_isLoop 3 = .ok (.getfield 7, 3) := by decide +kernel
theorem dX8_isLoop_6 : decode cX8_isLoop 6 = .ok (.iconst 5, 1) := by decide +kernel
theorem dX8_isLoop_7 : decode cX8_isLoop 7 = .ok (.iaload, 1) := by decide +kernel
theorem dX8_isLoop_8 : decode cX8_isLoop 8 = .ok (.iconst 1, 1) := by decide +kernel
theorem dX8_isLoop_9 : decode cX8_isLoop 9 = .ok (.isub, 1) := by decide +kernel
theorem dX8_isLoop_10 : decode cX8_isLoop 10 = .ok (.invokestatic 38, 3) := by decide +kernel
theorem dX8_isLoop_13 : decode cX8_isLoop 13 = .ok (.ireturn, 1) := by decide +kernel
theorem dX8_isPlace_0 : decode cX8_isPlace 0 = .ok (.aload_n 0, 1) := by decide +kernel
theorem dX8_isPlace_1 : decode cX8_isPlace 1 = .ok (.iload_n 1, 1) := by decide +kernel
theorem dX8_isPlace_2 : decode cX8_isPlace 2 = .ok (.invokevirtual 42, 3) := by decide +kernel
theorem dX8_isPlace_5 : decode cX8_isPlace 5 = .ok (.ifCond .eq 23, 3) := by decide +kernel
theorem dX8_isPlace_8 : decode cX8_isPlace 8 = .ok (.iload_n 2, 1) := by decide +kernel
theorem dX8_isPlace_9 : decode cX8_isPlace 9 = .ok (.iconst 0, 1) := by decide +kernel
theorem dX8_isPlace_10 : decode cX8_isPlace 10 = .ok (.aload_n 0, 1) := by decide +kernel
theorem dX8_isPlace_11 : decode cX8_isPlace 11 = .ok (.iload_n 1, 1) := by decide +kernel
theorem dX8_isPlace_12 : decode cX8_isPlace 12 = .ok (.iconst 0, 1) := by decide +kernel
theorem dX8_isPlace_13 : decode cX8_isPlace 13 = .ok (.invokevirtual 46, 3) := by decide +kernel
theorem dX8_isPlace_16 : decode cX8_isPlace 16 = .ok (.iconst 1, 1) := by decide +kernel
theorem dX8_isPlace_17 : decode cX8_isPlace 17 = .ok (.isub, 1) := by decide +kernel
theorem dX8_isPlace_18 : decode cX8_isPlace 18 = .ok (.invokestatic 38, 3) := by decide +kernel
theorem dX8_isPlace_21 : decode cX8_isPlace 21 = .ok (.ifCond .eq 7, 3) := by decide +kernel
theorem dX8_isPlace_24 : decode cX8_isPlace 24 = .ok (.iconst 1, 1) := by decide +kernel
theorem dX8_isPlace_25 : decode cX8_isPlace 25 = .ok (.goto 4, 3) := by decide +kernel
theorem dX8_isPlace_28 : decode cX8_isPlace 28 = .ok (.iconst 0, 1) := by decide +kernel
theorem dX8_isPlace_29 : decode cX8_isPlace 29 = .ok (.ireturn, 1) := by decide +kernel
theorem dX8_isDevice_0 : decode cX8_isDevice 0 = .ok (.iload_n 1, 1) := by decide +kernel
theorem dX8_isDevice_1 : decode cX8_isDevice 1 = .ok (.iconst 0, 1) := by decide +kernel
theorem dX8_isDevice_2 : decode cX8_isDevice 2 = .ok (.aload_n 0, 1) := by decide +kernel
theorem dX8_isDevice_3 : decode cX8_isDevice 3 = .ok (.getfield 7, 3) := by decide +kernel
theorem dX8_isDevice_6 : decode cX8_isDevice 6 = .ok (.bipush 6, 2) := by decide +kernel
theorem dX8_isDevice_8 : decode cX8_isDevice 8 = .ok (.iaload, 1) := by decide +kernel
theorem dX8_isDevice_9 : decode cX8_isDevice 9 = .ok (.iconst 1, 1) := by decide +kernel
theorem dX8_isDevice_10 : decode cX8_isDevice 10 = .ok (.isub, 1) := by decide +kernel
theorem dX8_isDevice_11 : decode cX8_isDevice 11 = .ok (.invokestatic 38, 3) := by decide +kernel
theorem dX8_isDevice_14 : decode cX8_isDevice 14 = .ok (.ireturn, 1) := by decide +kernel
theorem dX8_isValue_0 : decode cX8_isValue 0 = .ok (.iload_n 0, 1) := by decide +kernel
theorem dX8_isValue_1 : decode cX8_isValue 1 = .ok (.iconst 0, 1) := by decide +kernel
theorem dX8_isValue_2 : decode cX8_isValue 2 = .ok (.bipush 99, 2) := by decide +kernel
theorem dX8_isValue_4 : decode cX8_isValue 4 = .ok (.invokestatic 38, 3) := by decide +kernel
theorem dX8_isValue_7 : decode cX8_isValue 7 = .ok (.ireturn, 1) := by decide +kernel
theorem dX8_keep_0 : decode cX8_keep 0 = .ok (.aload_n 0, 1) := by decide +kernel
theorem dX8_keep_1 : decode cX8_keep 1 = .ok (.getfield 50, 3) := by decide +kernel
theorem dX8_keep_4 : decode cX8_keep 4 = .ok (.bipush 6, 2) := by decide +kernel
theorem dX8_keep_6 : decode cX8_keep 6 = .ok (.if_icmp .ne 26, 3) := by decide +kernel
theorem dX8_keep_9 : decode cX8_keep 9 = .ok (.aload_n 0, 1) := by decide +kernel
theorem dX8_keep_10 : decode cX8_keep 10 = .ok (.aload_n 0, 1) := by decide +kernel
theorem dX8_keep_11 : decode cX8_keep 11 = .ok (.getfield 54, 3) := by decide +kernel
theorem dX8_keep_14 : decode cX8_keep 14 = .ok (.iconst 1, 1) := by decide +kernel
theorem dX8_keep_15 : decode cX8_keep 15 = .ok (.iadd, 1) := by decide +kernel
theorem dX8_keep_16 : decode cX8_keep 16 = .ok (.bipush 6, 2) := by decide +kernel
theorem dX8_keep_18 : decode cX8_keep 18 = .ok (.irem, 1) := by decide +kernel
theorem dX8_keep_19 : decode cX8_keep 19 = .ok (.putfield 54, 3) := by decide +kernel
theorem dX8_keep_22 : decode cX8_keep 22 = .ok (.aload_n 0, 1) := by decide +kernel
theorem dX8_keep_23 : decode cX8_keep 23 = .ok (.dup, 1) := by decide +kernel
theorem dX8_keep_24 : decode cX8_keep 24 = .ok (.getfield 50, 3) := by decide +kernel
theorem dX8_keep_27 : decode cX8_keep 27 = .ok (.iconst 1, 1) := by decide +kernel
theorem dX8_keep_28 : decode cX8_keep 28 = .ok (.isub, 1) := by decide +kernel
theorem dX8_keep_29 : decode cX8_keep 29 = .ok (.putfield 50, 3) := by decide +kernel
theorem dX8_keep_32 : decode cX8_keep 32 = .ok (.aload_n 0, 1) := by decide +kernel
theorem dX8_keep_33 : decode cX8_keep 33 = .ok (.getfield 54, 3) := by decide +kernel
theorem dX8_keep_36 : decode cX8_keep 36 = .ok (.aload_n 0, 1) := by decide +kernel
theorem dX8_keep_37 : decode cX8_keep 37 = .ok (.getfield 50, 3) := by decide +kernel
theorem dX8_keep_40 : decode cX8_keep 40 = .ok (.iadd, 1) := by decide +kernel
theorem dX8_keep_41 : decode cX8_keep 41 = .ok (.bipush 6, 2) := by decide +kernel
theorem dX8_keep_43 : decode cX8_keep 43 = .ok (.irem, 1) := by decide +kernel
theorem dX8_keep_44 : decode cX8_keep 44 = .ok (.istore_n 1, 1) := by decide +kernel
theorem dX8_keep_45 : decode cX8_keep 45 = .ok (.iconst 0, 1) := by decide +kernel
theorem dX8_keep_46 : decode cX8_keep 46 = .ok (.istore_n 2, 1) := by decide +kernel
theorem dX8_keep_47 : decode cX8_keep 47 = .ok (.iload_n 2, 1) := by decide +kernel
theorem dX8_keep_48 : decode cX8_keep 48 = .ok (.sipush 770, 3) := by decide +kernel
theorem dX8_keep_51 : decode cX8_keep 51 = .ok (.if_icmp .ge 27, 3) := by decide +kernel
theorem dX8_keep_54 : decode cX8_keep 54 = .ok (.aload_n 0, 1) := by decide +kernel
theorem dX8_keep_55 : decode cX8_keep 55 = .ok (.getfield 13, 3) := by decide +kernel
theorem dX8_keep_58 : decode cX8_keep 58 = .ok (.sipush 770, 3) := by decide +kernel
theorem dX8_keep_61 : decode cX8_keep 61 = .ok (.iload_n 1, 1) := by decide +kernel
theorem dX8_keep_62 : decode cX8_keep 62 = .ok (.imul, 1) := by decide +kernel
theorem dX8_keep_63 : decode cX8_keep 63 = .ok (.iload_n 2, 1) := by decide +kernel
theorem dX8_keep_64 : decode cX8_keep 64 = .ok (.iadd, 1) := by decide +kernel
theorem dX8_keep_65 : decode cX8_keep 65 = .ok (.aload_n 0, 1) := by decide +kernel
theorem dX8_keep_66 : decode cX8_keep 66 = .ok (.getfield 7, 3) := by decide +kernel
theorem dX8_keep_69 : decode cX8_keep 69 = .ok (.iload_n 2, 1) := by decide +kernel
theorem dX8_keep_70 : decode cX8_keep 70 = .ok (.iaload, 1) := by decide +kernel
theorem dX8_keep_71 : decode cX8_keep 71 = .ok (.iastore, 1) := by decide +kernel
theorem dX8_keep_72 : decode cX8_keep 72 = .ok (.iinc 2 1, 3) := by decide +kernel
theorem dX8_keep_75 : decode cX8_keep 75 = .ok (.goto (-28), 3) := by decide +kernel
theorem dX8_keep_78 : decode cX8_keep 78 = .ok (.aload_n 0, 1) := by decide +kernel
theorem dX8_keep_79 : decode cX8_keep 79 = .ok (.dup, 1) := by decide +kernel
theorem dX8_keep_80 : decode cX8_keep 80 = .ok (.getfield 50, 3) := by decide +kernel
theorem dX8_keep_83 : decode cX8_keep 83 = .ok (.iconst 1, 1) := by decide +kernel
theorem dX8_keep_84 : decode cX8_keep 84 = .ok (.iadd, 1) := by decide +kernel
theorem dX8_keep_85 : decode cX8_keep 85 = .ok (.putfield 50, 3) := by decide +kernel
theorem dX8_keep_88 : decode cX8_keep 88 = .ok (.return_, 1) := by decide +kernel
theorem dX8_keepIf_0 : decode cX8_keepIf 0 = .ok (.iload_n 1, 1) := by decide +kernel
theorem dX8_keepIf_1 : decode cX8_keepIf 1 = .ok (.ifCond .eq 7, 3) := by decide +kernel
theorem dX8_keepIf_4 : decode cX8_keepIf 4 = .ok (.aload_n 0, 1) := by decide +kernel
theorem dX8_keepIf_5 : decode cX8_keepIf 5 = .ok (.invokevirtual 57, 3) := by decide +kernel
theorem dX8_keepIf_8 : decode cX8_keepIf 8 = .ok (.return_, 1) := by decide +kernel
theorem dX8_layAside_0 : decode cX8_layAside 0 = .ok (.iconst 0, 1) := by decide +kernel
theorem dX8_layAside_1 : decode cX8_layAside 1 = .ok (.istore_n 1, 1) := by decide +kernel
theorem dX8_layAside_2 : decode cX8_layAside 2 = .ok (.iload_n 1, 1) := by decide +kernel
theorem dX8_layAside_3 : decode cX8_layAside 3 = .ok (.sipush 770, 3) := by decide +kernel
theorem dX8_layAside_6 : decode cX8_layAside 6 = .ok (.if_icmp .ge 21, 3) := by decide +kernel
theorem dX8_layAside_9 : decode cX8_layAside 9 = .ok (.aload_n 0, 1) := by decide +kernel
theorem dX8_layAside_10 : decode cX8_layAside 10 = .ok (.getfield 23, 3) := by decide +kernel
theorem dX8_layAside_13 : decode cX8_layAside 13 = .ok (.iload_n 1, 1) := by decide +kernel
theorem dX8_layAside_14 : decode cX8_layAside 14 = .ok (.aload_n 0, 1) := by decide +kernel
theorem dX8_layAside_15 : decode cX8_layAside 15 = .ok (.getfield 7, 3) := by decide +kernel
theorem dX8_layAside_18 : decode cX8_layAside 18 = .ok (.iload_n 1, 1) := by decide +kernel
theorem dX8_layAside_19 : decode cX8_layAside 19 = .ok (.iaload, 1) := by decide +kernel
theorem dX8_layAside_20 : decode cX8_layAside 20 = .ok (.iastore, 1) := by decide +kernel
theorem dX8_layAside_21 : decode cX8_layAside 21 = .ok (.iinc 1 1, 3) := by decide +kernel
theorem dX8_layAside_24 : decode cX8_layAside 24 = .ok (.goto (-22), 3) := by decide +kernel
theorem dX8_layAside_27 : decode cX8_layAside 27 = .ok (.return_, 1) := by decide +kernel
theorem dX8_layBack_0 : decode cX8_layBack 0 = .ok (.iconst 0, 1) := by decide +kernel
theorem dX8_layBack_1 : decode cX8_layBack 1 = .ok (.istore_n 1, 1) := by decide +kernel
theorem dX8_layBack_2 : decode cX8_layBack 2 = .ok (.iload_n 1, 1) := by decide +kernel
theorem dX8_layBack_3 : decode cX8_layBack 3 = .ok (.sipush 770, 3) := by decide +kernel
theorem dX8_layBack_6 : decode cX8_layBack 6 = .ok (.if_icmp .ge 21, 3) := by decide +kernel
theorem dX8_layBack_9 : decode cX8_layBack 9 = .ok (.aload_n 0, 1) := by decide +kernel
theorem dX8_layBack_10 : decode cX8_layBack 10 = .ok (.getfield 7, 3) := by decide +kernel
theorem dX8_layBack_13 : decode cX8_layBack 13 = .ok (.iload_n 1, 1) := by decide +kernel
theorem dX8_layBack_14 : decode cX8_layBack 14 = .ok (.aload_n 0, 1) := by decide +kernel
theorem dX8_layBack_15 : decode cX8_layBack 15 = .ok (.getfield 23, 3) := by decide +kernel
theorem dX8_layBack_18 : decode cX8_layBack 18 = .ok (.iload_n 1, 1) := by decide +kernel
theorem dX8_layBack_19 : decode cX8_layBack 19 = .ok (.iaload, 1) := by decide +kernel
theorem dX8_layBack_20 : decode cX8_layBack 20 = .ok (.iastore, 1) := by decide +kernel
theorem dX8_layBack_21 : decode cX8_layBack 21 = .ok (.iinc 1 1, 3) := by decide +kernel
theorem dX8_layBack_24 : decode cX8_layBack 24 = .ok (.goto (-22), 3) := by decide +kernel
theorem dX8_layBack_27 : decode cX8_layBack 27 = .ok (.return_, 1) := by decide +kernel
theorem dX8_clear_0 : decode cX8_clear 0 = .ok (.aload_n 0, 1) := by decide +kernel
theorem dX8_clear_1 : decode cX8_clear 1 = .ok (.getfield 7, 3) := by decide +kernel
theorem dX8_clear_4 : decode cX8_clear 4 = .ok (.iload_n 1, 1) := by decide +kernel
theorem dX8_clear_5 : decode cX8_clear 5 = .ok (.bipush (-6), 2) := by decide +kernel
theorem dX8_clear_7 : decode cX8_clear 7 = .ok (.iastore, 1) := by decide +kernel
theorem dX8_clear_8 : decode cX8_clear 8 = .ok (.aload_n 0, 1) := by decide +kernel
theorem dX8_clear_9 : decode cX8_clear 9 = .ok (.getfield 7, 3) := by decide +kernel
theorem dX8_clear_12 : decode cX8_clear 12 = .ok (.iload_n 1, 1) := by decide +kernel
theorem dX8_clear_13 : decode cX8_clear 13 = .ok (.iconst 1, 1) := by decide +kernel
theorem dX8_clear_14 : decode cX8_clear 14 = .ok (.iadd, 1) := by decide +kernel
theorem dX8_clear_15 : decode cX8_clear 15 = .ok (.iconst 0, 1) := by decide +kernel
theorem dX8_clear_16 : decode cX8_clear 16 = .ok (.iastore, 1) := by decide +kernel
theorem dX8_clear_17 : decode cX8_clear 17 = .ok (.aload_n 0, 1) := by decide +kernel
theorem dX8_clear_18 : decode cX8_clear 18 = .ok (.getfield 7, 3) := by decide +kernel
theorem dX8_clear_21 : decode cX8_clear 21 = .ok (.iload_n 1, 1) := by decide +kernel
theorem dX8_clear_22 : decode cX8_clear 22 = .ok (.iconst 2, 1) := by decide +kernel
theorem dX8_clear_23 : decode cX8_clear 23 = .ok (.iadd, 1) := by decide +kernel
theorem dX8_clear_24 : decode cX8_clear 24 = .ok (.iconst 0, 1) := by decide +kernel
theorem dX8_clear_25 : decode cX8_clear 25 = .ok (.iastore, 1) := by decide +kernel
theorem dX8_clear_26 : decode cX8_clear 26 = .ok (.return_, 1) := by decide +kernel
theorem dX8_shine_0 : decode cX8_shine 0 = .ok (.aload_n 0, 1) := by decide +kernel
theorem dX8_shine_1 : decode cX8_shine 1 = .ok (.getfield 7, 3) := by decide +kernel
theorem dX8_shine_4 : decode cX8_shine 4 = .ok (.iload_n 2, 1) := by decide +kernel
theorem dX8_shine_5 : decode cX8_shine 5 = .ok (.iload_n 3, 1) := by decide +kernel
theorem dX8_shine_6 : decode cX8_shine 6 = .ok (.iastore, 1) := by decide +kernel
theorem dX8_shine_7 : decode cX8_shine 7 = .ok (.aload_n 0, 1) := by decide +kernel
theorem dX8_shine_8 : decode cX8_shine 8 = .ok (.getfield 7, 3) := by decide +kernel
theorem dX8_shine_11 : decode cX8_shine 11 = .ok (.iload_n 2, 1) := by decide +kernel
theorem dX8_shine_12 : decode cX8_shine 12 = .ok (.iconst 1, 1) := by decide +kernel
theorem dX8_shine_13 : decode cX8_shine 13 = .ok (.iadd, 1) := by decide +kernel
theorem dX8_shine_14 : decode cX8_shine 14 = .ok (.aload_n 0, 1) := by decide +kernel
theorem dX8_shine_15 : decode cX8_shine 15 = .ok (.getfield 7, 3) := by decide +kernel
theorem dX8_shine_18 : decode cX8_shine 18 = .ok (.iconst 3, 1) := by decide +kernel
theorem dX8_shine_19 : decode cX8_shine 19 = .ok (.iaload, 1) := by decide +kernel
theorem dX8_shine_20 : decode cX8_shine 20 = .ok (.iastore, 1) := by decide +kernel
theorem dX8_shine_21 : decode cX8_shine 21 = .ok (.aload_n 0, 1) := by decide +kernel
theorem dX8_shine_22 : decode cX8_shine 22 = .ok (.getfield 7, 3) := by decide +kernel
theorem dX8_shine_25 : decode cX8_shine 25 = .ok (.iload_n 2, 1) := by decide +kernel
theorem dX8_shine_26 : decode cX8_shine 26 = .ok (.iconst 2, 1) := by decide +kernel
theorem dX8_shine_27 : decode cX8_shine 27 = .ok (.iadd, 1) := by decide +kernel
theorem dX8_shine_28 : decode cX8_shine 28 = .ok (.aload_n 0, 1) := by decide +kernel
theorem dX8_shine_29 : decode cX8_shine 29 = .ok (.getfield 7, 3) := by decide +kernel
theorem dX8_shine_32 : decode cX8_shine 32 = .ok (.iconst 4, 1) := by decide +kernel
theorem dX8_shine_33 : decode cX8_shine 33 = .ok (.iaload, 1) := by decide +kernel
theorem dX8_shine_34 : decode cX8_shine 34 = .ok (.iastore, 1) := by decide +kernel
theorem dX8_shine_35 : decode cX8_shine 35 = .ok (.aload_n 0, 1) := by decide +kernel
theorem dX8_shine_36 : decode cX8_shine 36 = .ok (.iload_n 1, 1) := by decide +kernel
theorem dX8_shine_37 : decode cX8_shine 37 = .ok (.iconst 1, 1) := by decide +kernel
theorem dX8_shine_38 : decode cX8_shine 38 = .ok (.invokevirtual 60, 3) := by decide +kernel
theorem dX8_shine_41 : decode cX8_shine 41 = .ok (.return_, 1) := by decide +kernel
theorem dX8_moveTo_0 : decode cX8_moveTo 0 = .ok (.iconst 0, 1) := by decide +kernel
theorem dX8_moveTo_1 : decode cX8_moveTo 1 = .ok (.istore_n 3, 1) := by decide +kernel
theorem dX8_moveTo_2 : decode cX8_moveTo 2 = .ok (.iload_n 3, 1) := by decide +kernel
theorem dX8_moveTo_3 : decode cX8_moveTo 3 = .ok (.iconst 3, 1) := by decide +kernel
theorem dX8_moveTo_4 : decode cX8_moveTo 4 = .ok (.if_icmp .ge 25, 3) := by decide +kernel
theorem dX8_moveTo_7 : decode cX8_moveTo 7 = .ok (.aload_n 0, 1) := by decide +kernel
theorem dX8_moveTo_8 : decode cX8_moveTo 8 = .ok (.getfield 7, 3) := by decide +kernel
theorem dX8_moveTo_11 : decode cX8_moveTo 11 = .ok (.iload_n 2, 1) := by decide +kernel
theorem dX8_moveTo_12 : decode cX8_moveTo 12 = .ok (.iload_n 3, 1) := by decide +kernel
theorem dX8_moveTo_13 : decode cX8_moveTo 13 = .ok (.iadd, 1) := by decide +kernel
theorem dX8_moveTo_14 : decode cX8_moveTo 14 = .ok (.aload_n 0, 1) := by decide +kernel
theorem dX8_moveTo_15 : decode cX8_moveTo 15 = .ok (.getfield 7, 3) := by decide +kernel
theorem dX8_moveTo_18 : decode cX8_moveTo 18 = .ok (.iload_n 1, 1) := by decide +kernel
theorem dX8_moveTo_19 : decode cX8_moveTo 19 = .ok (.iload_n 3, 1) := by decide +kernel
theorem dX8_moveTo_20 : decode cX8_moveTo 20 = .ok (.iadd, 1) := by decide +kernel
theorem dX8_moveTo_21 : decode cX8_moveTo 21 = .ok (.iaload, 1) := by decide +kernel
theorem dX8_moveTo_22 : decode cX8_moveTo 22 = .ok (.iastore, 1) := by decide +kernel
theorem dX8_moveTo_23 : decode cX8_moveTo 23 = .ok (.iinc 3 1, 3) := by decide +kernel
theorem dX8_moveTo_26 : decode cX8_moveTo 26 = .ok (.goto (-24), 3) := by decide +kernel
theorem dX8_moveTo_29 : decode cX8_moveTo 29 = .ok (.aload_n 0, 1) := by decide +kernel
theorem dX8_moveTo_30 : decode cX8_moveTo 30 = .ok (.iload_n 1, 1) := by decide +kernel
theorem dX8_moveTo_31 : decode cX8_moveTo 31 = .ok (.invokevirtual 64, 3) := by decide +kernel
theorem dX8_moveTo_34 : decode cX8_moveTo 34 = .ok (.return_, 1) := by decide +kernel
theorem dX8_turnOn_0 : decode cX8_turnOn 0 = .ok (.iload_n 1, 1) := by decide +kernel
theorem dX8_turnOn_1 : decode cX8_turnOn 1 = .ok (.aload_n 0, 1) := by decide +kernel
theorem dX8_turnOn_2 : decode cX8_turnOn 2 = .ok (.iload_n 1, 1) := by decide +kernel
theorem dX8_turnOn_3 : decode cX8_turnOn 3 = .ok (.iconst 0, 1) := by decide +kernel
theorem dX8_turnOn_4 : decode cX8_turnOn 4 = .ok (.invokevirtual 46, 3) := by decide +kernel
theorem dX8_turnOn_7 : decode cX8_turnOn 7 = .ok (.iconst 1, 1) := by decide +kernel
theorem dX8_turnOn_8 : decode cX8_turnOn 8 = .ok (.isub, 1) := by decide +kernel
theorem dX8_turnOn_9 : decode cX8_turnOn 9 = .ok (.invokestatic 68, 3) := by decide +kernel
theorem dX8_turnOn_12 : decode cX8_turnOn 12 = .ok (.istore_n 2, 1) := by decide +kernel
theorem dX8_turnOn_13 : decode cX8_turnOn 13 = .ok (.aload_n 0, 1) := by decide +kernel
theorem dX8_turnOn_14 : decode cX8_turnOn 14 = .ok (.getfield 7, 3) := by decide +kernel
theorem dX8_turnOn_17 : decode cX8_turnOn 17 = .ok (.iload_n 2, 1) := by decide +kernel
theorem dX8_turnOn_18 : decode cX8_turnOn 18 = .ok (.iaload, 1) := by decide +kernel
theorem dX8_turnOn_19 : decode cX8_turnOn 19 = .ok (.istore_n 3, 1) := by decide +kernel
theorem dX8_turnOn_20 : decode cX8_turnOn 20 = .ok (.aload_n 0, 1) := by decide +kernel
theorem dX8_turnOn_21 : decode cX8_turnOn 21 = .ok (.getfield 7, 3) := by decide +kernel
theorem dX8_turnOn_24 : decode cX8_turnOn 24 = .ok (.iload_n 2, 1) := by decide +kernel
theorem dX8_turnOn_25 : decode cX8_turnOn 25 = .ok (.iconst 1, 1) := by decide +kernel
theorem dX8_turnOn_26 : decode cX8_turnOn 26 = .ok (.iadd, 1) := by decide +kernel
theorem dX8_turnOn_27 : decode cX8_turnOn 27 = .ok (.iaload, 1) := by decide +kernel
theorem dX8_turnOn_28 : decode cX8_turnOn 28 = .ok (.istore 4, 2) := by decide +kernel
theorem dX8_turnOn_30 : decode cX8_turnOn 30 = .ok (.aload_n 0, 1) := by decide +kernel
theorem dX8_turnOn_31 : decode cX8_turnOn 31 = .ok (.getfield 7, 3) := by decide +kernel
theorem dX8_turnOn_34 : decode cX8_turnOn 34 = .ok (.iload_n 2, 1) := by decide +kernel
theorem dX8_turnOn_35 : decode cX8_turnOn 35 = .ok (.iconst 2, 1) := by decide +kernel
theorem dX8_turnOn_36 : decode cX8_turnOn 36 = .ok (.iadd, 1) := by decide +kernel
theorem dX8_turnOn_37 : decode cX8_turnOn 37 = .ok (.iaload, 1) := by decide +kernel
theorem dX8_turnOn_38 : decode cX8_turnOn 38 = .ok (.istore 5, 2) := by decide +kernel
theorem dX8_turnOn_40 : decode cX8_turnOn 40 = .ok (.aload_n 0, 1) := by decide +kernel
theorem dX8_turnOn_41 : decode cX8_turnOn 41 = .ok (.iload_n 1, 1) := by decide +kernel
theorem dX8_turnOn_42 : decode cX8_turnOn 42 = .ok (.iconst 0, 1) := by decide +kernel
theorem dX8_turnOn_43 : decode cX8_turnOn 43 = .ok (.invokevirtual 46, 3) := by decide +kernel
theorem dX8_turnOn_46 : decode cX8_turnOn 46 = .ok (.iconst 1, 1) := by decide +kernel
theorem dX8_turnOn_47 : decode cX8_turnOn 47 = .ok (.isub, 1) := by decide +kernel
theorem dX8_turnOn_48 : decode cX8_turnOn 48 = .ok (.istore 6, 2) := by decide +kernel
theorem dX8_turnOn_50 : decode cX8_turnOn 50 = .ok (.iload 6, 2) := by decide +kernel
theorem dX8_turnOn_52 : decode cX8_turnOn 52 = .ok (.ifCond .le 27, 3) := by decide +kernel
theorem dX8_turnOn_55 : decode cX8_turnOn 55 = .ok (.aload_n 0, 1) := by decide +kernel
theorem dX8_turnOn_56 : decode cX8_turnOn 56 = .ok (.iload_n 1, 1) := by decide +kernel
theorem dX8_turnOn_57 : decode cX8_turnOn 57 = .ok (.iload 6, 2) := by decide +kernel
theorem dX8_turnOn_59 : decode cX8_turnOn 59 = .ok (.iconst 1, 1) := by decide +kernel
theorem dX8_turnOn_60 : decode cX8_turnOn 60 = .ok (.isub, 1) := by decide +kernel
theorem dX8_turnOn_61 : decode cX8_turnOn 61 = .ok (.invokestatic 68, 3) := by decide +kernel
theorem dX8_turnOn_64 : decode cX8_turnOn 64 = .ok (.iload_n 1, 1) := by decide +kernel
theorem dX8_turnOn_65 : decode cX8_turnOn 65 = .ok (.iload 6, 2) := by decide +kernel
theorem dX8_turnOn_67 : decode cX8_turnOn 67 = .ok (.invokestatic 68, 3) := by decide +kernel
theorem dX8_turnOn_70 : decode cX8_turnOn 70 = .ok (.invokevirtual 71, 3) := by decide +kernel
theorem dX8_turnOn_73 : decode cX8_turnOn 73 = .ok (.iinc 6 (-1), 3) := by decide +kernel
theorem dX8_turnOn_76 : decode cX8_turnOn 76 = .ok (.goto (-26), 3) := by decide +kernel
theorem dX8_turnOn_79 : decode cX8_turnOn 79 = .ok (.iload_n 1, 1) := by decide +kernel
theorem dX8_turnOn_80 : decode cX8_turnOn 80 = .ok (.iconst 0, 1) := by decide +kernel
theorem dX8_turnOn_81 : decode cX8_turnOn 81 = .ok (.invokestatic 68, 3) := by decide +kernel
theorem dX8_turnOn_84 : decode cX8_turnOn 84 = .ok (.istore 6, 2) := by decide +kernel
theorem dX8_turnOn_86 : decode cX8_turnOn 86 = .ok (.aload_n 0, 1) := by decide +kernel
theorem dX8_turnOn_87 : decode cX8_turnOn 87 = .ok (.getfield 7, 3) := by decide +kernel
theorem dX8_turnOn_90 : decode cX8_turnOn 90 = .ok (.iload 6, 2) := by decide +kernel
theorem dX8_turnOn_92 : decode cX8_turnOn 92 = .ok (.iload_n 3, 1) := by decide +kernel
theorem dX8_turnOn_93 : decode cX8_turnOn 93 = .ok (.iastore, 1) := by decide +kernel
theorem dX8_turnOn_94 : decode cX8_turnOn 94 = .ok (.aload_n 0, 1) := by decide +kernel
theorem dX8_turnOn_95 : decode cX8_turnOn 95 = .ok (.getfield 7, 3) := by decide +kernel
theorem dX8_turnOn_98 : decode cX8_turnOn 98 = .ok (.iload 6, 2) := by decide +kernel
theorem dX8_turnOn_100 : decode cX8_turnOn 100 = .ok (.iconst 1, 1) := by decide +kernel
theorem dX8_turnOn_101 : decode cX8_turnOn 101 = .ok (.iadd, 1) := by decide +kernel
theorem dX8_turnOn_102 : decode cX8_turnOn 102 = .ok (.iload 4, 2) := by decide +kernel
theorem dX8_turnOn_104 : decode cX8_turnOn 104 = .ok (.iastore, 1) := by decide +kernel
theorem dX8_turnOn_105 : decode cX8_turnOn 105 = .ok (.aload_n 0, 1) := by decide +kernel
theorem dX8_turnOn_106 : decode cX8_turnOn 106 = .ok (.getfield 7, 3) := by decide +kernel
theorem dX8_turnOn_109 : decode cX8_turnOn 109 = .ok (.iload 6, 2) := by decide +kernel
theorem dX8_turnOn_111 : decode cX8_turnOn 111 = .ok (.iconst 2, 1) := by decide +kernel
theorem dX8_turnOn_112 : decode cX8_turnOn 112 = .ok (.iadd, 1) := by decide +kernel
theorem dX8_turnOn_113 : decode cX8_turnOn 113 = .ok (.iload 5, 2) := by decide +kernel
theorem dX8_turnOn_115 : decode cX8_turnOn 115 = .ok (.iastore, 1) := by decide +kernel
theorem dX8_turnOn_116 : decode cX8_turnOn 116 = .ok (.return_, 1) := by decide +kernel
theorem dX8_fade_0 : decode cX8_fade 0 = .ok (.aload_n 0, 1) := by decide +kernel
theorem dX8_fade_1 : decode cX8_fade 1 = .ok (.getfield 7, 3) := by decide +kernel
theorem dX8_fade_4 : decode cX8_fade 4 = .ok (.iload_n 2, 1) := by decide +kernel
theorem dX8_fade_5 : decode cX8_fade 5 = .ok (.iconst 1, 1) := by decide +kernel
theorem dX8_fade_6 : decode cX8_fade 6 = .ok (.iadd, 1) := by decide +kernel
theorem dX8_fade_7 : decode cX8_fade 7 = .ok (.dup2, 1) := by decide +kernel
theorem dX8_fade_8 : decode cX8_fade 8 = .ok (.iaload, 1) := by decide +kernel
theorem dX8_fade_9 : decode cX8_fade 9 = .ok (.iload_n 3, 1) := by decide +kernel
theorem dX8_fade_10 : decode cX8_fade 10 = .ok (.isub, 1) := by decide +kernel
theorem dX8_fade_11 : decode cX8_fade 11 = .ok (.iastore, 1) := by decide +kernel
theorem dX8_fade_12 : decode cX8_fade 12 = .ok (.aload_n 0, 1) := by decide +kernel
theorem dX8_fade_13 : decode cX8_fade 13 = .ok (.getfield 7, 3) := by decide +kernel
theorem dX8_fade_16 : decode cX8_fade 16 = .ok (.iload_n 2, 1) := by decide +kernel
theorem dX8_fade_17 : decode cX8_fade 17 = .ok (.iconst 1, 1) := by decide +kernel
theorem dX8_fade_18 : decode cX8_fade 18 = .ok (.iadd, 1) := by decide +kernel
theorem dX8_fade_19 : decode cX8_fade 19 = .ok (.iaload, 1) := by decide +kernel
theorem dX8_fade_20 : decode cX8_fade 20 = .ok (.ifCond .gt 14, 3) := by decide +kernel
theorem dX8_fade_23 : decode cX8_fade 23 = .ok (.aload_n 0, 1) := by decide +kernel
theorem dX8_fade_24 : decode cX8_fade 24 = .ok (.iload_n 2, 1) := by decide +kernel
theorem dX8_fade_25 : decode cX8_fade 25 = .ok (.invokevirtual 64, 3) := by decide +kernel
theorem dX8_fade_28 : decode cX8_fade 28 = .ok (.aload_n 0, 1) := by decide +kernel
theorem dX8_fade_29 : decode cX8_fade 29 = .ok (.iload_n 1, 1) := by decide +kernel
theorem dX8_fade_30 : decode cX8_fade 30 = .ok (.iconst 2, 1) := by decide +kernel
theorem dX8_fade_31 : decode cX8_fade 31 = .ok (.invokevirtual 60, 3) := by decide +kernel
theorem dX8_fade_34 : decode cX8_fade 34 = .ok (.return_, 1) := by decide +kernel
theorem dX8_fadeAll_0 : decode cX8_fadeAll 0 = .ok (.iconst 0, 1) := by decide +kernel
theorem dX8_fadeAll_1 : decode cX8_fadeAll 1 = .ok (.istore_n 2, 1) := by decide +kernel
theorem dX8_fadeAll_2 : decode cX8_fadeAll 2 = .ok (.iload_n 2, 1) := by decide +kernel
theorem dX8_fadeAll_3 : decode cX8_fadeAll 3 = .ok (.aload_n 0, 1) := by decide +kernel
theorem dX8_fadeAll_4 : decode cX8_fadeAll 4 = .ok (.iload_n 1, 1) := by decide +kernel
theorem dX8_fadeAll_5 : decode cX8_fadeAll 5 = .ok (.iconst 0, 1) := by decide +kernel
theorem dX8_fadeAll_6 : decode cX8_fadeAll 6 = .ok (.invokevirtual 46, 3) := by decide +kernel
theorem dX8_fadeAll_9 : decode cX8_fadeAll 9 = .ok (.if_icmp .ge 36, 3) := by decide +kernel
theorem dX8_fadeAll_12 : decode cX8_fadeAll 12 = .ok (.iload_n 1, 1) := by decide +kernel
theorem dX8_fadeAll_13 : decode cX8_fadeAll 13 = .ok (.iload_n 2, 1) := by decide +kernel
theorem dX8_fadeAll_14 : decode cX8_fadeAll 14 = .ok (.invokestatic 68, 3) := by decide +kernel
theorem dX8_fadeAll_17 : decode cX8_fadeAll 17 = .ok (.istore_n 3, 1) := by decide +kernel
theorem dX8_fadeAll_18 : decode cX8_fadeAll 18 = .ok (.aload_n 0, 1) := by decide +kernel
theorem dX8_fadeAll_19 : decode cX8_fadeAll 19 = .ok (.getfield 7, 3) := by decide +kernel
theorem dX8_fadeAll_22 : decode cX8_fadeAll 22 = .ok (.iload_n 3, 1) := by decide +kernel
theorem dX8_fadeAll_23 : decode cX8_fadeAll 23 = .ok (.iaload, 1) := by decide +kernel
theorem dX8_fadeAll_24 : decode cX8_fadeAll 24 = .ok (.ifCond .lt 15, 3) := by decide +kernel
theorem dX8_fadeAll_27 : decode cX8_fadeAll 27 = .ok (.aload_n 0, 1) := by decide +kernel
theorem dX8_fadeAll_28 : decode cX8_fadeAll 28 = .ok (.iload_n 1, 1) := by decide +kernel
theorem dX8_fadeAll_29 : decode cX8_fadeAll 29 = .ok (.iload_n 3, 1) := by decide +kernel
theorem dX8_fadeAll_30 : decode cX8_fadeAll 30 = .ok (.aload_n 0, 1) := by decide +kernel
theorem dX8_fadeAll_31 : decode cX8_fadeAll 31 = .ok (.getfield 7, 3) := by decide +kernel
theorem dX8_fadeAll_34 : decode cX8_fadeAll 34 = .ok (.iconst 0, 1) := by decide +kernel
theorem dX8_fadeAll_35 : decode cX8_fadeAll 35 = .ok (.iaload, 1) := by decide +kernel
theorem dX8_fadeAll_36 : decode cX8_fadeAll 36 = .ok (.invokevirtual 74, 3) := by decide +kernel
theorem dX8_fadeAll_39 : decode cX8_fadeAll 39 = .ok (.iinc 2 1, 3) := by decide +kernel
theorem dX8_fadeAll_42 : decode cX8_fadeAll 42 = .ok (.goto (-40), 3) := by decide +kernel
theorem dX8_fadeAll_45 : decode cX8_fadeAll 45 = .ok (.return_, 1) := by decide +kernel
theorem dX8_did_0 : decode cX8_did 0 = .ok (.aload_n 0, 1) := by decide +kernel
theorem dX8_did_1 : decode cX8_did 1 = .ok (.iload_n 1, 1) := by decide +kernel
theorem dX8_did_2 : decode cX8_did 2 = .ok (.bipush 6, 2) := by decide +kernel
theorem dX8_did_4 : decode cX8_did 4 = .ok (.aload_n 0, 1) := by decide +kernel
theorem dX8_did_5 : decode cX8_did 5 = .ok (.iload_n 1, 1) := by decide +kernel
theorem dX8_did_6 : decode cX8_did 6 = .ok (.bipush 6, 2) := by decide +kernel
theorem dX8_did_8 : decode cX8_did 8 = .ok (.invokevirtual 78, 3) := by decide +kernel
theorem dX8_did_11 : decode cX8_did 11 = .ok (.iconst 1, 1) := by decide +kernel
theorem dX8_did_12 : decode cX8_did 12 = .ok (.iadd, 1) := by decide +kernel
theorem dX8_did_13 : decode cX8_did 13 = .ok (.invokevirtual 81, 3) := by decide +kernel
theorem dX8_did_16 : decode cX8_did 16 = .ok (.return_, 1) := by decide +kernel
theorem dX8_amplify_0 : decode cX8_amplify 0 = .ok (.aload_n 0, 1) := by decide +kernel
theorem dX8_amplify_1 : decode cX8_amplify 1 = .ok (.iload_n 1, 1) := by decide +kernel
theorem dX8_amplify_2 : decode cX8_amplify 2 = .ok (.iconst 3, 1) := by decide +kernel
theorem dX8_amplify_3 : decode cX8_amplify 3 = .ok (.invokevirtual 78, 3) := by decide +kernel
theorem dX8_amplify_6 : decode cX8_amplify 6 = .ok (.istore_n 3, 1) := by decide +kernel
theorem dX8_amplify_7 : decode cX8_amplify 7 = .ok (.iload_n 3, 1) := by decide +kernel
theorem dX8_amplify_8 : decode cX8_amplify 8 = .ok (.aload_n 0, 1) := by decide +kernel
theorem dX8_amplify_9 : decode cX8_amplify 9 = .ok (.iload_n 1, 1) := by decide +kernel
theorem dX8_amplify_10 : decode cX8_amplify 10 = .ok (.iconst 5, 1) := by decide +kernel
theorem dX8_amplify_11 : decode cX8_amplify 11 = .ok (.invokevirtual 78, 3) := by decide +kernel
theorem dX8_amplify_14 : decode cX8_amplify 14 = .ok (.if_icmp .ge 7, 3) := by decide +kernel
theorem dX8_amplify_17 : decode cX8_amplify 17 = .ok (.iload_n 3, 1) := by decide +kernel
theorem dX8_amplify_18 : decode cX8_amplify 18 = .ok (.goto 9, 3) := by decide +kernel
theorem dX8_amplify_21 : decode cX8_amplify 21 = .ok (.aload_n 0, 1) := by decide +kernel
theorem dX8_amplify_22 : decode cX8_amplify 22 = .ok (.iload_n 1, 1) := by decide +kernel
theorem dX8_amplify_23 : decode cX8_amplify 23 = .ok (.iconst 5, 1) := by decide +kernel
theorem dX8_amplify_24 : decode cX8_amplify 24 = .ok (.invokevirtual 78, 3) := by decide +kernel
theorem dX8_amplify_27 : decode cX8_amplify 27 = .ok (.istore_n 3, 1) := by decide +kernel
theorem dX8_amplify_28 : decode cX8_amplify 28 = .ok (.iload_n 3, 1) := by decide +kernel
theorem dX8_amplify_29 : decode cX8_amplify 29 = .ok (.sipush 1000, 3) := by decide +kernel
theorem dX8_amplify_32 : decode cX8_amplify 32 = .ok (.aload_n 0, 1) := by decide +kernel
theorem dX8_amplify_33 : decode cX8_amplify 33 = .ok (.getfield 7, 3) := by decide +kernel
theorem dX8_amplify_36 : decode cX8_amplify 36 = .ok (.iload_n 2, 1) := by decide +kernel
theorem dX8_amplify_37 : decode cX8_amplify 37 = .ok (.iconst 1, 1) := by decide +kernel
theorem dX8_amplify_38 : decode cX8_amplify 38 = .ok (.iadd, 1) := by decide +kernel
theorem dX8_amplify_39 : decode cX8_amplify 39 = .ok (.iaload, 1) := by decide +kernel
theorem dX8_amplify_40 : decode cX8_amplify 40 = .ok (.isub, 1) := by decide +kernel
theorem dX8_amplify_41 : decode cX8_amplify 41 = .ok (.if_icmp .ge 7, 3) := by decide +kernel
theorem dX8_amplify_44 : decode cX8_amplify 44 = .ok (.iload_n 3, 1) := by decide +kernel
theorem dX8_amplify_45 : decode cX8_amplify 45 = .ok (.goto 15, 3) := by decide +kernel
theorem dX8_amplify_48 : decode cX8_amplify 48 = .ok (.sipush 1000, 3) := by decide +kernel
theorem dX8_amplify_51 : decode cX8_amplify 51 = .ok (.aload_n 0, 1) := by decide +kernel
theorem dX8_amplify_52 : decode cX8_amplify 52 = .ok (.getfield 7, 3) := by decide +kernel
theorem dX8_amplify_55 : decode cX8_amplify 55 = .ok (.iload_n 2, 1) := by decide +kernel
theorem dX8_amplify_56 : decode cX8_amplify 56 = .ok (.iconst 1, 1) := by decide +kernel
theorem dX8_amplify_57 : decode cX8_amplify 57 = .ok (.iadd, 1) := by decide +kernel
theorem dX8_amplify_58 : decode cX8_amplify 58 = .ok (.iaload, 1) := by decide +kernel
theorem dX8_amplify_59 : decode cX8_amplify 59 = .ok (.isub, 1) := by decide +kernel
theorem dX8_amplify_60 : decode cX8_amplify 60 = .ok (.istore_n 3, 1) := by decide +kernel
theorem dX8_amplify_61 : decode cX8_amplify 61 = .ok (.aload_n 0, 1) := by decide +kernel
theorem dX8_amplify_62 : decode cX8_amplify 62 = .ok (.getfield 7, 3) := by decide +kernel
theorem dX8_amplify_65 : decode cX8_amplify 65 = .ok (.iload_n 2, 1) := by decide +kernel
theorem dX8_amplify_66 : decode cX8_amplify 66 = .ok (.iconst 1, 1) := by decide +kernel
theorem dX8_amplify_67 : decode cX8_amplify 67 = .ok (.iadd, 1) := by decide +kernel
theorem dX8_amplify_68 : decode cX8_amplify 68 = .ok (.dup2, 1) := by decide +kernel
theorem dX8_amplify_69 : decode cX8_amplify 69 = .ok (.iaload, 1) := by decide +kernel
theorem dX8_amplify_70 : decode cX8_amplify 70 = .ok (.iload_n 3, 1) := by decide +kernel
theorem dX8_amplify_71 : decode cX8_amplify 71 = .ok (.iadd, 1) := by decide +kernel
theorem dX8_amplify_72 : decode cX8_amplify 72 = .ok (.iastore, 1) := by decide +kernel
theorem dX8_amplify_73 : decode cX8_amplify 73 = .ok (.aload_n 0, 1) := by decide +kernel
theorem dX8_amplify_74 : decode cX8_amplify 74 = .ok (.iload_n 1, 1) := by decide +kernel
theorem dX8_amplify_75 : decode cX8_amplify 75 = .ok (.iconst 5, 1) := by decide +kernel
theorem dX8_amplify_76 : decode cX8_amplify 76 = .ok (.aload_n 0, 1) := by decide +kernel
theorem dX8_amplify_77 : decode cX8_amplify 77 = .ok (.iload_n 1, 1) := by decide +kernel
theorem dX8_amplify_78 : decode cX8_amplify 78 = .ok (.iconst 5, 1) := by decide +kernel
theorem dX8_amplify_79 : decode cX8_amplify 79 = .ok (.invokevirtual 78, 3) := by decide +kernel
theorem dX8_amplify_82 : decode cX8_amplify 82 = .ok (.iload_n 3, 1) := by decide +kernel
theorem dX8_amplify_83 : decode cX8_amplify 83 = .ok (.isub, 1) := by decide +kernel
theorem dX8_amplify_84 : decode cX8_amplify 84 = .ok (.invokevirtual 81, 3) := by decide +kernel
theorem dX8_amplify_87 : decode cX8_amplify 87 = .ok (.iload_n 3, 1) := by decide +kernel
theorem dX8_amplify_88 : decode cX8_amplify 88 = .ok (.ifCond .le 8, 3) := by decide +kernel
theorem dX8_amplify_91 : decode cX8_amplify 91 = .ok (.aload_n 0, 1) := by decide +kernel
theorem dX8_amplify_92 : decode cX8_amplify 92 = .ok (.iload_n 1, 1) := by decide +kernel
theorem dX8_amplify_93 : decode cX8_amplify 93 = .ok (.invokevirtual 84, 3) := by decide +kernel
theorem dX8_amplify_96 : decode cX8_amplify 96 = .ok (.return_, 1) := by decide +kernel
theorem dX8_note_0 : decode cX8_note 0 = .ok (.bipush 7, 2) := by decide +kernel
theorem dX8_note_2 : decode cX8_note 2 = .ok (.istore_n 3, 1) := by decide +kernel
theorem dX8_note_3 : decode cX8_note 3 = .ok (.iload_n 3, 1) := by decide +kernel
theorem dX8_note_4 : decode cX8_note 4 = .ok (.ifCond .le 29, 3) := by decide +kernel
theorem dX8_note_7 : decode cX8_note 7 = .ok (.aload_n 0, 1) := by decide +kernel
theorem dX8_note_8 : decode cX8_note 8 = .ok (.iload_n 1, 1) := by decide +kernel
theorem dX8_note_9 : decode cX8_note 9 = .ok (.bipush 7, 2) := by decide +kernel
theorem dX8_note_11 : decode cX8_note 11 = .ok (.iload_n 3, 1) := by decide +kernel
theorem dX8_note_12 : decode cX8_note 12 = .ok (.iadd, 1) := by decide +kernel
theorem dX8_note_13 : decode cX8_note 13 = .ok (.aload_n 0, 1) := by decide +kernel
theorem dX8_note_14 : decode cX8_note 14 = .ok (.iload_n 1, 1) := by decide +kernel
theorem dX8_note_15 : decode cX8_note 15 = .ok (.bipush 7, 2) := by decide +kernel
theorem dX8_note_17 : decode cX8_note 17 = .ok (.iload_n 3, 1) := by decide +kernel
theorem dX8_note_18 : decode cX8_note 18 = .ok (.iadd, 1) := by decide +kernel
theorem dX8_note_19 : decode cX8_note 19 = .ok (.iconst 1, 1) := by decide +kernel
theorem dX8_note_20 : decode cX8_note 20 = .ok (.isub, 1) := by decide +kernel
theorem dX8_note_21 : decode cX8_note 21 = .ok (.invokevirtual 78, 3) := by decide +kernel
theorem dX8_note_24 : decode cX8_note 24 = .ok (.invokevirtual 81, 3) := by decide +kernel
theorem dX8_note_27 : decode cX8_note 27 = .ok (.iinc 3 (-1), 3) := by decide +kernel
theorem dX8_note_30 : decode cX8_note 30 = .ok (.goto (-27), 3) := by decide +kernel
theorem dX8_note_33 : decode cX8_note 33 = .ok (.aload_n 0, 1) := by decide +kernel
theorem dX8_note_34 : decode cX8_note 34 = .ok (.iload_n 1, 1) := by decide +kernel
theorem dX8_note_35 : decode cX8_note 35 = .ok (.bipush 7, 2) := by decide +kernel
theorem dX8_note_37 : decode cX8_note 37 = .ok (.aload_n 0, 1) := by decide +kernel
theorem dX8_note_38 : decode cX8_note 38 = .ok (.getfield 7, 3) := by decide +kernel
theorem dX8_note_41 : decode cX8_note 41 = .ok (.iload_n 2, 1) := by decide +kernel
theorem dX8_note_42 : decode cX8_note 42 = .ok (.iaload, 1) := by decide +kernel
theorem dX8_note_43 : decode cX8_note 43 = .ok (.invokevirtual 81, 3) := by decide +kernel
theorem dX8_note_46 : decode cX8_note 46 = .ok (.aload_n 0, 1) := by decide +kernel
theorem dX8_note_47 : decode cX8_note 47 = .ok (.iload_n 1, 1) := by decide +kernel
theorem dX8_note_48 : decode cX8_note 48 = .ok (.iconst 5, 1) := by decide +kernel
theorem dX8_note_49 : decode cX8_note 49 = .ok (.aload_n 0, 1) := by decide +kernel
theorem dX8_note_50 : decode cX8_note 50 = .ok (.iload_n 1, 1) := by decide +kernel
theorem dX8_note_51 : decode cX8_note 51 = .ok (.iconst 5, 1) := by decide +kernel
theorem dX8_note_52 : decode cX8_note 52 = .ok (.invokevirtual 78, 3) := by decide +kernel
theorem dX8_note_55 : decode cX8_note 55 = .ok (.bipush 8, 2) := by decide +kernel
theorem dX8_note_57 : decode cX8_note 57 = .ok (.if_icmp .ge 14, 3) := by decide +kernel
theorem dX8_note_60 : decode cX8_note 60 = .ok (.aload_n 0, 1) := by decide +kernel
theorem dX8_note_61 : decode cX8_note 61 = .ok (.iload_n 1, 1) := by decide +kernel
theorem dX8_note_62 : decode cX8_note 62 = .ok (.iconst 5, 1) := by decide +kernel
theorem dX8_note_63 : decode cX8_note 63 = .ok (.invokevirtual 78, 3) := by decide +kernel
theorem dX8_note_66 : decode cX8_note 66 = .ok (.iconst 1, 1) := by decide +kernel
theorem dX8_note_67 : decode cX8_note 67 = .ok (.iadd, 1) := by decide +kernel
theorem dX8_note_68 : decode cX8_note 68 = .ok (.goto 5, 3) := by decide +kernel
theorem dX8_note_71 : decode cX8_note 71 = .ok (.bipush 8, 2) := by decide +kernel
theorem dX8_note_73 : decode cX8_note 73 = .ok (.invokevirtual 81, 3) := by decide +kernel
theorem dX8_note_76 : decode cX8_note 76 = .ok (.aload_n 0, 1) := by decide +kernel
theorem dX8_note_77 : decode cX8_note 77 = .ok (.iload_n 1, 1) := by decide +kernel
theorem dX8_note_78 : decode cX8_note 78 = .ok (.invokevirtual 84, 3) := by decide +kernel
theorem dX8_note_81 : decode cX8_note 81 = .ok (.aload_n 0, 1) := by decide +kernel
theorem dX8_note_82 : decode cX8_note 82 = .ok (.aload_n 0, 1) := by decide +kernel
theorem dX8_note_83 : decode cX8_note 83 = .ok (.iload_n 1, 1) := by decide +kernel
theorem dX8_note_84 : decode cX8_note 84 = .ok (.iconst 1, 1) := by decide +kernel
theorem dX8_note_85 : decode cX8_note 85 = .ok (.invokevirtual 78, 3) := by decide +kernel
theorem dX8_note_88 : decode cX8_note 88 = .ok (.iload_n 2, 1) := by decide +kernel
theorem dX8_note_89 : decode cX8_note 89 = .ok (.aload_n 0, 1) := by decide +kernel
theorem dX8_note_90 : decode cX8_note 90 = .ok (.getfield 7, 3) := by decide +kernel
theorem dX8_note_93 : decode cX8_note 93 = .ok (.iconst 1, 1) := by decide +kernel
theorem dX8_note_94 : decode cX8_note 94 = .ok (.iaload, 1) := by decide +kernel
theorem dX8_note_95 : decode cX8_note 95 = .ok (.invokevirtual 74, 3) := by decide +kernel
theorem dX8_note_98 : decode cX8_note 98 = .ok (.return_, 1) := by decide +kernel
theorem dX8_putIn_0 : decode cX8_putIn 0 = .ok (.aload_n 0, 1) := by decide +kernel
theorem dX8_putIn_1 : decode cX8_putIn 1 = .ok (.aload_n 0, 1) := by decide +kernel
theorem dX8_putIn_2 : decode cX8_putIn 2 = .ok (.iload_n 1, 1) := by decide +kernel
theorem dX8_putIn_3 : decode cX8_putIn 3 = .ok (.iconst 1, 1) := by decide +kernel
theorem dX8_putIn_4 : decode cX8_putIn 4 = .ok (.invokevirtual 78, 3) := by decide +kernel
theorem dX8_putIn_7 : decode cX8_putIn 7 = .ok (.iload_n 2, 1) := by decide +kernel
theorem dX8_putIn_8 : decode cX8_putIn 8 = .ok (.aload_n 0, 1) := by decide +kernel
theorem dX8_putIn_9 : decode cX8_putIn 9 = .ok (.iload_n 1, 1) := by decide +kernel
theorem dX8_putIn_10 : decode cX8_putIn 10 = .ok (.bipush 7, 2) := by decide +kernel
theorem dX8_putIn_12 : decode cX8_putIn 12 = .ok (.invokevirtual 78, 3) := by decide +kernel
theorem dX8_putIn_15 : decode cX8_putIn 15 = .ok (.invokevirtual 87, 3) := by decide +kernel
theorem dX8_putIn_18 : decode cX8_putIn 18 = .ok (.aload_n 0, 1) := by decide +kernel
theorem dX8_putIn_19 : decode cX8_putIn 19 = .ok (.iload_n 1, 1) := by decide +kernel
theorem dX8_putIn_20 : decode cX8_putIn 20 = .ok (.iconst 5, 1) := by decide +kernel
theorem dX8_putIn_21 : decode cX8_putIn 21 = .ok (.aload_n 0, 1) := by decide +kernel
theorem dX8_putIn_22 : decode cX8_putIn 22 = .ok (.iload_n 1, 1) := by decide +kernel
theorem dX8_putIn_23 : decode cX8_putIn 23 = .ok (.iconst 5, 1) := by decide +kernel
theorem dX8_putIn_24 : decode cX8_putIn 24 = .ok (.invokevirtual 78, 3) := by decide +kernel
theorem dX8_putIn_27 : decode cX8_putIn 27 = .ok (.iconst 1, 1) := by decide +kernel
theorem dX8_putIn_28 : decode cX8_putIn 28 = .ok (.isub, 1) := by decide +kernel
theorem dX8_putIn_29 : decode cX8_putIn 29 = .ok (.invokevirtual 81, 3) := by decide +kernel
theorem dX8_putIn_32 : decode cX8_putIn 32 = .ok (.iconst 0, 1) := by decide +kernel
theorem dX8_putIn_33 : decode cX8_putIn 33 = .ok (.istore_n 3, 1) := by decide +kernel
theorem dX8_putIn_34 : decode cX8_putIn 34 = .ok (.iload_n 3, 1) := by decide +kernel
theorem dX8_putIn_35 : decode cX8_putIn 35 = .ok (.aload_n 0, 1) := by decide +kernel
theorem dX8_putIn_36 : decode cX8_putIn 36 = .ok (.iload_n 1, 1) := by decide +kernel
theorem dX8_putIn_37 : decode cX8_putIn 37 = .ok (.iconst 5, 1) := by decide +kernel
theorem dX8_putIn_38 : decode cX8_putIn 38 = .ok (.invokevirtual 78, 3) := by decide +kernel
theorem dX8_putIn_41 : decode cX8_putIn 41 = .ok (.if_icmp .ge 29, 3) := by decide +kernel
theorem dX8_putIn_44 : decode cX8_putIn 44 = .ok (.aload_n 0, 1) := by decide +kernel
theorem dX8_putIn_45 : decode cX8_putIn 45 = .ok (.iload_n 1, 1) := by decide +kernel
theorem dX8_putIn_46 : decode cX8_putIn 46 = .ok (.bipush 7, 2) := by decide +kernel
theorem dX8_putIn_48 : decode cX8_putIn 48 = .ok (.iload_n 3, 1) := by decide +kernel
theorem dX8_putIn_49 : decode cX8_putIn 49 = .ok (.iadd, 1) := by decide +kernel
theorem dX8_putIn_50 : decode cX8_putIn 50 = .ok (.aload_n 0, 1) := by decide +kernel
theorem dX8_putIn_51 : decode cX8_putIn 51 = .ok (.iload_n 1, 1) := by decide +kernel
theorem dX8_putIn_52 : decode cX8_putIn 52 = .ok (.bipush 7, 2) := by decide +kernel
theorem dX8_putIn_54 : decode cX8_putIn 54 = .ok (.iload_n 3, 1) := by decide +kernel
theorem dX8_putIn_55 : decode cX8_putIn 55 = .ok (.iadd, 1) := by decide +kernel
theorem dX8_putIn_56 : decode cX8_putIn 56 = .ok (.iconst 1, 1) := by decide +kernel
theorem dX8_putIn_57 : decode cX8_putIn 57 = .ok (.iadd, 1) := by decide +kernel
theorem dX8_putIn_58 : decode cX8_putIn 58 = .ok (.invokevirtual 78, 3) := by decide +kernel
theorem dX8_putIn_61 : decode cX8_putIn 61 = .ok (.invokevirtual 81, 3) := by decide +kernel
theorem dX8_putIn_64 : decode cX8_putIn 64 = .ok (.iinc 3 1, 3) := by decide +kernel
theorem dX8_putIn_67 : decode cX8_putIn 67 = .ok (.goto (-33), 3) := by decide +kernel
theorem dX8_putIn_70 : decode cX8_putIn 70 = .ok (.aload_n 0, 1) := by decide +kernel
theorem dX8_putIn_71 : decode cX8_putIn 71 = .ok (.iload_n 1, 1) := by decide +kernel
theorem dX8_putIn_72 : decode cX8_putIn 72 = .ok (.invokevirtual 84, 3) := by decide +kernel
theorem dX8_putIn_75 : decode cX8_putIn 75 = .ok (.return_, 1) := by decide +kernel
theorem dX8_act_0 : decode cX8_act 0 = .ok (.aload_n 0, 1) := by decide +kernel
theorem dX8_act_1 : decode cX8_act 1 = .ok (.iload_n 1, 1) := by decide +kernel
theorem dX8_act_2 : decode cX8_act 2 = .ok (.iconst 1, 1) := by decide +kernel
theorem dX8_act_3 : decode cX8_act 3 = .ok (.invokevirtual 78, 3) := by decide +kernel
theorem dX8_act_6 : decode cX8_act 6 = .ok (.aload_n 0, 1) := by decide +kernel
theorem dX8_act_7 : decode cX8_act 7 = .ok (.iload_n 1, 1) := by decide +kernel
theorem dX8_act_8 : decode cX8_act 8 = .ok (.iconst 2, 1) := by decide +kernel
theorem dX8_act_9 : decode cX8_act 9 = .ok (.invokevirtual 78, 3) := by decide +kernel
theorem dX8_act_12 : decode cX8_act 12 = .ok (.invokestatic 68, 3) := by decide +kernel
theorem dX8_act_15 : decode cX8_act 15 = .ok (.istore_n 2, 1) := by decide +kernel
theorem dX8_act_16 : decode cX8_act 16 = .ok (.aload_n 0, 1) := by decide +kernel
theorem dX8_act_17 : decode cX8_act 17 = .ok (.getfield 7, 3) := by decide +kernel
theorem dX8_act_20 : decode cX8_act 20 = .ok (.iload_n 2, 1) := by decide +kernel
theorem dX8_act_21 : decode cX8_act 21 = .ok (.iaload, 1) := by decide +kernel
theorem dX8_act_22 : decode cX8_act 22 = .ok (.istore_n 3, 1) := by decide +kernel
theorem dX8_act_23 : decode cX8_act 23 = .ok (.aload_n 0, 1) := by decide +kernel
theorem dX8_act_24 : decode cX8_act 24 = .ok (.iload_n 1, 1) := by decide +kernel
theorem dX8_act_25 : decode cX8_act 25 = .ok (.iconst 0, 1) := by decide +kernel
theorem dX8_act_26 : decode cX8_act 26 = .ok (.invokevirtual 78, 3) := by decide +kernel
theorem dX8_act_29 : decode cX8_act 29 = .ok (.tableswitch 109 0 3 #[31, 44, 57, 79], 31) := by decide +kernel
theorem dX8_act_60 : decode cX8_act 60 = .ok (.iload_n 3, 1) := by decide +kernel
theorem dX8_act_61 : decode cX8_act 61 = .ok (.ifCond .lt 108, 3) := by decide +kernel
theorem dX8_act_64 : decode cX8_act 64 = .ok (.aload_n 0, 1) := by decide +kernel
theorem dX8_act_65 : decode cX8_act 65 = .ok (.iload_n 1, 1) := by decide +kernel
theorem dX8_act_66 : decode cX8_act 66 = .ok (.iload_n 2, 1) := by decide +kernel
theorem dX8_act_67 : decode cX8_act 67 = .ok (.invokevirtual 90, 3) := by decide +kernel
theorem dX8_act_70 : decode cX8_act 70 = .ok (.goto 99, 3) := by decide +kernel
theorem dX8_act_73 : decode cX8_act 73 = .ok (.iload_n 3, 1) := by decide +kernel
theorem dX8_act_74 : decode cX8_act 74 = .ok (.ifCond .lt 95, 3) := by decide +kernel
theorem dX8_act_77 : decode cX8_act 77 = .ok (.aload_n 0, 1) := by decide +kernel
theorem dX8_act_78 : decode cX8_act 78 = .ok (.iload_n 1, 1) := by decide +kernel
theorem dX8_act_79 : decode cX8_act 79 = .ok (.iload_n 2, 1) := by decide +kernel
theorem dX8_act_80 : decode cX8_act 80 = .ok (.invokevirtual 93, 3) := by decide +kernel
theorem dX8_act_83 : decode cX8_act 83 = .ok (.goto 86, 3) := by decide +kernel
theorem dX8_act_86 : decode cX8_act 86 = .ok (.iload_n 3, 1) := by decide +kernel
theorem dX8_act_87 : decode cX8_act 87 = .ok (.ifCond .ge 82, 3) := by decide +kernel
theorem dX8_act_90 : decode cX8_act 90 = .ok (.aload_n 0, 1) := by decide +kernel
theorem dX8_act_91 : decode cX8_act 91 = .ok (.iload_n 1, 1) := by decide +kernel
theorem dX8_act_92 : decode cX8_act 92 = .ok (.iconst 5, 1) := by decide +kernel
theorem dX8_act_93 : decode cX8_act 93 = .ok (.invokevirtual 78, 3) := by decide +kernel
theorem dX8_act_96 : decode cX8_act 96 = .ok (.ifCond .le 73, 3) := by decide +kernel
theorem dX8_act_99 : decode cX8_act 99 = .ok (.aload_n 0, 1) := by decide +kernel
theorem dX8_act_100 : decode cX8_act 100 = .ok (.iload_n 1, 1) := by decide +kernel
theorem dX8_act_101 : decode cX8_act 101 = .ok (.iload_n 2, 1) := by decide +kernel
theorem dX8_act_102 : decode cX8_act 102 = .ok (.invokevirtual 96, 3) := by decide +kernel
theorem dX8_act_105 : decode cX8_act 105 = .ok (.goto 64, 3) := by decide +kernel
theorem dX8_act_108 : decode cX8_act 108 = .ok (.iload_n 3, 1) := by decide +kernel
theorem dX8_act_109 : decode cX8_act 109 = .ok (.aload_n 0, 1) := by decide +kernel
theorem dX8_act_110 : decode cX8_act 110 = .ok (.iload_n 1, 1) := by decide +kernel
theorem dX8_act_111 : decode cX8_act 111 = .ok (.iconst 3, 1) := by decide +kernel
theorem dX8_act_112 : decode cX8_act 112 = .ok (.invokevirtual 78, 3) := by decide +kernel
theorem dX8_act_115 : decode cX8_act 115 = .ok (.if_icmp .ne 54, 3) := by decide +kernel
theorem dX8_act_118 : decode cX8_act 118 = .ok (.aload_n 0, 1) := by decide +kernel
theorem dX8_act_119 : decode cX8_act 119 = .ok (.getfield 7, 3) := by decide +kernel
theorem dX8_act_122 : decode cX8_act 122 = .ok (.iload_n 2, 1) := by decide +kernel
theorem dX8_act_123 : decode cX8_act 123 = .ok (.aload_n 0, 1) := by decide +kernel
theorem dX8_act_124 : decode cX8_act 124 = .ok (.iload_n 1, 1) := by decide +kernel
theorem dX8_act_125 : decode cX8_act 125 = .ok (.iconst 4, 1) := by decide +kernel
theorem dX8_act_126 : decode cX8_act 126 = .ok (.invokevirtual 78, 3) := by decide +kernel
theorem dX8_act_129 : decode cX8_act 129 = .ok (.iastore, 1) := by decide +kernel
theorem dX8_act_130 : decode cX8_act 130 = .ok (.aload_n 0, 1) := by decide +kernel
theorem dX8_act_131 : decode cX8_act 131 = .ok (.iload_n 1, 1) := by decide +kernel
theorem dX8_act_132 : decode cX8_act 132 = .ok (.invokevirtual 84, 3) := by decide +kernel
theorem dX8_act_135 : decode cX8_act 135 = .ok (.goto 34, 3) := by decide +kernel
theorem dX8_act_138 : decode cX8_act 138 = .ok (.iload_n 3, 1) := by decide +kernel
theorem dX8_act_139 : decode cX8_act 139 = .ok (.aload_n 0, 1) := by decide +kernel
theorem dX8_act_140 : decode cX8_act 140 = .ok (.iload_n 1, 1) := by decide +kernel
theorem dX8_act_141 : decode cX8_act 141 = .ok (.iconst 3, 1) := by decide +kernel
theorem dX8_act_142 : decode cX8_act 142 = .ok (.invokevirtual 78, 3) := by decide +kernel
theorem dX8_act_145 : decode cX8_act 145 = .ok (.if_icmp .ne 24, 3) := by decide +kernel
theorem dX8_act_148 : decode cX8_act 148 = .ok (.aload_n 0, 1) := by decide +kernel
theorem dX8_act_149 : decode cX8_act 149 = .ok (.iload_n 2, 1) := by decide +kernel
theorem dX8_act_150 : decode cX8_act 150 = .ok (.invokevirtual 64, 3) := by decide +kernel
theorem dX8_act_153 : decode cX8_act 153 = .ok (.aload_n 0, 1) := by decide +kernel
theorem dX8_act_154 : decode cX8_act 154 = .ok (.aload_n 0, 1) := by decide +kernel
theorem dX8_act_155 : decode cX8_act 155 = .ok (.iload_n 1, 1) := by decide +kernel
theorem dX8_act_156 : decode cX8_act 156 = .ok (.iconst 1, 1) := by decide +kernel
theorem dX8_act_157 : decode cX8_act 157 = .ok (.invokevirtual 78, 3) := by decide +kernel
theorem dX8_act_160 : decode cX8_act 160 = .ok (.iconst 3, 1) := by decide +kernel
theorem dX8_act_161 : decode cX8_act 161 = .ok (.invokevirtual 60, 3) := by decide +kernel
theorem dX8_act_164 : decode cX8_act 164 = .ok (.aload_n 0, 1) := by decide +kernel
theorem dX8_act_165 : decode cX8_act 165 = .ok (.iload_n 1, 1) := by decide +kernel
theorem dX8_act_166 : decode cX8_act 166 = .ok (.invokevirtual 84, 3) := by decide +kernel
theorem dX8_act_169 : decode cX8_act 169 = .ok (.return_, 1) := by decide +kernel
theorem dX8_crossed_0 : decode cX8_crossed 0 = .ok (.aload_n 0, 1) := by decide +kernel
theorem dX8_crossed_1 : decode cX8_crossed 1 = .ok (.iload_n 2, 1) := by decide +kernel
theorem dX8_crossed_2 : decode cX8_crossed 2 = .ok (.iconst 5, 1) := by decide +kernel
theorem dX8_crossed_3 : decode cX8_crossed 3 = .ok (.invokevirtual 60, 3) := by decide +kernel
theorem dX8_crossed_6 : decode cX8_crossed 6 = .ok (.aload_n 0, 1) := by decide +kernel
theorem dX8_crossed_7 : decode cX8_crossed 7 = .ok (.iload_n 3, 1) := by decide +kernel
theorem dX8_crossed_8 : decode cX8_crossed 8 = .ok (.iconst 4, 1) := by decide +kernel
theorem dX8_crossed_9 : decode cX8_crossed 9 = .ok (.invokevirtual 60, 3) := by decide +kernel
theorem dX8_crossed_12 : decode cX8_crossed 12 = .ok (.aload_n 0, 1) := by decide +kernel
theorem dX8_crossed_13 : decode cX8_crossed 13 = .ok (.getfield 7, 3) := by decide +kernel
theorem dX8_crossed_16 : decode cX8_crossed 16 = .ok (.sipush 266, 3) := by decide +kernel
theorem dX8_crossed_19 : decode cX8_crossed 19 = .ok (.bipush 6, 2) := by decide +kernel
theorem dX8_crossed_21 : decode cX8_crossed 21 = .ok (.iload_n 1, 1) := by decide +kernel
theorem dX8_crossed_22 : decode cX8_crossed 22 = .ok (.imul, 1) := by decide +kernel
theorem dX8_crossed_23 : decode cX8_crossed 23 = .ok (.iadd, 1) := by decide +kernel
theorem dX8_crossed_24 : decode cX8_crossed 24 = .ok (.iconst 5, 1) := by decide +kernel
theorem dX8_crossed_25 : decode cX8_crossed 25 = .ok (.iadd, 1) := by decide +kernel
theorem dX8_crossed_26 : decode cX8_crossed 26 = .ok (.dup2, 1) := by decide +kernel
theorem dX8_crossed_27 : decode cX8_crossed 27 = .ok (.iaload, 1) := by decide +kernel
theorem dX8_crossed_28 : decode cX8_crossed 28 = .ok (.iconst 1, 1) := by decide +kernel
theorem dX8_crossed_29 : decode cX8_crossed 29 = .ok (.iadd, 1) := by decide +kernel
theorem dX8_crossed_30 : decode cX8_crossed 30 = .ok (.iastore, 1) := by decide +kernel
theorem dX8_crossed_31 : decode cX8_crossed 31 = .ok (.return_, 1) := by decide +kernel
theorem dX8_cross_0 : decode cX8_cross 0 = .ok (.aload_n 0, 1) := by decide +kernel
theorem dX8_cross_1 : decode cX8_cross 1 = .ok (.iload_n 1, 1) := by decide +kernel
theorem dX8_cross_2 : decode cX8_cross 2 = .ok (.iconst 0, 1) := by decide +kernel
theorem dX8_cross_3 : decode cX8_cross 3 = .ok (.invokevirtual 99, 3) := by decide +kernel
theorem dX8_cross_6 : decode cX8_cross 6 = .ok (.aload_n 0, 1) := by decide +kernel
theorem dX8_cross_7 : decode cX8_cross 7 = .ok (.iload_n 1, 1) := by decide +kernel
theorem dX8_cross_8 : decode cX8_cross 8 = .ok (.iconst 1, 1) := by decide +kernel
theorem dX8_cross_9 : decode cX8_cross 9 = .ok (.invokevirtual 99, 3) := by decide +kernel
theorem dX8_cross_12 : decode cX8_cross 12 = .ok (.invokestatic 68, 3) := by decide +kernel
theorem dX8_cross_15 : decode cX8_cross 15 = .ok (.istore_n 2, 1) := by decide +kernel
theorem dX8_cross_16 : decode cX8_cross 16 = .ok (.aload_n 0, 1) := by decide +kernel
theorem dX8_cross_17 : decode cX8_cross 17 = .ok (.iload_n 1, 1) := by decide +kernel
theorem dX8_cross_18 : decode cX8_cross 18 = .ok (.iconst 2, 1) := by decide +kernel
theorem dX8_cross_19 : decode cX8_cross 19 = .ok (.invokevirtual 99, 3) := by decide +kernel
theorem dX8_cross_22 : decode cX8_cross 22 = .ok (.aload_n 0, 1) := by decide +kernel
theorem dX8_cross_23 : decode cX8_cross 23 = .ok (.iload_n 1, 1) := by decide +kernel
theorem dX8_cross_24 : decode cX8_cross 24 = .ok (.iconst 3, 1) := by decide +kernel
theorem dX8_cross_25 : decode cX8_cross 25 = .ok (.invokevirtual 99, 3) := by decide +kernel
theorem dX8_cross_28 : decode cX8_cross 28 = .ok (.invokestatic 68, 3) := by decide +kernel
theorem dX8_cross_31 : decode cX8_cross 31 = .ok (.istore_n 3, 1) := by decide +kernel
theorem dX8_cross_32 : decode cX8_cross 32 = .ok (.aload_n 0, 1) := by decide +kernel
theorem dX8_cross_33 : decode cX8_cross 33 = .ok (.iload_n 1, 1) := by decide +kernel
theorem dX8_cross_34 : decode cX8_cross 34 = .ok (.iconst 4, 1) := by decide +kernel
theorem dX8_cross_35 : decode cX8_cross 35 = .ok (.invokevirtual 99, 3) := by decide +kernel
theorem dX8_cross_38 : decode cX8_cross 38 = .ok (.istore 4, 2) := by decide +kernel
theorem dX8_cross_40 : decode cX8_cross 40 = .ok (.iload 4, 2) := by decide +kernel
theorem dX8_cross_42 : decode cX8_cross 42 = .ok (.ifCond .le 31, 3) := by decide +kernel
theorem dX8_cross_45 : decode cX8_cross 45 = .ok (.aload_n 0, 1) := by decide +kernel
theorem dX8_cross_46 : decode cX8_cross 46 = .ok (.getfield 7, 3) := by decide +kernel
theorem dX8_cross_49 : decode cX8_cross 49 = .ok (.iload_n 2, 1) := by decide +kernel
theorem dX8_cross_50 : decode cX8_cross 50 = .ok (.iaload, 1) := by decide +kernel
theorem dX8_cross_51 : decode cX8_cross 51 = .ok (.ifCond .lt 22, 3) := by decide +kernel
theorem dX8_cross_54 : decode cX8_cross 54 = .ok (.iload 4, 2) := by decide +kernel
theorem dX8_cross_56 : decode cX8_cross 56 = .ok (.iconst 1, 1) := by decide +kernel
theorem dX8_cross_57 : decode cX8_cross 57 = .ok (.if_icmp .eq 12, 3) := by decide +kernel
theorem dX8_cross_60 : decode cX8_cross 60 = .ok (.aload_n 0, 1) := by decide +kernel
theorem dX8_cross_61 : decode cX8_cross 61 = .ok (.getfield 7, 3) := by decide +kernel
theorem dX8_cross_64 : decode cX8_cross 64 = .ok (.iload_n 3, 1) := by decide +kernel
theorem dX8_cross_65 : decode cX8_cross 65 = .ok (.iaload, 1) := by decide +kernel
theorem dX8_cross_66 : decode cX8_cross 66 = .ok (.ifCond .ge 7, 3) := by decide +kernel
theorem dX8_cross_69 : decode cX8_cross 69 = .ok (.iconst 1, 1) := by decide +kernel
theorem dX8_cross_70 : decode cX8_cross 70 = .ok (.goto 4, 3) := by decide +kernel
theorem dX8_cross_73 : decode cX8_cross 73 = .ok (.iconst 0, 1) := by decide +kernel
theorem dX8_cross_74 : decode cX8_cross 74 = .ok (.istore 5, 2) := by decide +kernel
theorem dX8_cross_76 : decode cX8_cross 76 = .ok (.iload 4, 2) := by decide +kernel
theorem dX8_cross_78 : decode cX8_cross 78 = .ok (.iconst 1, 1) := by decide +kernel
theorem dX8_cross_79 : decode cX8_cross 79 = .ok (.if_icmp .ne 16, 3) := by decide +kernel
theorem dX8_cross_82 : decode cX8_cross 82 = .ok (.aload_n 0, 1) := by decide +kernel
theorem dX8_cross_83 : decode cX8_cross 83 = .ok (.getfield 7, 3) := by decide +kernel
theorem dX8_cross_86 : decode cX8_cross 86 = .ok (.iload_n 3, 1) := by decide +kernel
theorem dX8_cross_87 : decode cX8_cross 87 = .ok (.iaload, 1) := by decide +kernel
theorem dX8_cross_88 : decode cX8_cross 88 = .ok (.ifCond .lt 7, 3) := by decide +kernel
theorem dX8_cross_91 : decode cX8_cross 91 = .ok (.iconst 1, 1) := by decide +kernel
theorem dX8_cross_92 : decode cX8_cross 92 = .ok (.goto 4, 3) := by decide +kernel
theorem dX8_cross_95 : decode cX8_cross 95 = .ok (.iconst 0, 1) := by decide +kernel
theorem dX8_cross_96 : decode cX8_cross 96 = .ok (.istore 6, 2) := by decide +kernel
theorem dX8_cross_98 : decode cX8_cross 98 = .ok (.iload 5, 2) := by decide +kernel
theorem dX8_cross_100 : decode cX8_cross 100 = .ok (.ifCond .eq 20, 3) := by decide +kernel
theorem dX8_cross_103 : decode cX8_cross 103 = .ok (.aload_n 0, 1) := by decide +kernel
theorem dX8_cross_104 : decode cX8_cross 104 = .ok (.iload_n 1, 1) := by decide +kernel
theorem dX8_cross_105 : decode cX8_cross 105 = .ok (.aload_n 0, 1) := by decide +kernel
theorem dX8_cross_106 : decode cX8_cross 106 = .ok (.iload_n 1, 1) := by decide +kernel
theorem dX8_cross_107 : decode cX8_cross 107 = .ok (.iconst 0, 1) := by decide +kernel
theorem dX8_cross_108 : decode cX8_cross 108 = .ok (.invokevirtual 99, 3) := by decide +kernel
theorem dX8_cross_111 : decode cX8_cross 111 = .ok (.aload_n 0, 1) := by decide +kernel
theorem dX8_cross_112 : decode cX8_cross 112 = .ok (.iload_n 1, 1) := by decide +kernel
theorem dX8_cross_113 : decode cX8_cross 113 = .ok (.iconst 2, 1) := by decide +kernel
theorem dX8_cross_114 : decode cX8_cross 114 = .ok (.invokevirtual 99, 3) := by decide +kernel
theorem dX8_cross_117 : decode cX8_cross 117 = .ok (.invokevirtual 102, 3) := by decide +kernel
theorem dX8_cross_120 : decode cX8_cross 120 = .ok (.iload 6, 2) := by decide +kernel
theorem dX8_cross_122 : decode cX8_cross 122 = .ok (.ifCond .eq 20, 3) := by decide +kernel
theorem dX8_cross_125 : decode cX8_cross 125 = .ok (.aload_n 0, 1) := by decide +kernel
theorem dX8_cross_126 : decode cX8_cross 126 = .ok (.iload_n 1, 1) := by decide +kernel
theorem dX8_cross_127 : decode cX8_cross 127 = .ok (.aload_n 0, 1) := by decide +kernel
theorem dX8_cross_128 : decode cX8_cross 128 = .ok (.iload_n 1, 1) := by decide +kernel
theorem dX8_cross_129 : decode cX8_cross 129 = .ok (.iconst 2, 1) := by decide +kernel
theorem dX8_cross_130 : decode cX8_cross 130 = .ok (.invokevirtual 99, 3) := by decide +kernel
theorem dX8_cross_133 : decode cX8_cross 133 = .ok (.aload_n 0, 1) := by decide +kernel
theorem dX8_cross_134 : decode cX8_cross 134 = .ok (.iload_n 1, 1) := by decide +kernel
theorem dX8_cross_135 : decode cX8_cross 135 = .ok (.iconst 0, 1) := by decide +kernel
theorem dX8_cross_136 : decode cX8_cross 136 = .ok (.invokevirtual 99, 3) := by decide +kernel
theorem dX8_cross_139 : decode cX8_cross 139 = .ok (.invokevirtual 102, 3) := by decide +kernel
theorem dX8_cross_142 : decode cX8_cross 142 = .ok (.iconst 0, 1) := by decide +kernel
theorem dX8_cross_143 : decode cX8_cross 143 = .ok (.istore 7, 2) := by decide +kernel
theorem dX8_cross_145 : decode cX8_cross 145 = .ok (.iload 7, 2) := by decide +kernel
theorem dX8_cross_147 : decode cX8_cross 147 = .ok (.iconst 3, 1) := by decide +kernel
theorem dX8_cross_148 : decode cX8_cross 148 = .ok (.if_icmp .ge 59, 3) := by decide +kernel
theorem dX8_cross_151 : decode cX8_cross 151 = .ok (.iload 5, 2) := by decide +kernel
theorem dX8_cross_153 : decode cX8_cross 153 = .ok (.ifCond .ne 8, 3) := by decide +kernel
theorem dX8_cross_156 : decode cX8_cross 156 = .ok (.iload 6, 2) := by decide +kernel
theorem dX8_cross_158 : decode cX8_cross 158 = .ok (.ifCond .eq 49, 3) := by decide +kernel
theorem dX8_cross_161 : decode cX8_cross 161 = .ok (.aload_n 0, 1) := by decide +kernel
theorem dX8_cross_162 : decode cX8_cross 162 = .ok (.getfield 7, 3) := by decide +kernel
theorem dX8_cross_165 : decode cX8_cross 165 = .ok (.iload_n 2, 1) := by decide +kernel
theorem dX8_cross_166 : decode cX8_cross 166 = .ok (.iload 7, 2) := by decide +kernel
theorem dX8_cross_168 : decode cX8_cross 168 = .ok (.iadd, 1) := by decide +kernel
theorem dX8_cross_169 : decode cX8_cross 169 = .ok (.iaload, 1) := by decide +kernel
theorem dX8_cross_170 : decode cX8_cross 170 = .ok (.istore 8, 2) := by decide +kernel
theorem dX8_cross_172 : decode cX8_cross 172 = .ok (.aload_n 0, 1) := by decide +kernel
theorem dX8_cross_173 : decode cX8_cross 173 = .ok (.getfield 7, 3) := by decide +kernel
theorem dX8_cross_176 : decode cX8_cross 176 = .ok (.iload_n 2, 1) := by decide +kernel
theorem dX8_cross_177 : decode cX8_cross 177 = .ok (.iload 7, 2) := by decide +kernel
theorem dX8_cross_179 : decode cX8_cross 179 = .ok (.iadd, 1) := by decide +kernel
theorem dX8_cross_180 : decode cX8_cross 180 = .ok (.aload_n 0, 1) := by decide +kernel
theorem dX8_cross_181 : decode cX8_cross 181 = .ok (.getfield 7, 3) := by decide +kernel
theorem dX8_cross_184 : decode cX8_cross 184 = .ok (.iload_n 3, 1) := by decide +kernel
theorem dX8_cross_185 : decode cX8_cross 185 = .ok (.iload 7, 2) := by decide +kernel
theorem dX8_cross_187 : decode cX8_cross 187 = .ok (.iadd, 1) := by decide +kernel
theorem dX8_cross_188 : decode cX8_cross 188 = .ok (.iaload, 1) := by decide +kernel
theorem dX8_cross_189 : decode cX8_cross 189 = .ok (.iastore, 1) := by decide +kernel
theorem dX8_cross_190 : decode cX8_cross 190 = .ok (.aload_n 0, 1) := by decide +kernel
theorem dX8_cross_191 : decode cX8_cross 191 = .ok (.getfield 7, 3) := by decide +kernel
theorem dX8_cross_194 : decode cX8_cross 194 = .ok (.iload_n 3, 1) := by decide +kernel
theorem dX8_cross_195 : decode cX8_cross 195 = .ok (.iload 7, 2) := by decide +kernel
theorem dX8_cross_197 : decode cX8_cross 197 = .ok (.iadd, 1) := by decide +kernel
theorem dX8_cross_198 : decode cX8_cross 198 = .ok (.iload 8, 2) := by decide +kernel
theorem dX8_cross_200 : decode cX8_cross 200 = .ok (.iastore, 1) := by decide +kernel
theorem dX8_cross_201 : decode cX8_cross 201 = .ok (.iinc 7 1, 3) := by decide +kernel
theorem dX8_cross_204 : decode cX8_cross 204 = .ok (.goto (-59), 3) := by decide +kernel
theorem dX8_cross_207 : decode cX8_cross 207 = .ok (.return_, 1) := by decide +kernel
theorem dX8_recover_0 : decode cX8_recover 0 = .ok (.aload_n 0, 1) := by decide +kernel
theorem dX8_recover_1 : decode cX8_recover 1 = .ok (.iload_n 1, 1) := by decide +kernel
theorem dX8_recover_2 : decode cX8_recover 2 = .ok (.iconst 5, 1) := by decide +kernel
theorem dX8_recover_3 : decode cX8_recover 3 = .ok (.invokevirtual 78, 3) := by decide +kernel
theorem dX8_recover_6 : decode cX8_recover 6 = .ok (.aload_n 0, 1) := by decide +kernel
theorem dX8_recover_7 : decode cX8_recover 7 = .ok (.getfield 7, 3) := by decide +kernel
theorem dX8_recover_10 : decode cX8_recover 10 = .ok (.iconst 2, 1) := by decide +kernel
theorem dX8_recover_11 : decode cX8_recover 11 = .ok (.iaload, 1) := by decide +kernel
theorem dX8_recover_12 : decode cX8_recover 12 = .ok (.iadd, 1) := by decide +kernel
theorem dX8_recover_13 : decode cX8_recover 13 = .ok (.istore_n 2, 1) := by decide +kernel
theorem dX8_recover_14 : decode cX8_recover 14 = .ok (.aload_n 0, 1) := by decide +kernel
theorem dX8_recover_15 : decode cX8_recover 15 = .ok (.iload_n 1, 1) := by decide +kernel
theorem dX8_recover_16 : decode cX8_recover 16 = .ok (.iconst 0, 1) := by decide +kernel
theorem dX8_recover_17 : decode cX8_recover 17 = .ok (.invokevirtual 78, 3) := by decide +kernel
theorem dX8_recover_20 : decode cX8_recover 20 = .ok (.ifCond .ne 29, 3) := by decide +kernel
theorem dX8_recover_23 : decode cX8_recover 23 = .ok (.aload_n 0, 1) := by decide +kernel
theorem dX8_recover_24 : decode cX8_recover 24 = .ok (.iload_n 1, 1) := by decide +kernel
theorem dX8_recover_25 : decode cX8_recover 25 = .ok (.iconst 5, 1) := by decide +kernel
theorem dX8_recover_26 : decode cX8_recover 26 = .ok (.iload_n 2, 1) := by decide +kernel
theorem dX8_recover_27 : decode cX8_recover 27 = .ok (.aload_n 0, 1) := by decide +kernel
theorem dX8_recover_28 : decode cX8_recover 28 = .ok (.iload_n 1, 1) := by decide +kernel
theorem dX8_recover_29 : decode cX8_recover 29 = .ok (.iconst 4, 1) := by decide +kernel
theorem dX8_recover_30 : decode cX8_recover 30 = .ok (.invokevirtual 78, 3) := by decide +kernel
theorem dX8_recover_33 : decode cX8_recover 33 = .ok (.if_icmp .ge 7, 3) := by decide +kernel
theorem dX8_recover_36 : decode cX8_recover 36 = .ok (.iload_n 2, 1) := by decide +kernel
theorem dX8_recover_37 : decode cX8_recover 37 = .ok (.goto 9, 3) := by decide +kernel
theorem dX8_recover_40 : decode cX8_recover 40 = .ok (.aload_n 0, 1) := by decide +kernel
theorem dX8_recover_41 : decode cX8_recover 41 = .ok (.iload_n 1, 1) := by decide +kernel
theorem dX8_recover_42 : decode cX8_recover 42 = .ok (.iconst 4, 1) := by decide +kernel
theorem dX8_recover_43 : decode cX8_recover 43 = .ok (.invokevirtual 78, 3) := by decide +kernel
theorem dX8_recover_46 : decode cX8_recover 46 = .ok (.invokevirtual 81, 3) := by decide +kernel
theorem dX8_recover_49 : decode cX8_recover 49 = .ok (.return_, 1) := by decide +kernel
theorem dX8_pass_0 : decode cX8_pass 0 = .ok (.iconst 0, 1) := by decide +kernel
theorem dX8_pass_1 : decode cX8_pass 1 = .ok (.istore_n 1, 1) := by decide +kernel
theorem dX8_pass_2 : decode cX8_pass 2 = .ok (.iload_n 1, 1) := by decide +kernel
theorem dX8_pass_3 : decode cX8_pass 3 = .ok (.aload_n 0, 1) := by decide +kernel
theorem dX8_pass_4 : decode cX8_pass 4 = .ok (.getfield 7, 3) := by decide +kernel
theorem dX8_pass_7 : decode cX8_pass 7 = .ok (.iconst 5, 1) := by decide +kernel
theorem dX8_pass_8 : decode cX8_pass 8 = .ok (.iaload, 1) := by decide +kernel
theorem dX8_pass_9 : decode cX8_pass 9 = .ok (.if_icmp .ge 19, 3) := by decide +kernel
theorem dX8_pass_12 : decode cX8_pass 12 = .ok (.aload_n 0, 1) := by decide +kernel
theorem dX8_pass_13 : decode cX8_pass 13 = .ok (.iload_n 1, 1) := by decide +kernel
theorem dX8_pass_14 : decode cX8_pass 14 = .ok (.invokevirtual 105, 3) := by decide +kernel
theorem dX8_pass_17 : decode cX8_pass 17 = .ok (.aload_n 0, 1) := by decide +kernel
theorem dX8_pass_18 : decode cX8_pass 18 = .ok (.iload_n 1, 1) := by decide +kernel
theorem dX8_pass_19 : decode cX8_pass 19 = .ok (.invokevirtual 108, 3) := by decide +kernel
theorem dX8_pass_22 : decode cX8_pass 22 = .ok (.iinc 1 1, 3) := by decide +kernel
theorem dX8_pass_25 : decode cX8_pass 25 = .ok (.goto (-23), 3) := by decide +kernel
theorem dX8_pass_28 : decode cX8_pass 28 = .ok (.iconst 0, 1) := by decide +kernel
theorem dX8_pass_29 : decode cX8_pass 29 = .ok (.istore_n 1, 1) := by decide +kernel
theorem dX8_pass_30 : decode cX8_pass 30 = .ok (.iload_n 1, 1) := by decide +kernel
theorem dX8_pass_31 : decode cX8_pass 31 = .ok (.aload_n 0, 1) := by decide +kernel
theorem dX8_pass_32 : decode cX8_pass 32 = .ok (.getfield 7, 3) := by decide +kernel
theorem dX8_pass_35 : decode cX8_pass 35 = .ok (.bipush 6, 2) := by decide +kernel
theorem dX8_pass_37 : decode cX8_pass 37 = .ok (.iaload, 1) := by decide +kernel
theorem dX8_pass_38 : decode cX8_pass 38 = .ok (.if_icmp .ge 14, 3) := by decide +kernel
theorem dX8_pass_41 : decode cX8_pass 41 = .ok (.aload_n 0, 1) := by decide +kernel
theorem dX8_pass_42 : decode cX8_pass 42 = .ok (.iload_n 1, 1) := by decide +kernel
theorem dX8_pass_43 : decode cX8_pass 43 = .ok (.invokevirtual 111, 3) := by decide +kernel
theorem dX8_pass_46 : decode cX8_pass 46 = .ok (.iinc 1 1, 3) := by decide +kernel
theorem dX8_pass_49 : decode cX8_pass 49 = .ok (.goto (-19), 3) := by decide +kernel
theorem dX8_pass_52 : decode cX8_pass 52 = .ok (.iconst 0, 1) := by decide +kernel
theorem dX8_pass_53 : decode cX8_pass 53 = .ok (.istore_n 1, 1) := by decide +kernel
theorem dX8_pass_54 : decode cX8_pass 54 = .ok (.iload_n 1, 1) := by decide +kernel
theorem dX8_pass_55 : decode cX8_pass 55 = .ok (.aload_n 0, 1) := by decide +kernel
theorem dX8_pass_56 : decode cX8_pass 56 = .ok (.getfield 7, 3) := by decide +kernel
theorem dX8_pass_59 : decode cX8_pass 59 = .ok (.bipush 7, 2) := by decide +kernel
theorem dX8_pass_61 : decode cX8_pass 61 = .ok (.iaload, 1) := by decide +kernel
theorem dX8_pass_62 : decode cX8_pass 62 = .ok (.if_icmp .ge 14, 3) := by decide +kernel
theorem dX8_pass_65 : decode cX8_pass 65 = .ok (.aload_n 0, 1) := by decide +kernel
theorem dX8_pass_66 : decode cX8_pass 66 = .ok (.iload_n 1, 1) := by decide +kernel
theorem dX8_pass_67 : decode cX8_pass 67 = .ok (.invokevirtual 114, 3) := by decide +kernel
theorem dX8_pass_70 : decode cX8_pass 70 = .ok (.iinc 1 1, 3) := by decide +kernel
theorem dX8_pass_73 : decode cX8_pass 73 = .ok (.goto (-19), 3) := by decide +kernel
theorem dX8_pass_76 : decode cX8_pass 76 = .ok (.iconst 0, 1) := by decide +kernel
theorem dX8_pass_77 : decode cX8_pass 77 = .ok (.istore_n 1, 1) := by decide +kernel
theorem dX8_pass_78 : decode cX8_pass 78 = .ok (.iload_n 1, 1) := by decide +kernel
theorem dX8_pass_79 : decode cX8_pass 79 = .ok (.aload_n 0, 1) := by decide +kernel
theorem dX8_pass_80 : decode cX8_pass 80 = .ok (.getfield 7, 3) := by decide +kernel
theorem dX8_pass_83 : decode cX8_pass 83 = .ok (.bipush 6, 2) := by decide +kernel
theorem dX8_pass_85 : decode cX8_pass 85 = .ok (.iaload, 1) := by decide +kernel
theorem dX8_pass_86 : decode cX8_pass 86 = .ok (.if_icmp .ge 14, 3) := by decide +kernel
theorem dX8_pass_89 : decode cX8_pass 89 = .ok (.aload_n 0, 1) := by decide +kernel
theorem dX8_pass_90 : decode cX8_pass 90 = .ok (.iload_n 1, 1) := by decide +kernel
theorem dX8_pass_91 : decode cX8_pass 91 = .ok (.invokevirtual 117, 3) := by decide +kernel
theorem dX8_pass_94 : decode cX8_pass 94 = .ok (.iinc 1 1, 3) := by decide +kernel
theorem dX8_pass_97 : decode cX8_pass 97 = .ok (.goto (-19), 3) := by decide +kernel
theorem dX8_pass_100 : decode cX8_pass 100 = .ok (.aload_n 0, 1) := by decide +kernel
theorem dX8_pass_101 : decode cX8_pass 101 = .ok (.getfield 7, 3) := by decide +kernel
theorem dX8_pass_104 : decode cX8_pass 104 = .ok (.iconst 4, 1) := by decide +kernel
theorem dX8_pass_105 : decode cX8_pass 105 = .ok (.dup2, 1) := by decide +kernel
theorem dX8_pass_106 : decode cX8_pass 106 = .ok (.iaload, 1) := by decide +kernel
theorem dX8_pass_107 : decode cX8_pass 107 = .ok (.iconst 1, 1) := by decide +kernel
theorem dX8_pass_108 : decode cX8_pass 108 = .ok (.iadd, 1) := by decide +kernel
theorem dX8_pass_109 : decode cX8_pass 109 = .ok (.iastore, 1) := by decide +kernel
theorem dX8_pass_110 : decode cX8_pass 110 = .ok (.return_, 1) := by decide +kernel
theorem dX8_passAll_0 : decode cX8_passAll 0 = .ok (.iconst 0, 1) := by decide +kernel
theorem dX8_passAll_1 : decode cX8_passAll 1 = .ok (.istore_n 2, 1) := by decide +kernel
theorem dX8_passAll_2 : decode cX8_passAll 2 = .ok (.iload_n 2, 1) := by decide +kernel
theorem dX8_passAll_3 : decode cX8_passAll 3 = .ok (.iload_n 1, 1) := by decide +kernel
theorem dX8_passAll_4 : decode cX8_passAll 4 = .ok (.if_icmp .ge 13, 3) := by decide +kernel
theorem dX8_passAll_7 : decode cX8_passAll 7 = .ok (.aload_n 0, 1) := by decide +kernel
theorem dX8_passAll_8 : decode cX8_passAll 8 = .ok (.invokevirtual 120, 3) := by decide +kernel
theorem dX8_passAll_11 : decode cX8_passAll 11 = .ok (.iinc 2 1, 3) := by decide +kernel
theorem dX8_passAll_14 : decode cX8_passAll 14 = .ok (.goto (-12), 3) := by decide +kernel
theorem dX8_passAll_17 : decode cX8_passAll 17 = .ok (.return_, 1) := by decide +kernel
theorem dX8_highest_0 : decode cX8_highest 0 = .ok (.iload_n 0, 1) := by decide +kernel
theorem dX8_highest_1 : decode cX8_highest 1 = .ok (.ifCond .ne 8, 3) := by decide +kernel
theorem dX8_highest_4 : decode cX8_highest 4 = .ok (.bipush 50, 2) := by decide +kernel
theorem dX8_highest_6 : decode cX8_highest 6 = .ok (.goto 17, 3) := by decide +kernel
theorem dX8_highest_9 : decode cX8_highest 9 = .ok (.iload_n 0, 1) := by decide +kernel
theorem dX8_highest_10 : decode cX8_highest 10 = .ok (.iconst 3, 1) := by decide +kernel
theorem dX8_highest_11 : decode cX8_highest 11 = .ok (.if_icmp .ne 9, 3) := by decide +kernel
theorem dX8_highest_14 : decode cX8_highest 14 = .ok (.sipush 1000, 3) := by decide +kernel
theorem dX8_highest_17 : decode cX8_highest 17 = .ok (.goto 6, 3) := by decide +kernel
theorem dX8_highest_20 : decode cX8_highest 20 = .ok (.sipush 200, 3) := by decide +kernel
theorem dX8_highest_23 : decode cX8_highest 23 = .ok (.ireturn, 1) := by decide +kernel
theorem dX8_set_0 : decode cX8_set 0 = .ok (.iload_n 1, 1) := by decide +kernel
theorem dX8_set_1 : decode cX8_set 1 = .ok (.iconst 0, 1) := by decide +kernel
theorem dX8_set_2 : decode cX8_set 2 = .ok (.iconst 3, 1) := by decide +kernel
theorem dX8_set_3 : decode cX8_set 3 = .ok (.invokestatic 38, 3) := by decide +kernel
theorem dX8_set_6 : decode cX8_set 6 = .ok (.ifCond .eq 25, 3) := by decide +kernel
theorem dX8_set_9 : decode cX8_set 9 = .ok (.iload_n 2, 1) := by decide +kernel
theorem dX8_set_10 : decode cX8_set 10 = .ok (.iload_n 1, 1) := by decide +kernel
theorem dX8_set_11 : decode cX8_set 11 = .ok (.iconst 3, 1) := by decide +kernel
theorem dX8_set_12 : decode cX8_set 12 = .ok (.if_icmp .ne 8, 3) := by decide +kernel
theorem dX8_set_15 : decode cX8_set 15 = .ok (.bipush 100, 2) := by decide +kernel
theorem dX8_set_17 : decode cX8_set 17 = .ok (.goto 4, 3) := by decide +kernel
theorem dX8_set_20 : decode cX8_set 20 = .ok (.iconst 0, 1) := by decide +kernel
theorem dX8_set_21 : decode cX8_set 21 = .ok (.iload_n 1, 1) := by decide +kernel
theorem dX8_set_22 : decode cX8_set 22 = .ok (.invokestatic 123, 3) := by decide +kernel
theorem dX8_set_25 : decode cX8_set 25 = .ok (.invokestatic 38, 3) := by decide +kernel
theorem dX8_set_28 : decode cX8_set 28 = .ok (.ifCond .ne 6, 3) := by decide +kernel
theorem dX8_set_31 : decode cX8_set 31 = .ok (.bipush (-2), 2) := by decide +kernel
theorem dX8_set_33 : decode cX8_set 33 = .ok (.ireturn, 1) := by decide +kernel
theorem dX8_set_34 : decode cX8_set 34 = .ok (.aload_n 0, 1) := by decide +kernel
theorem dX8_set_35 : decode cX8_set 35 = .ok (.invokevirtual 57, 3) := by decide +kernel
theorem dX8_set_38 : decode cX8_set 38 = .ok (.aload_n 0, 1) := by decide +kernel
theorem dX8_set_39 : decode cX8_set 39 = .ok (.getfield 7, 3) := by decide +kernel
theorem dX8_set_42 : decode cX8_set 42 = .ok (.iload_n 1, 1) := by decide +kernel
theorem dX8_set_43 : decode cX8_set 43 = .ok (.iaload, 1) := by decide +kernel
theorem dX8_set_44 : decode cX8_set 44 = .ok (.istore_n 3, 1) := by decide +kernel
theorem dX8_set_45 : decode cX8_set 45 = .ok (.aload_n 0, 1) := by decide +kernel
theorem dX8_set_46 : decode cX8_set 46 = .ok (.getfield 7, 3) := by decide +kernel
theorem dX8_set_49 : decode cX8_set 49 = .ok (.iload_n 1, 1) := by decide +kernel
theorem dX8_set_50 : decode cX8_set 50 = .ok (.iload_n 2, 1) := by decide +kernel
theorem dX8_set_51 : decode cX8_set 51 = .ok (.iastore, 1) := by decide +kernel
theorem dX8_set_52 : decode cX8_set 52 = .ok (.iload_n 3, 1) := by decide +kernel
theorem dX8_set_53 : decode cX8_set 53 = .ok (.ireturn, 1) := by decide +kernel
theorem dX8_loop_0 : decode cX8_loop 0 = .ok (.iload_n 1, 1) := by decide +kernel
theorem dX8_loop_1 : decode cX8_loop 1 = .ok (.iconst 4, 1) := by decide +kernel
theorem dX8_loop_2 : decode cX8_loop 2 = .ok (.bipush 32, 2) := by decide +kernel
theorem dX8_loop_4 : decode cX8_loop 4 = .ok (.invokestatic 38, 3) := by decide +kernel
theorem dX8_loop_7 : decode cX8_loop 7 = .ok (.ifCond .ne 6, 3) := by decide +kernel
theorem dX8_loop_10 : decode cX8_loop 10 = .ok (.bipush (-2), 2) := by decide +kernel
theorem dX8_loop_12 : decode cX8_loop 12 = .ok (.ireturn, 1) := by decide +kernel
theorem dX8_loop_13 : decode cX8_loop 13 = .ok (.aload_n 0, 1) := by decide +kernel
theorem dX8_loop_14 : decode cX8_loop 14 = .ok (.getfield 7, 3) := by decide +kernel
theorem dX8_loop_17 : decode cX8_loop 17 = .ok (.iconst 5, 1) := by decide +kernel
theorem dX8_loop_18 : decode cX8_loop 18 = .ok (.iaload, 1) := by decide +kernel
theorem dX8_loop_19 : decode cX8_loop 19 = .ok (.iconst 5, 1) := by decide +kernel
theorem dX8_loop_20 : decode cX8_loop 20 = .ok (.if_icmp .ne 6, 3) := by decide +kernel
theorem dX8_loop_23 : decode cX8_loop 23 = .ok (.bipush (-4), 2) := by decide +kernel
theorem dX8_loop_25 : decode cX8_loop 25 = .ok (.ireturn, 1) := by decide +kernel
theorem dX8_loop_26 : decode cX8_loop 26 = .ok (.aload_n 0, 1) := by decide +kernel
theorem dX8_loop_27 : decode cX8_loop 27 = .ok (.invokevirtual 57, 3) := by decide +kernel
theorem dX8_loop_30 : decode cX8_loop 30 = .ok (.aload_n 0, 1) := by decide +kernel
theorem dX8_loop_31 : decode cX8_loop 31 = .ok (.getfield 7, 3) := by decide +kernel
theorem dX8_loop_34 : decode cX8_loop 34 = .ok (.bipush 8, 2) := by decide +kernel
theorem dX8_loop_36 : decode cX8_loop 36 = .ok (.bipush 6, 2) := by decide +kernel
theorem dX8_loop_38 : decode cX8_loop 38 = .ok (.aload_n 0, 1) := by decide +kernel
theorem dX8_loop_39 : decode cX8_loop 39 = .ok (.getfield 7, 3) := by decide +kernel
theorem dX8_loop_42 : decode cX8_loop 42 = .ok (.iconst 5, 1) := by decide +kernel
theorem dX8_loop_43 : decode cX8_loop 43 = .ok (.iaload, 1) := by decide +kernel
theorem dX8_loop_44 : decode cX8_loop 44 = .ok (.imul, 1) := by decide +kernel
theorem dX8_loop_45 : decode cX8_loop 45 = .ok (.iadd, 1) := by decide +kernel
theorem dX8_loop_46 : decode cX8_loop 46 = .ok (.iconst 0, 1) := by decide +kernel
theorem dX8_loop_47 : decode cX8_loop 47 = .ok (.iadd, 1) := by decide +kernel
theorem dX8_loop_48 : decode cX8_loop 48 = .ok (.iload_n 1, 1) := by decide +kernel
theorem dX8_loop_49 : decode cX8_loop 49 = .ok (.iastore, 1) := by decide +kernel
theorem dX8_loop_50 : decode cX8_loop 50 = .ok (.aload_n 0, 1) := by decide +kernel
theorem dX8_loop_51 : decode cX8_loop 51 = .ok (.getfield 7, 3) := by decide +kernel
theorem dX8_loop_54 : decode cX8_loop 54 = .ok (.iconst 5, 1) := by decide +kernel
theorem dX8_loop_55 : decode cX8_loop 55 = .ok (.dup2, 1) := by decide +kernel
theorem dX8_loop_56 : decode cX8_loop 56 = .ok (.iaload, 1) := by decide +kernel
theorem dX8_loop_57 : decode cX8_loop 57 = .ok (.iconst 1, 1) := by decide +kernel
theorem dX8_loop_58 : decode cX8_loop 58 = .ok (.iadd, 1) := by decide +kernel
theorem dX8_loop_59 : decode cX8_loop 59 = .ok (.iastore, 1) := by decide +kernel
theorem dX8_loop_60 : decode cX8_loop 60 = .ok (.aload_n 0, 1) := by decide +kernel
theorem dX8_loop_61 : decode cX8_loop 61 = .ok (.getfield 7, 3) := by decide +kernel
theorem dX8_loop_64 : decode cX8_loop 64 = .ok (.iconst 5, 1) := by decide +kernel
theorem dX8_loop_65 : decode cX8_loop 65 = .ok (.iaload, 1) := by decide +kernel
theorem dX8_loop_66 : decode cX8_loop 66 = .ok (.iconst 1, 1) := by decide +kernel
theorem dX8_loop_67 : decode cX8_loop 67 = .ok (.isub, 1) := by decide +kernel
theorem dX8_loop_68 : decode cX8_loop 68 = .ok (.ireturn, 1) := by decide +kernel
theorem dX8_areNumbers_0 : decode cX8_areNumbers 0 = .ok (.iload_n 0, 1) := by decide +kernel
theorem dX8_areNumbers_1 : decode cX8_areNumbers 1 = .ok (.tableswitch 93 0 3 #[31, 59, 59, 73], 31) := by decide +kernel
theorem dX8_areNumbers_32 : decode cX8_areNumbers 32 = .ok (.iload_n 1, 1) := by decide +kernel
theorem dX8_areNumbers_33 : decode cX8_areNumbers 33 = .ok (.iconst 1, 1) := by decide +kernel
theorem dX8_areNumbers_34 : decode cX8_areNumbers 34 = .ok (.sipush 500, 3) := by decide +kernel
theorem dX8_areNumbers_37 : decode cX8_areNumbers 37 = .ok (.invokestatic 38, 3) := by decide +kernel
theorem dX8_areNumbers_40 : decode cX8_areNumbers 40 = .ok (.ifCond .eq 18, 3) := by decide +kernel
theorem dX8_areNumbers_43 : decode cX8_areNumbers 43 = .ok (.iload_n 2, 1) := by decide +kernel
theorem dX8_areNumbers_44 : decode cX8_areNumbers 44 = .ok (.iconst 1, 1) := by decide +kernel
theorem dX8_areNumbers_45 : decode cX8_areNumbers 45 = .ok (.sipush 2000, 3) := by decide +kernel
theorem dX8_areNumbers_48 : decode cX8_areNumbers 48 = .ok (.invokestatic 38, 3) := by decide +kernel
theorem dX8_areNumbers_51 : decode cX8_areNumbers 51 = .ok (.ifCond .eq 7, 3) := by decide +kernel
theorem dX8_areNumbers_54 : decode cX8_areNumbers 54 = .ok (.iconst 1, 1) := by decide +kernel
theorem dX8_areNumbers_55 : decode cX8_areNumbers 55 = .ok (.goto 4, 3) := by decide +kernel
theorem dX8_areNumbers_58 : decode cX8_areNumbers 58 = .ok (.iconst 0, 1) := by decide +kernel
theorem dX8_areNumbers_59 : decode cX8_areNumbers 59 = .ok (.ireturn, 1) := by decide +kernel
theorem dX8_areNumbers_60 : decode cX8_areNumbers 60 = .ok (.iload_n 1, 1) := by decide +kernel
theorem dX8_areNumbers_61 : decode cX8_areNumbers 61 = .ok (.ifCond .ne 11, 3) := by decide +kernel
theorem dX8_areNumbers_64 : decode cX8_areNumbers 64 = .ok (.iload_n 2, 1) := by decide +kernel
theorem dX8_areNumbers_65 : decode cX8_areNumbers 65 = .ok (.ifCond .ne 7, 3) := by decide +kernel
theorem dX8_areNumbers_68 : decode cX8_areNumbers 68 = .ok (.iconst 1, 1) := by decide +kernel
theorem dX8_areNumbers_69 : decode cX8_areNumbers 69 = .ok (.goto 4, 3) := by decide +kernel
theorem dX8_areNumbers_72 : decode cX8_areNumbers 72 = .ok (.iconst 0, 1) := by decide +kernel
theorem dX8_areNumbers_73 : decode cX8_areNumbers 73 = .ok (.ireturn, 1) := by decide +kernel
theorem dX8_areNumbers_74 : decode cX8_areNumbers 74 = .ok (.iload_n 1, 1) := by decide +kernel
theorem dX8_areNumbers_75 : decode cX8_areNumbers 75 = .ok (.invokestatic 127, 3) := by decide +kernel
theorem dX8_areNumbers_78 : decode cX8_areNumbers 78 = .ok (.ifCond .eq 14, 3) := by decide +kernel
theorem dX8_areNumbers_81 : decode cX8_areNumbers 81 = .ok (.iload_n 2, 1) := by decide +kernel
theorem dX8_areNumbers_82 : decode cX8_areNumbers 82 = .ok (.invokestatic 127, 3) := by decide +kernel
theorem dX8_areNumbers_85 : decode cX8_areNumbers 85 = .ok (.ifCond .eq 7, 3) := by decide +kernel
theorem dX8_areNumbers_88 : decode cX8_areNumbers 88 = .ok (.iconst 1, 1) := by decide +kernel
theorem dX8_areNumbers_89 : decode cX8_areNumbers 89 = .ok (.goto 4, 3) := by decide +kernel
theorem dX8_areNumbers_92 : decode cX8_areNumbers 92 = .ok (.iconst 0, 1) := by decide +kernel
theorem dX8_areNumbers_93 : decode cX8_areNumbers 93 = .ok (.ireturn, 1) := by decide +kernel
theorem dX8_areNumbers_94 : decode cX8_areNumbers 94 = .ok (.iload_n 0, 1) := by decide +kernel
theorem dX8_areNumbers_95 : decode cX8_areNumbers 95 = .ok (.iconst 4, 1) := by decide +kernel
theorem dX8_areNumbers_96 : decode cX8_areNumbers 96 = .ok (.if_icmp .ne 18, 3) := by decide +kernel
theorem dX8_areNumbers_99 : decode cX8_areNumbers 99 = .ok (.iload_n 1, 1) := by decide +kernel
theorem dX8_areNumbers_100 : decode cX8_areNumbers 100 = .ok (.invokestatic 127, 3) := by decide +kernel
theorem dX8_areNumbers_103 : decode cX8_areNumbers 103 = .ok (.ifCond .eq 11, 3) := by decide +kernel
theorem dX8_areNumbers_106 : decode cX8_areNumbers 106 = .ok (.iload_n 2, 1) := by decide +kernel
theorem dX8_areNumbers_107 : decode cX8_areNumbers 107 = .ok (.ifCond .ne 7, 3) := by decide +kernel
theorem dX8_areNumbers_110 : decode cX8_areNumbers 110 = .ok (.iconst 1, 1) := by decide +kernel
theorem dX8_areNumbers_111 : decode cX8_areNumbers 111 = .ok (.goto 4, 3) := by decide +kernel
theorem dX8_areNumbers_114 : decode cX8_areNumbers 114 = .ok (.iconst 0, 1) := by decide +kernel
theorem dX8_areNumbers_115 : decode cX8_areNumbers 115 = .ok (.ireturn, 1) := by decide +kernel
theorem dX8_make_0 : decode cX8_make 0 = .ok (.aload_n 0, 1) := by decide +kernel
theorem dX8_make_1 : decode cX8_make 1 = .ok (.getfield 7, 3) := by decide +kernel
theorem dX8_make_4 : decode cX8_make 4 = .ok (.bipush 6, 2) := by decide +kernel
theorem dX8_make_6 : decode cX8_make 6 = .ok (.iaload, 1) := by decide +kernel
theorem dX8_make_7 : decode cX8_make 7 = .ok (.istore 6, 2) := by decide +kernel
theorem dX8_make_9 : decode cX8_make 9 = .ok (.aload_n 0, 1) := by decide +kernel
theorem dX8_make_10 : decode cX8_make 10 = .ok (.iload 6, 2) := by decide +kernel
theorem dX8_make_12 : decode cX8_make 12 = .ok (.iconst 0, 1) := by decide +kernel
theorem dX8_make_13 : decode cX8_make 13 = .ok (.iload_n 3, 1) := by decide +kernel
theorem dX8_make_14 : decode cX8_make 14 = .ok (.invokevirtual 81, 3) := by decide +kernel
theorem dX8_make_17 : decode cX8_make 17 = .ok (.aload_n 0, 1) := by decide +kernel
theorem dX8_make_18 : decode cX8_make 18 = .ok (.iload 6, 2) := by decide +kernel
theorem dX8_make_20 : decode cX8_make 20 = .ok (.iconst 1, 1) := by decide +kernel
theorem dX8_make_21 : decode cX8_make 21 = .ok (.iload_n 1, 1) := by decide +kernel
theorem dX8_make_22 : decode cX8_make 22 = .ok (.invokevirtual 81, 3) := by decide +kernel
theorem dX8_make_25 : decode cX8_make 25 = .ok (.aload_n 0, 1) := by decide +kernel
theorem dX8_make_26 : decode cX8_make 26 = .ok (.iload 6, 2) := by decide +kernel
theorem dX8_make_28 : decode cX8_make 28 = .ok (.iconst 2, 1) := by decide +kernel
theorem dX8_make_29 : decode cX8_make 29 = .ok (.iload_n 2, 1) := by decide +kernel
theorem dX8_make_30 : decode cX8_make 30 = .ok (.invokevirtual 81, 3) := by decide +kernel
theorem dX8_make_33 : decode cX8_make 33 = .ok (.aload_n 0, 1) := by decide +kernel
theorem dX8_make_34 : decode cX8_make 34 = .ok (.iload 6, 2) := by decide +kernel
theorem dX8_make_36 : decode cX8_make 36 = .ok (.iconst 3, 1) := by decide +kernel
theorem dX8_make_37 : decode cX8_make 37 = .ok (.iload 4, 2) := by decide +kernel
theorem dX8_make_39 : decode cX8_make 39 = .ok (.invokevirtual 81, 3) := by decide +kernel
theorem dX8_make_42 : decode cX8_make 42 = .ok (.aload_n 0, 1) := by decide +kernel
theorem dX8_make_43 : decode cX8_make 43 = .ok (.iload 6, 2) := by decide +kernel
theorem dX8_make_45 : decode cX8_make 45 = .ok (.iconst 4, 1) := by decide +kernel
theorem dX8_make_46 : decode cX8_make 46 = .ok (.iload 5, 2) := by decide +kernel
theorem dX8_make_48 : decode cX8_make 48 = .ok (.invokevirtual 81, 3) := by decide +kernel
theorem dX8_make_51 : decode cX8_make 51 = .ok (.aload_n 0, 1) := by decide +kernel
theorem dX8_make_52 : decode cX8_make 52 = .ok (.iload 6, 2) := by decide +kernel
theorem dX8_make_54 : decode cX8_make 54 = .ok (.iconst 5, 1) := by decide +kernel
theorem dX8_make_55 : decode cX8_make 55 = .ok (.iload_n 3, 1) := by decide +kernel
theorem dX8_make_56 : decode cX8_make 56 = .ok (.ifCond .ne 8, 3) := by decide +kernel
theorem dX8_make_59 : decode cX8_make 59 = .ok (.iload 5, 2) := by decide +kernel
theorem dX8_make_61 : decode cX8_make 61 = .ok (.goto 4, 3) := by decide +kernel
theorem dX8_make_64 : decode cX8_make 64 = .ok (.iconst 0, 1) := by decide +kernel
theorem dX8_make_65 : decode cX8_make 65 = .ok (.invokevirtual 81, 3) := by decide +kernel
theorem dX8_make_68 : decode cX8_make 68 = .ok (.aload_n 0, 1) := by decide +kernel
theorem dX8_make_69 : decode cX8_make 69 = .ok (.iload 6, 2) := by decide +kernel
theorem dX8_make_71 : decode cX8_make 71 = .ok (.bipush 6, 2) := by decide +kernel
theorem dX8_make_73 : decode cX8_make 73 = .ok (.iconst 0, 1) := by decide +kernel
theorem dX8_make_74 : decode cX8_make 74 = .ok (.invokevirtual 81, 3) := by decide +kernel
theorem dX8_make_77 : decode cX8_make 77 = .ok (.aload_n 0, 1) := by decide +kernel
theorem dX8_make_78 : decode cX8_make 78 = .ok (.getfield 7, 3) := by decide +kernel
theorem dX8_make_81 : decode cX8_make 81 = .ok (.bipush 6, 2) := by decide +kernel
theorem dX8_make_83 : decode cX8_make 83 = .ok (.dup2, 1) := by decide +kernel
theorem dX8_make_84 : decode cX8_make 84 = .ok (.iaload, 1) := by decide +kernel
theorem dX8_make_85 : decode cX8_make 85 = .ok (.iconst 1, 1) := by decide +kernel
theorem dX8_make_86 : decode cX8_make 86 = .ok (.iadd, 1) := by decide +kernel
theorem dX8_make_87 : decode cX8_make 87 = .ok (.iastore, 1) := by decide +kernel
theorem dX8_make_88 : decode cX8_make 88 = .ok (.return_, 1) := by decide +kernel
theorem dX8_device_0 : decode cX8_device 0 = .ok (.aload_n 0, 1) := by decide +kernel
theorem dX8_device_1 : decode cX8_device 1 = .ok (.iload_n 1, 1) := by decide +kernel
theorem dX8_device_2 : decode cX8_device 2 = .ok (.iload_n 2, 1) := by decide +kernel
theorem dX8_device_3 : decode cX8_device 3 = .ok (.invokevirtual 130, 3) := by decide +kernel
theorem dX8_device_6 : decode cX8_device 6 = .ok (.ifCond .ne 5, 3) := by decide +kernel
theorem dX8_device_9 : decode cX8_device 9 = .ok (.iconst (-1), 1) := by decide +kernel
theorem dX8_device_10 : decode cX8_device 10 = .ok (.ireturn, 1) := by decide +kernel
theorem dX8_device_11 : decode cX8_device 11 = .ok (.iload_n 3, 1) := by decide +kernel
theorem dX8_device_12 : decode cX8_device 12 = .ok (.iload 4, 2) := by decide +kernel
theorem dX8_device_14 : decode cX8_device 14 = .ok (.iload 5, 2) := by decide +kernel
theorem dX8_device_16 : decode cX8_device 16 = .ok (.invokestatic 134, 3) := by decide +kernel
theorem dX8_device_19 : decode cX8_device 19 = .ok (.ifCond .ne 6, 3) := by decide +kernel
theorem dX8_device_22 : decode cX8_device 22 = .ok (.bipush (-2), 2) := by decide +kernel
theorem dX8_device_24 : decode cX8_device 24 = .ok (.ireturn, 1) := by decide +kernel
theorem dX8_device_25 : decode cX8_device 25 = .ok (.aload_n 0, 1) := by decide +kernel
theorem dX8_device_26 : decode cX8_device 26 = .ok (.getfield 7, 3) := by decide +kernel
theorem dX8_device_29 : decode cX8_device 29 = .ok (.bipush 6, 2) := by decide +kernel
theorem dX8_device_31 : decode cX8_device 31 = .ok (.iaload, 1) := by decide +kernel
theorem dX8_device_32 : decode cX8_device 32 = .ok (.bipush 12, 2) := by decide +kernel
theorem dX8_device_34 : decode cX8_device 34 = .ok (.if_icmp .ne 6, 3) := by decide +kernel
theorem dX8_device_37 : decode cX8_device 37 = .ok (.bipush (-4), 2) := by decide +kernel
theorem dX8_device_39 : decode cX8_device 39 = .ok (.ireturn, 1) := by decide +kernel
theorem dX8_device_40 : decode cX8_device 40 = .ok (.aload_n 0, 1) := by decide +kernel
theorem dX8_device_41 : decode cX8_device 41 = .ok (.invokevirtual 57, 3) := by decide +kernel
theorem dX8_device_44 : decode cX8_device 44 = .ok (.aload_n 0, 1) := by decide +kernel
theorem dX8_device_45 : decode cX8_device 45 = .ok (.iload_n 1, 1) := by decide +kernel
theorem dX8_device_46 : decode cX8_device 46 = .ok (.iload_n 2, 1) := by decide +kernel
theorem dX8_device_47 : decode cX8_device 47 = .ok (.iload_n 3, 1) := by decide +kernel
theorem dX8_device_48 : decode cX8_device 48 = .ok (.iload 4, 2) := by decide +kernel
theorem dX8_device_50 : decode cX8_device 50 = .ok (.iload 5, 2) := by decide +kernel
theorem dX8_device_52 : decode cX8_device 52 = .ok (.invokevirtual 137, 3) := by decide +kernel
theorem dX8_device_55 : decode cX8_device 55 = .ok (.aload_n 0, 1) := by decide +kernel
theorem dX8_device_56 : decode cX8_device 56 = .ok (.getfield 7, 3) := by decide +kernel
theorem dX8_device_59 : decode cX8_device 59 = .ok (.bipush 6, 2) := by decide +kernel
theorem dX8_device_61 : decode cX8_device 61 = .ok (.iaload, 1) := by decide +kernel
theorem dX8_device_62 : decode cX8_device 62 = .ok (.iconst 1, 1) := by decide +kernel
theorem dX8_device_63 : decode cX8_device 63 = .ok (.isub, 1) := by decide +kernel
theorem dX8_device_64 : decode cX8_device 64 = .ok (.ireturn, 1) := by decide +kernel
theorem dX8_join_0 : decode cX8_join 0 = .ok (.aload_n 0, 1) := by decide +kernel
theorem dX8_join_1 : decode cX8_join 1 = .ok (.iload_n 1, 1) := by decide +kernel
theorem dX8_join_2 : decode cX8_join 2 = .ok (.iload_n 2, 1) := by decide +kernel
theorem dX8_join_3 : decode cX8_join 3 = .ok (.invokevirtual 130, 3) := by decide +kernel
theorem dX8_join_6 : decode cX8_join 6 = .ok (.ifCond .eq 13, 3) := by decide +kernel
theorem dX8_join_9 : decode cX8_join 9 = .ok (.aload_n 0, 1) := by decide +kernel
theorem dX8_join_10 : decode cX8_join 10 = .ok (.iload_n 3, 1) := by decide +kernel
theorem dX8_join_11 : decode cX8_join 11 = .ok (.iload 4, 2) := by decide +kernel
theorem dX8_join_13 : decode cX8_join 13 = .ok (.invokevirtual 130, 3) := by decide +kernel
theorem dX8_join_16 : decode cX8_join 16 = .ok (.ifCond .ne 5, 3) := by decide +kernel
theorem dX8_join_19 : decode cX8_join 19 = .ok (.iconst (-1), 1) := by decide +kernel
theorem dX8_join_20 : decode cX8_join 20 = .ok (.ireturn, 1) := by decide +kernel
theorem dX8_join_21 : decode cX8_join 21 = .ok (.iload_n 1, 1) := by decide +kernel
theorem dX8_join_22 : decode cX8_join 22 = .ok (.iload_n 3, 1) := by decide +kernel
theorem dX8_join_23 : decode cX8_join 23 = .ok (.if_icmp .ne 6, 3) := by decide +kernel
theorem dX8_join_26 : decode cX8_join 26 = .ok (.bipush (-2), 2) := by decide +kernel
theorem dX8_join_28 : decode cX8_join 28 = .ok (.ireturn, 1) := by decide +kernel
theorem dX8_join_29 : decode cX8_join 29 = .ok (.aload_n 0, 1) := by decide +kernel
theorem dX8_join_30 : decode cX8_join 30 = .ok (.getfield 7, 3) := by decide +kernel
theorem dX8_join_33 : decode cX8_join 33 = .ok (.bipush 7, 2) := by decide +kernel
theorem dX8_join_35 : decode cX8_join 35 = .ok (.iaload, 1) := by decide +kernel
theorem dX8_join_36 : decode cX8_join 36 = .ok (.iconst 4, 1) := by decide +kernel
theorem dX8_join_37 : decode cX8_join 37 = .ok (.if_icmp .ne 6, 3) := by decide +kernel
theorem dX8_join_40 : decode cX8_join 40 = .ok (.bipush (-4), 2) := by decide +kernel
theorem dX8_join_42 : decode cX8_join 42 = .ok (.ireturn, 1) := by decide +kernel
theorem dX8_join_43 : decode cX8_join 43 = .ok (.aload_n 0, 1) := by decide +kernel
theorem dX8_join_44 : decode cX8_join 44 = .ok (.invokevirtual 57, 3) := by decide +kernel
theorem dX8_join_47 : decode cX8_join 47 = .ok (.sipush 266, 3) := by decide +kernel
theorem dX8_join_50 : decode cX8_join 50 = .ok (.bipush 6, 2) := by decide +kernel
theorem dX8_join_52 : decode cX8_join 52 = .ok (.aload_n 0, 1) := by decide +kernel
theorem dX8_join_53 : decode cX8_join 53 = .ok (.getfield 7, 3) := by decide +kernel
theorem dX8_join_56 : decode cX8_join 56 = .ok (.bipush 7, 2) := by decide +kernel
theorem dX8_join_58 : decode cX8_join 58 = .ok (.iaload, 1) := by decide +kernel
theorem dX8_join_59 : decode cX8_join 59 = .ok (.imul, 1) := by decide +kernel
theorem dX8_join_60 : decode cX8_join 60 = .ok (.iadd, 1) := by decide +kernel
theorem dX8_join_61 : decode cX8_join 61 = .ok (.istore 5, 2) := by decide +kernel
theorem dX8_join_63 : decode cX8_join 63 = .ok (.aload_n 0, 1) := by decide +kernel
theorem dX8_join_64 : decode cX8_join 64 = .ok (.getfield 7, 3) := by decide +kernel
theorem dX8_join_67 : decode cX8_join 67 = .ok (.iload 5, 2) := by decide +kernel
theorem dX8_join_69 : decode cX8_join 69 = .ok (.iload_n 1, 1) := by decide +kernel
theorem dX8_join_70 : decode cX8_join 70 = .ok (.iastore, 1) := by decide +kernel
theorem dX8_join_71 : decode cX8_join 71 = .ok (.aload_n 0, 1) := by decide +kernel
theorem dX8_join_72 : decode cX8_join 72 = .ok (.getfield 7, 3) := by decide +kernel
theorem dX8_join_75 : decode cX8_join 75 = .ok (.iload 5, 2) := by decide +kernel
theorem dX8_join_77 : decode cX8_join 77 = .ok (.iconst 1, 1) := by decide +kernel
theorem dX8_join_78 : decode cX8_join 78 = .ok (.iadd, 1) := by decide +kernel
theorem dX8_join_79 : decode cX8_join 79 = .ok (.iload_n 2, 1) := by decide +kernel
theorem dX8_join_80 : decode cX8_join 80 = .ok (.iastore, 1) := by decide +kernel
theorem dX8_join_81 : decode cX8_join 81 = .ok (.aload_n 0, 1) := by decide +kernel
theorem dX8_join_82 : decode cX8_join 82 = .ok (.getfield 7, 3) := by decide +kernel
theorem dX8_join_85 : decode cX8_join 85 = .ok (.iload 5, 2) := by decide +kernel
theorem dX8_join_87 : decode cX8_join 87 = .ok (.iconst 2, 1) := by decide +kernel
theorem dX8_join_88 : decode cX8_join 88 = .ok (.iadd, 1) := by decide +kernel
theorem dX8_join_89 : decode cX8_join 89 = .ok (.iload_n 3, 1) := by decide +kernel
theorem dX8_join_90 : decode cX8_join 90 = .ok (.iastore, 1) := by decide +kernel
theorem dX8_join_91 : decode cX8_join 91 = .ok (.aload_n 0, 1) := by decide +kernel
theorem dX8_join_92 : decode cX8_join 92 = .ok (.getfield 7, 3) := by decide +kernel
theorem dX8_join_95 : decode cX8_join 95 = .ok (.iload 5, 2) := by decide +kernel
theorem dX8_join_97 : decode cX8_join 97 = .ok (.iconst 3, 1) := by decide +kernel
theorem dX8_join_98 : decode cX8_join 98 = .ok (.iadd, 1) := by decide +kernel
theorem dX8_join_99 : decode cX8_join 99 = .ok (.iload 4, 2) := by decide +kernel
theorem dX8_join_101 : decode cX8_join 101 = .ok (.iastore, 1) := by decide +kernel
theorem dX8_join_102 : decode cX8_join 102 = .ok (.aload_n 0, 1) := by decide +kernel
theorem dX8_join_103 : decode cX8_join 103 = .ok (.getfield 7, 3) := by decide +kernel
theorem dX8_join_106 : decode cX8_join 106 = .ok (.iload 5, 2) := by decide +kernel
theorem dX8_join_108 : decode cX8_join 108 = .ok (.iconst 4, 1) := by decide +kernel
theorem dX8_join_109 : decode cX8_join 109 = .ok (.iadd, 1) := by decide +kernel
theorem dX8_join_110 : decode cX8_join 110 = .ok (.iconst 0, 1) := by decide +kernel
theorem dX8_join_111 : decode cX8_join 111 = .ok (.iastore, 1) := by decide +kernel
theorem dX8_join_112 : decode cX8_join 112 = .ok (.aload_n 0, 1) := by decide +kernel
theorem dX8_join_113 : decode cX8_join 113 = .ok (.getfield 7, 3) := by decide +kernel
theorem dX8_join_116 : decode cX8_join 116 = .ok (.iload 5, 2) := by decide +kernel
theorem dX8_join_118 : decode cX8_join 118 = .ok (.iconst 5, 1) := by decide +kernel
theorem dX8_join_119 : decode cX8_join 119 = .ok (.iadd, 1) := by decide +kernel
theorem dX8_join_120 : decode cX8_join 120 = .ok (.iconst 0, 1) := by decide +kernel
theorem dX8_join_121 : decode cX8_join 121 = .ok (.iastore, 1) := by decide +kernel
theorem dX8_join_122 : decode cX8_join 122 = .ok (.aload_n 0, 1) := by decide +kernel
theorem dX8_join_123 : decode cX8_join 123 = .ok (.getfield 7, 3) := by decide +kernel
theorem dX8_join_126 : decode cX8_join 126 = .ok (.bipush 7, 2) := by decide +kernel
theorem dX8_join_128 : decode cX8_join 128 = .ok (.dup2, 1) := by decide +kernel
theorem dX8_join_129 : decode cX8_join 129 = .ok (.iaload, 1) := by decide +kernel
theorem dX8_join_130 : decode cX8_join 130 = .ok (.iconst 1, 1) := by decide +kernel
theorem dX8_join_131 : decode cX8_join 131 = .ok (.iadd, 1) := by decide +kernel
theorem dX8_join_132 : decode cX8_join 132 = .ok (.iastore, 1) := by decide +kernel
theorem dX8_join_133 : decode cX8_join 133 = .ok (.aload_n 0, 1) := by decide +kernel
theorem dX8_join_134 : decode cX8_join 134 = .ok (.getfield 7, 3) := by decide +kernel
theorem dX8_join_137 : decode cX8_join 137 = .ok (.bipush 7, 2) := by decide +kernel
theorem dX8_join_139 : decode cX8_join 139 = .ok (.iaload, 1) := by decide +kernel
theorem dX8_join_140 : decode cX8_join 140 = .ok (.iconst 1, 1) := by decide +kernel
theorem dX8_join_141 : decode cX8_join 141 = .ok (.isub, 1) := by decide +kernel
theorem dX8_join_142 : decode cX8_join 142 = .ok (.ireturn, 1) := by decide +kernel
theorem dX8_tryTurn_0 : decode cX8_tryTurn 0 = .ok (.iload_n 1, 1) := by decide +kernel
theorem dX8_tryTurn_1 : decode cX8_tryTurn 1 = .ok (.iconst 0, 1) := by decide +kernel
theorem dX8_tryTurn_2 : decode cX8_tryTurn 2 = .ok (.aload_n 0, 1) := by decide +kernel
theorem dX8_tryTurn_3 : decode cX8_tryTurn 3 = .ok (.getfield 7, 3) := by decide +kernel
theorem dX8_tryTurn_6 : decode cX8_tryTurn 6 = .ok (.bipush 7, 2) := by decide +kernel
theorem dX8_tryTurn_8 : decode cX8_tryTurn 8 = .ok (.iaload, 1) := by decide +kernel
theorem dX8_tryTurn_9 : decode cX8_tryTurn 9 = .ok (.iconst 1, 1) := by decide +kernel
theorem dX8_tryTurn_10 : decode cX8_tryTurn 10 = .ok (.isub, 1) := by decide +kernel
theorem dX8_tryTurn_11 : decode cX8_tryTurn 11 = .ok (.invokestatic 38, 3) := by decide +kernel
theorem dX8_tryTurn_14 : decode cX8_tryTurn 14 = .ok (.ifCond .ne 5, 3) := by decide +kernel
theorem dX8_tryTurn_17 : decode cX8_tryTurn 17 = .ok (.iconst (-1), 1) := by decide +kernel
theorem dX8_tryTurn_18 : decode cX8_tryTurn 18 = .ok (.ireturn, 1) := by decide +kernel
theorem dX8_tryTurn_19 : decode cX8_tryTurn 19 = .ok (.iload_n 2, 1) := by decide +kernel
theorem dX8_tryTurn_20 : decode cX8_tryTurn 20 = .ok (.iconst 0, 1) := by decide +kernel
theorem dX8_tryTurn_21 : decode cX8_tryTurn 21 = .ok (.iconst 2, 1) := by decide +kernel
theorem dX8_tryTurn_22 : decode cX8_tryTurn 22 = .ok (.invokestatic 38, 3) := by decide +kernel
theorem dX8_tryTurn_25 : decode cX8_tryTurn 25 = .ok (.ifCond .ne 6, 3) := by decide +kernel
theorem dX8_tryTurn_28 : decode cX8_tryTurn 28 = .ok (.bipush (-2), 2) := by decide +kernel
theorem dX8_tryTurn_30 : decode cX8_tryTurn 30 = .ok (.ireturn, 1) := by decide +kernel
theorem dX8_tryTurn_31 : decode cX8_tryTurn 31 = .ok (.aload_n 0, 1) := by decide +kernel
theorem dX8_tryTurn_32 : decode cX8_tryTurn 32 = .ok (.iload_n 3, 1) := by decide +kernel
theorem dX8_tryTurn_33 : decode cX8_tryTurn 33 = .ok (.invokevirtual 141, 3) := by decide +kernel
theorem dX8_tryTurn_36 : decode cX8_tryTurn 36 = .ok (.aload_n 0, 1) := by decide +kernel
theorem dX8_tryTurn_37 : decode cX8_tryTurn 37 = .ok (.iload_n 1, 1) := by decide +kernel
theorem dX8_tryTurn_38 : decode cX8_tryTurn 38 = .ok (.iconst 4, 1) := by decide +kernel
theorem dX8_tryTurn_39 : decode cX8_tryTurn 39 = .ok (.invokevirtual 99, 3) := by decide +kernel
theorem dX8_tryTurn_42 : decode cX8_tryTurn 42 = .ok (.istore 4, 2) := by decide +kernel
theorem dX8_tryTurn_44 : decode cX8_tryTurn 44 = .ok (.aload_n 0, 1) := by decide +kernel
theorem dX8_tryTurn_45 : decode cX8_tryTurn 45 = .ok (.getfield 7, 3) := by decide +kernel
theorem dX8_tryTurn_48 : decode cX8_tryTurn 48 = .ok (.sipush 266, 3) := by decide +kernel
theorem dX8_tryTurn_51 : decode cX8_tryTurn 51 = .ok (.bipush 6, 2) := by decide +kernel
theorem dX8_tryTurn_53 : decode cX8_tryTurn 53 = .ok (.iload_n 1, 1) := by decide +kernel
theorem dX8_tryTurn_54 : decode cX8_tryTurn 54 = .ok (.imul, 1) := by decide +kernel
theorem dX8_tryTurn_55 : decode cX8_tryTurn 55 = .ok (.iadd, 1) := by decide +kernel
theorem dX8_tryTurn_56 : decode cX8_tryTurn 56 = .ok (.iconst 4, 1) := by decide +kernel
theorem dX8_tryTurn_57 : decode cX8_tryTurn 57 = .ok (.iadd, 1) := by decide +kernel
theorem dX8_tryTurn_58 : decode cX8_tryTurn 58 = .ok (.iload_n 2, 1) := by decide +kernel
theorem dX8_tryTurn_59 : decode cX8_tryTurn 59 = .ok (.iastore, 1) := by decide +kernel
theorem dX8_tryTurn_60 : decode cX8_tryTurn 60 = .ok (.iload 4, 2) := by decide +kernel
theorem dX8_tryTurn_62 : decode cX8_tryTurn 62 = .ok (.ireturn, 1) := by decide +kernel
theorem dX8_turn_0 : decode cX8_turn 0 = .ok (.aload_n 0, 1) := by decide +kernel
theorem dX8_turn_1 : decode cX8_turn 1 = .ok (.iload_n 1, 1) := by decide +kernel
theorem dX8_turn_2 : decode cX8_turn 2 = .ok (.iload_n 2, 1) := by decide +kernel
theorem dX8_turn_3 : decode cX8_turn 3 = .ok (.iconst 1, 1) := by decide +kernel
theorem dX8_turn_4 : decode cX8_turn 4 = .ok (.invokevirtual 145, 3) := by decide +kernel
theorem dX8_turn_7 : decode cX8_turn 7 = .ok (.ireturn, 1) := by decide +kernel
theorem dX8_tryFeed_0 : decode cX8_tryFeed 0 = .ok (.aload_n 0, 1) := by decide +kernel
theorem dX8_tryFeed_1 : decode cX8_tryFeed 1 = .ok (.iload_n 1, 1) := by decide +kernel
theorem dX8_tryFeed_2 : decode cX8_tryFeed 2 = .ok (.invokevirtual 149, 3) := by decide +kernel
theorem dX8_tryFeed_5 : decode cX8_tryFeed 5 = .ok (.ifCond .eq 13, 3) := by decide +kernel
theorem dX8_tryFeed_8 : decode cX8_tryFeed 8 = .ok (.aload_n 0, 1) := by decide +kernel
theorem dX8_tryFeed_9 : decode cX8_tryFeed 9 = .ok (.iload_n 1, 1) := by decide +kernel
theorem dX8_tryFeed_10 : decode cX8_tryFeed 10 = .ok (.iconst 0, 1) := by decide +kernel
theorem dX8_tryFeed_11 : decode cX8_tryFeed 11 = .ok (.invokevirtual 78, 3) := by decide +kernel
theorem dX8_tryFeed_14 : decode cX8_tryFeed 14 = .ok (.iconst 2, 1) := by decide +kernel
theorem dX8_tryFeed_15 : decode cX8_tryFeed 15 = .ok (.if_icmp .eq 5, 3) := by decide +kernel
theorem dX8_tryFeed_18 : decode cX8_tryFeed 18 = .ok (.iconst (-1), 1) := by decide +kernel
theorem dX8_tryFeed_19 : decode cX8_tryFeed 19 = .ok (.ireturn, 1) := by decide +kernel
theorem dX8_tryFeed_20 : decode cX8_tryFeed 20 = .ok (.iload_n 2, 1) := by decide +kernel
theorem dX8_tryFeed_21 : decode cX8_tryFeed 21 = .ok (.invokestatic 127, 3) := by decide +kernel
theorem dX8_tryFeed_24 : decode cX8_tryFeed 24 = .ok (.ifCond .ne 6, 3) := by decide +kernel
theorem dX8_tryFeed_27 : decode cX8_tryFeed 27 = .ok (.bipush (-2), 2) := by decide +kernel
theorem dX8_tryFeed_29 : decode cX8_tryFeed 29 = .ok (.ireturn, 1) := by decide +kernel
theorem dX8_tryFeed_30 : decode cX8_tryFeed 30 = .ok (.aload_n 0, 1) := by decide +kernel
theorem dX8_tryFeed_31 : decode cX8_tryFeed 31 = .ok (.iload_n 1, 1) := by decide +kernel
theorem dX8_tryFeed_32 : decode cX8_tryFeed 32 = .ok (.iconst 5, 1) := by decide +kernel
theorem dX8_tryFeed_33 : decode cX8_tryFeed 33 = .ok (.invokevirtual 78, 3) := by decide +kernel
theorem dX8_tryFeed_36 : decode cX8_tryFeed 36 = .ok (.bipush 12, 2) := by decide +kernel
theorem dX8_tryFeed_38 : decode cX8_tryFeed 38 = .ok (.if_icmp .ne 6, 3) := by decide +kernel
theorem dX8_tryFeed_41 : decode cX8_tryFeed 41 = .ok (.bipush (-4), 2) := by decide +kernel
theorem dX8_tryFeed_43 : decode cX8_tryFeed 43 = .ok (.ireturn, 1) := by decide +kernel
theorem dX8_tryFeed_44 : decode cX8_tryFeed 44 = .ok (.aload_n 0, 1) := by decide +kernel
theorem dX8_tryFeed_45 : decode cX8_tryFeed 45 = .ok (.iload_n 3, 1) := by decide +kernel
theorem dX8_tryFeed_46 : decode cX8_tryFeed 46 = .ok (.invokevirtual 141, 3) := by decide +kernel
theorem dX8_tryFeed_49 : decode cX8_tryFeed 49 = .ok (.aload_n 0, 1) := by decide +kernel
theorem dX8_tryFeed_50 : decode cX8_tryFeed 50 = .ok (.iload_n 1, 1) := by decide +kernel
theorem dX8_tryFeed_51 : decode cX8_tryFeed 51 = .ok (.bipush 7, 2) := by decide +kernel
theorem dX8_tryFeed_53 : decode cX8_tryFeed 53 = .ok (.aload_n 0, 1) := by decide +kernel
theorem dX8_tryFeed_54 : decode cX8_tryFeed 54 = .ok (.iload_n 1, 1) := by decide +kernel
theorem dX8_tryFeed_55 : decode cX8_tryFeed 55 = .ok (.iconst 5, 1) := by decide +kernel
theorem dX8_tryFeed_56 : decode cX8_tryFeed 56 = .ok (.invokevirtual 78, 3) := by decide +kernel
theorem dX8_tryFeed_59 : decode cX8_tryFeed 59 = .ok (.iadd, 1) := by decide +kernel
theorem dX8_tryFeed_60 : decode cX8_tryFeed 60 = .ok (.iload_n 2, 1) := by decide +kernel
theorem dX8_tryFeed_61 : decode cX8_tryFeed 61 = .ok (.invokevirtual 81, 3) := by decide +kernel
theorem dX8_tryFeed_64 : decode cX8_tryFeed 64 = .ok (.aload_n 0, 1) := by decide +kernel
theorem dX8_tryFeed_65 : decode cX8_tryFeed 65 = .ok (.iload_n 1, 1) := by decide +kernel
theorem dX8_tryFeed_66 : decode cX8_tryFeed 66 = .ok (.iconst 5, 1) := by decide +kernel
theorem dX8_tryFeed_67 : decode cX8_tryFeed 67 = .ok (.aload_n 0, 1) := by decide +kernel
theorem dX8_tryFeed_68 : decode cX8_tryFeed 68 = .ok (.iload_n 1, 1) := by decide +kernel
theorem dX8_tryFeed_69 : decode cX8_tryFeed 69 = .ok (.iconst 5, 1) := by decide +kernel
theorem dX8_tryFeed_70 : decode cX8_tryFeed 70 = .ok (.invokevirtual 78, 3) := by decide +kernel
theorem dX8_tryFeed_73 : decode cX8_tryFeed 73 = .ok (.iconst 1, 1) := by decide +kernel
theorem dX8_tryFeed_74 : decode cX8_tryFeed 74 = .ok (.iadd, 1) := by decide +kernel
theorem dX8_tryFeed_75 : decode cX8_tryFeed 75 = .ok (.invokevirtual 81, 3) := by decide +kernel
theorem dX8_tryFeed_78 : decode cX8_tryFeed 78 = .ok (.aload_n 0, 1) := by decide +kernel
theorem dX8_tryFeed_79 : decode cX8_tryFeed 79 = .ok (.iload_n 1, 1) := by decide +kernel
theorem dX8_tryFeed_80 : decode cX8_tryFeed 80 = .ok (.iconst 5, 1) := by decide +kernel
theorem dX8_tryFeed_81 : decode cX8_tryFeed 81 = .ok (.invokevirtual 78, 3) := by decide +kernel
theorem dX8_tryFeed_84 : decode cX8_tryFeed 84 = .ok (.ireturn, 1) := by decide +kernel
theorem dX8_feed_0 : decode cX8_feed 0 = .ok (.aload_n 0, 1) := by decide +kernel
theorem dX8_feed_1 : decode cX8_feed 1 = .ok (.iload_n 1, 1) := by decide +kernel
theorem dX8_feed_2 : decode cX8_feed 2 = .ok (.iload_n 2, 1) := by decide +kernel
theorem dX8_feed_3 : decode cX8_feed 3 = .ok (.iconst 1, 1) := by decide +kernel
theorem dX8_feed_4 : decode cX8_feed 4 = .ok (.invokevirtual 152, 3) := by decide +kernel
theorem dX8_feed_7 : decode cX8_feed 7 = .ok (.ireturn, 1) := by decide +kernel
theorem dX8_flashes_0 : decode cX8_flashes 0 = .ok (.iconst 0, 1) := by decide +kernel
theorem dX8_flashes_1 : decode cX8_flashes 1 = .ok (.istore_n 2, 1) := by decide +kernel
theorem dX8_flashes_2 : decode cX8_flashes 2 = .ok (.iconst 0, 1) := by decide +kernel
theorem dX8_flashes_3 : decode cX8_flashes 3 = .ok (.istore_n 3, 1) := by decide +kernel
theorem dX8_flashes_4 : decode cX8_flashes 4 = .ok (.iload_n 3, 1) := by decide +kernel
theorem dX8_flashes_5 : decode cX8_flashes 5 = .ok (.aload_n 0, 1) := by decide +kernel
theorem dX8_flashes_6 : decode cX8_flashes 6 = .ok (.iload_n 1, 1) := by decide +kernel
theorem dX8_flashes_7 : decode cX8_flashes 7 = .ok (.iconst 0, 1) := by decide +kernel
theorem dX8_flashes_8 : decode cX8_flashes 8 = .ok (.invokevirtual 46, 3) := by decide +kernel
theorem dX8_flashes_11 : decode cX8_flashes 11 = .ok (.if_icmp .ge 30, 3) := by decide +kernel
theorem dX8_flashes_14 : decode cX8_flashes 14 = .ok (.iload_n 2, 1) := by decide +kernel
theorem dX8_flashes_15 : decode cX8_flashes 15 = .ok (.aload_n 0, 1) := by decide +kernel
theorem dX8_flashes_16 : decode cX8_flashes 16 = .ok (.getfield 7, 3) := by decide +kernel
theorem dX8_flashes_19 : decode cX8_flashes 19 = .ok (.iload_n 1, 1) := by decide +kernel
theorem dX8_flashes_20 : decode cX8_flashes 20 = .ok (.iload_n 3, 1) := by decide +kernel
theorem dX8_flashes_21 : decode cX8_flashes 21 = .ok (.invokestatic 68, 3) := by decide +kernel
theorem dX8_flashes_24 : decode cX8_flashes 24 = .ok (.iaload, 1) := by decide +kernel
theorem dX8_flashes_25 : decode cX8_flashes 25 = .ok (.ifCond .lt 7, 3) := by decide +kernel
theorem dX8_flashes_28 : decode cX8_flashes 28 = .ok (.iconst 1, 1) := by decide +kernel
theorem dX8_flashes_29 : decode cX8_flashes 29 = .ok (.goto 4, 3) := by decide +kernel
theorem dX8_flashes_32 : decode cX8_flashes 32 = .ok (.iconst 0, 1) := by decide +kernel
theorem dX8_flashes_33 : decode cX8_flashes 33 = .ok (.iadd, 1) := by decide +kernel
theorem dX8_flashes_34 : decode cX8_flashes 34 = .ok (.istore_n 2, 1) := by decide +kernel
theorem dX8_flashes_35 : decode cX8_flashes 35 = .ok (.iinc 3 1, 3) := by decide +kernel
theorem dX8_flashes_38 : decode cX8_flashes 38 = .ok (.goto (-34), 3) := by decide +kernel
theorem dX8_flashes_41 : decode cX8_flashes 41 = .ok (.iload_n 2, 1) := by decide +kernel
theorem dX8_flashes_42 : decode cX8_flashes 42 = .ok (.ireturn, 1) := by decide +kernel
theorem dX8_tryLight_0 : decode cX8_tryLight 0 = .ok (.aload_n 0, 1) := by decide +kernel
theorem dX8_tryLight_1 : decode cX8_tryLight 1 = .ok (.iload_n 1, 1) := by decide +kernel
theorem dX8_tryLight_2 : decode cX8_tryLight 2 = .ok (.iload_n 2, 1) := by decide +kernel
theorem dX8_tryLight_3 : decode cX8_tryLight 3 = .ok (.invokevirtual 130, 3) := by decide +kernel
theorem dX8_tryLight_6 : decode cX8_tryLight 6 = .ok (.ifCond .ne 5, 3) := by decide +kernel
theorem dX8_tryLight_9 : decode cX8_tryLight 9 = .ok (.iconst (-1), 1) := by decide +kernel
theorem dX8_tryLight_10 : decode cX8_tryLight 10 = .ok (.ireturn, 1) := by decide +kernel
theorem dX8_tryLight_11 : decode cX8_tryLight 11 = .ok (.iload_n 3, 1) := by decide +kernel
theorem dX8_tryLight_12 : decode cX8_tryLight 12 = .ok (.invokestatic 127, 3) := by decide +kernel
theorem dX8_tryLight_15 : decode cX8_tryLight 15 = .ok (.ifCond .ne 6, 3) := by decide +kernel
theorem dX8_tryLight_18 : decode cX8_tryLight 18 = .ok (.bipush (-2), 2) := by decide +kernel
theorem dX8_tryLight_20 : decode cX8_tryLight 20 = .ok (.ireturn, 1) := by decide +kernel
theorem dX8_tryLight_21 : decode cX8_tryLight 21 = .ok (.aload_n 0, 1) := by decide +kernel
theorem dX8_tryLight_22 : decode cX8_tryLight 22 = .ok (.getfield 7, 3) := by decide +kernel
theorem dX8_tryLight_25 : decode cX8_tryLight 25 = .ok (.iload_n 1, 1) := by decide +kernel
theorem dX8_tryLight_26 : decode cX8_tryLight 26 = .ok (.iload_n 2, 1) := by decide +kernel
theorem dX8_tryLight_27 : decode cX8_tryLight 27 = .ok (.invokestatic 68, 3) := by decide +kernel
theorem dX8_tryLight_30 : decode cX8_tryLight 30 = .ok (.iaload, 1) := by decide +kernel
theorem dX8_tryLight_31 : decode cX8_tryLight 31 = .ok (.ifCond .lt 6, 3) := by decide +kernel
theorem dX8_tryLight_34 : decode cX8_tryLight 34 = .ok (.bipush (-5), 2) := by decide +kernel
theorem dX8_tryLight_36 : decode cX8_tryLight 36 = .ok (.ireturn, 1) := by decide +kernel
theorem dX8_tryLight_37 : decode cX8_tryLight 37 = .ok (.aload_n 0, 1) := by decide +kernel
theorem dX8_tryLight_38 : decode cX8_tryLight 38 = .ok (.iload 4, 2) := by decide +kernel
theorem dX8_tryLight_40 : decode cX8_tryLight 40 = .ok (.invokevirtual 141, 3) := by decide +kernel
theorem dX8_tryLight_43 : decode cX8_tryLight 43 = .ok (.aload_n 0, 1) := by decide +kernel
theorem dX8_tryLight_44 : decode cX8_tryLight 44 = .ok (.iload_n 1, 1) := by decide +kernel
theorem dX8_tryLight_45 : decode cX8_tryLight 45 = .ok (.iload_n 1, 1) := by decide +kernel
theorem dX8_tryLight_46 : decode cX8_tryLight 46 = .ok (.iload_n 2, 1) := by decide +kernel
theorem dX8_tryLight_47 : decode cX8_tryLight 47 = .ok (.invokestatic 68, 3) := by decide +kernel
theorem dX8_tryLight_50 : decode cX8_tryLight 50 = .ok (.iload_n 3, 1) := by decide +kernel
theorem dX8_tryLight_51 : decode cX8_tryLight 51 = .ok (.invokevirtual 87, 3) := by decide +kernel
theorem dX8_tryLight_54 : decode cX8_tryLight 54 = .ok (.aload_n 0, 1) := by decide +kernel
theorem dX8_tryLight_55 : decode cX8_tryLight 55 = .ok (.iload_n 1, 1) := by decide +kernel
theorem dX8_tryLight_56 : decode cX8_tryLight 56 = .ok (.invokevirtual 155, 3) := by decide +kernel
theorem dX8_tryLight_59 : decode cX8_tryLight 59 = .ok (.ireturn, 1) := by decide +kernel
theorem dX8_light_0 : decode cX8_light 0 = .ok (.aload_n 0, 1) := by decide +kernel
theorem dX8_light_1 : decode cX8_light 1 = .ok (.iload_n 1, 1) := by decide +kernel
theorem dX8_light_2 : decode cX8_light 2 = .ok (.iload_n 2, 1) := by decide +kernel
theorem dX8_light_3 : decode cX8_light 3 = .ok (.iload_n 3, 1) := by decide +kernel
theorem dX8_light_4 : decode cX8_light 4 = .ok (.iconst 1, 1) := by decide +kernel
theorem dX8_light_5 : decode cX8_light 5 = .ok (.invokevirtual 158, 3) := by decide +kernel
theorem dX8_light_8 : decode cX8_light 8 = .ok (.ireturn, 1) := by decide +kernel
theorem dX8_tryTicks_0 : decode cX8_tryTicks 0 = .ok (.iload_n 1, 1) := by decide +kernel
theorem dX8_tryTicks_1 : decode cX8_tryTicks 1 = .ok (.iconst 1, 1) := by decide +kernel
theorem dX8_tryTicks_2 : decode cX8_tryTicks 2 = .ok (.sipush 200, 3) := by decide +kernel
theorem dX8_tryTicks_5 : decode cX8_tryTicks 5 = .ok (.invokestatic 38, 3) := by decide +kernel
theorem dX8_tryTicks_8 : decode cX8_tryTicks 8 = .ok (.ifCond .ne 6, 3) := by decide +kernel
theorem dX8_tryTicks_11 : decode cX8_tryTicks 11 = .ok (.bipush (-2), 2) := by decide +kernel
theorem dX8_tryTicks_13 : decode cX8_tryTicks 13 = .ok (.ireturn, 1) := by decide +kernel
theorem dX8_tryTicks_14 : decode cX8_tryTicks 14 = .ok (.aload_n 0, 1) := by decide +kernel
theorem dX8_tryTicks_15 : decode cX8_tryTicks 15 = .ok (.iload_n 2, 1) := by decide +kernel
theorem dX8_tryTicks_16 : decode cX8_tryTicks 16 = .ok (.invokevirtual 141, 3) := by decide +kernel
theorem dX8_tryTicks_19 : decode cX8_tryTicks 19 = .ok (.aload_n 0, 1) := by decide +kernel
theorem dX8_tryTicks_20 : decode cX8_tryTicks 20 = .ok (.iload_n 1, 1) := by decide +kernel
theorem dX8_tryTicks_21 : decode cX8_tryTicks 21 = .ok (.invokevirtual 162, 3) := by decide +kernel
theorem dX8_tryTicks_24 : decode cX8_tryTicks 24 = .ok (.aload_n 0, 1) := by decide +kernel
theorem dX8_tryTicks_25 : decode cX8_tryTicks 25 = .ok (.getfield 7, 3) := by decide +kernel
theorem dX8_tryTicks_28 : decode cX8_tryTicks 28 = .ok (.iconst 4, 1) := by decide +kernel
theorem dX8_tryTicks_29 : decode cX8_tryTicks 29 = .ok (.iaload, 1) := by decide +kernel
theorem dX8_tryTicks_30 : decode cX8_tryTicks 30 = .ok (.ireturn, 1) := by decide +kernel
theorem dX8_ticks_0 : decode cX8_ticks 0 = .ok (.aload_n 0, 1) := by decide +kernel
theorem dX8_ticks_1 : decode cX8_ticks 1 = .ok (.iload_n 1, 1) := by decide +kernel
theorem dX8_ticks_2 : decode cX8_ticks 2 = .ok (.iconst 1, 1) := by decide +kernel
theorem dX8_ticks_3 : decode cX8_ticks 3 = .ok (.invokevirtual 165, 3) := by decide +kernel
theorem dX8_ticks_6 : decode cX8_ticks 6 = .ok (.ireturn, 1) := by decide +kernel
theorem dX8_at_0 : decode cX8_at 0 = .ok (.aload_n 0, 1) := by decide +kernel
theorem dX8_at_1 : decode cX8_at 1 = .ok (.iload_n 1, 1) := by decide +kernel
theorem dX8_at_2 : decode cX8_at 2 = .ok (.iload_n 2, 1) := by decide +kernel
theorem dX8_at_3 : decode cX8_at 3 = .ok (.invokevirtual 130, 3) := by decide +kernel
theorem dX8_at_6 : decode cX8_at 6 = .ok (.ifCond .ne 5, 3) := by decide +kernel
theorem dX8_at_9 : decode cX8_at 9 = .ok (.iconst (-1), 1) := by decide +kernel
theorem dX8_at_10 : decode cX8_at 10 = .ok (.ireturn, 1) := by decide +kernel
theorem dX8_at_11 : decode cX8_at 11 = .ok (.iload_n 1, 1) := by decide +kernel
theorem dX8_at_12 : decode cX8_at 12 = .ok (.iload_n 2, 1) := by decide +kernel
theorem dX8_at_13 : decode cX8_at 13 = .ok (.invokestatic 68, 3) := by decide +kernel
theorem dX8_at_16 : decode cX8_at 16 = .ok (.istore 4, 2) := by decide +kernel
theorem dX8_at_18 : decode cX8_at 18 = .ok (.iload_n 3, 1) := by decide +kernel
theorem dX8_at_19 : decode cX8_at 19 = .ok (.tableswitch 80 0 3 #[29, 29, 39, 71], 29) := by decide +kernel
theorem dX8_at_48 : decode cX8_at 48 = .ok (.aload_n 0, 1) := by decide +kernel
theorem dX8_at_49 : decode cX8_at 49 = .ok (.getfield 7, 3) := by decide +kernel
theorem dX8_at_52 : decode cX8_at 52 = .ok (.iload 4, 2) := by decide +kernel
theorem dX8_at_54 : decode cX8_at 54 = .ok (.iload_n 3, 1) := by decide +kernel
theorem dX8_at_55 : decode cX8_at 55 = .ok (.iadd, 1) := by decide +kernel
theorem dX8_at_56 : decode cX8_at 56 = .ok (.iaload, 1) := by decide +kernel
theorem dX8_at_57 : decode cX8_at 57 = .ok (.ireturn, 1) := by decide +kernel
theorem dX8_at_58 : decode cX8_at 58 = .ok (.aload_n 0, 1) := by decide +kernel
theorem dX8_at_59 : decode cX8_at 59 = .ok (.getfield 7, 3) := by decide +kernel
theorem dX8_at_62 : decode cX8_at 62 = .ok (.iload 4, 2) := by decide +kernel
theorem dX8_at_64 : decode cX8_at 64 = .ok (.iaload, 1) := by decide +kernel
theorem dX8_at_65 : decode cX8_at 65 = .ok (.ifCond .lt 22, 3) := by decide +kernel
theorem dX8_at_68 : decode cX8_at 68 = .ok (.aload_n 0, 1) := by decide +kernel
theorem dX8_at_69 : decode cX8_at 69 = .ok (.getfield 7, 3) := by decide +kernel
theorem dX8_at_72 : decode cX8_at 72 = .ok (.iconst 4, 1) := by decide +kernel
theorem dX8_at_73 : decode cX8_at 73 = .ok (.iaload, 1) := by decide +kernel
theorem dX8_at_74 : decode cX8_at 74 = .ok (.aload_n 0, 1) := by decide +kernel
theorem dX8_at_75 : decode cX8_at 75 = .ok (.getfield 7, 3) := by decide +kernel
theorem dX8_at_78 : decode cX8_at 78 = .ok (.iload 4, 2) := by decide +kernel
theorem dX8_at_80 : decode cX8_at 80 = .ok (.iconst 2, 1) := by decide +kernel
theorem dX8_at_81 : decode cX8_at 81 = .ok (.iadd, 1) := by decide +kernel
theorem dX8_at_82 : decode cX8_at 82 = .ok (.iaload, 1) := by decide +kernel
theorem dX8_at_83 : decode cX8_at 83 = .ok (.isub, 1) := by decide +kernel
theorem dX8_at_84 : decode cX8_at 84 = .ok (.goto 5, 3) := by decide +kernel
theorem dX8_at_87 : decode cX8_at 87 = .ok (.bipush (-6), 2) := by decide +kernel
theorem dX8_at_89 : decode cX8_at 89 = .ok (.ireturn, 1) := by decide +kernel
theorem dX8_at_90 : decode cX8_at 90 = .ok (.aload_n 0, 1) := by decide +kernel
theorem dX8_at_91 : decode cX8_at 91 = .ok (.iload_n 1, 1) := by decide +kernel
theorem dX8_at_92 : decode cX8_at 92 = .ok (.iconst 0, 1) := by decide +kernel
theorem dX8_at_93 : decode cX8_at 93 = .ok (.invokevirtual 46, 3) := by decide +kernel
theorem dX8_at_96 : decode cX8_at 96 = .ok (.iload_n 2, 1) := by decide +kernel
theorem dX8_at_97 : decode cX8_at 97 = .ok (.isub, 1) := by decide +kernel
theorem dX8_at_98 : decode cX8_at 98 = .ok (.ireturn, 1) := by decide +kernel
theorem dX8_at_99 : decode cX8_at 99 = .ok (.bipush (-2), 2) := by decide +kernel
theorem dX8_at_101 : decode cX8_at 101 = .ok (.ireturn, 1) := by decide +kernel
theorem dX8_strengths_0 : decode cX8_strengths 0 = .ok (.iconst 0, 1) := by decide +kernel
theorem dX8_strengths_1 : decode cX8_strengths 1 = .ok (.istore_n 2, 1) := by decide +kernel
theorem dX8_strengths_2 : decode cX8_strengths 2 = .ok (.iconst 0, 1) := by decide +kernel
theorem dX8_strengths_3 : decode cX8_strengths 3 = .ok (.istore_n 3, 1) := by decide +kernel
theorem dX8_strengths_4 : decode cX8_strengths 4 = .ok (.iload_n 3, 1) := by decide +kernel
theorem dX8_strengths_5 : decode cX8_strengths 5 = .ok (.aload_n 0, 1) := by decide +kernel
theorem dX8_strengths_6 : decode cX8_strengths 6 = .ok (.iload_n 1, 1) := by decide +kernel
theorem dX8_strengths_7 : decode cX8_strengths 7 = .ok (.iconst 0, 1) := by decide +kernel
theorem dX8_strengths_8 : decode cX8_strengths 8 = .ok (.invokevirtual 46, 3) := by decide +kernel
theorem dX8_strengths_11 : decode cX8_strengths 11 = .ok (.if_icmp .ge 24, 3) := by decide +kernel
theorem dX8_strengths_14 : decode cX8_strengths 14 = .ok (.iload_n 2, 1) := by decide +kernel
theorem dX8_strengths_15 : decode cX8_strengths 15 = .ok (.aload_n 0, 1) := by decide +kernel
theorem dX8_strengths_16 : decode cX8_strengths 16 = .ok (.getfield 7, 3) := by decide +kernel
theorem dX8_strengths_19 : decode cX8_strengths 19 = .ok (.iload_n 1, 1) := by decide +kernel
theorem dX8_strengths_20 : decode cX8_strengths 20 = .ok (.iload_n 3, 1) := by decide +kernel
theorem dX8_strengths_21 : decode cX8_strengths 21 = .ok (.invokestatic 68, 3) := by decide +kernel
theorem dX8_strengths_24 : decode cX8_strengths 24 = .ok (.iconst 1, 1) := by decide +kernel
theorem dX8_strengths_25 : decode cX8_strengths 25 = .ok (.iadd, 1) := by decide +kernel
theorem dX8_strengths_26 : decode cX8_strengths 26 = .ok (.iaload, 1) := by decide +kernel
theorem dX8_strengths_27 : decode cX8_strengths 27 = .ok (.iadd, 1) := by decide +kernel
theorem dX8_strengths_28 : decode cX8_strengths 28 = .ok (.istore_n 2, 1) := by decide +kernel
theorem dX8_strengths_29 : decode cX8_strengths 29 = .ok (.iinc 3 1, 3) := by decide +kernel
theorem dX8_strengths_32 : decode cX8_strengths 32 = .ok (.goto (-28), 3) := by decide +kernel
theorem dX8_strengths_35 : decode cX8_strengths 35 = .ok (.iload_n 2, 1) := by decide +kernel
theorem dX8_strengths_36 : decode cX8_strengths 36 = .ok (.ireturn, 1) := by decide +kernel
theorem dX8_faintest_0 : decode cX8_faintest 0 = .ok (.iconst 0, 1) := by decide +kernel
theorem dX8_faintest_1 : decode cX8_faintest 1 = .ok (.istore_n 2, 1) := by decide +kernel
theorem dX8_faintest_2 : decode cX8_faintest 2 = .ok (.iconst 0, 1) := by decide +kernel
theorem dX8_faintest_3 : decode cX8_faintest 3 = .ok (.istore_n 3, 1) := by decide +kernel
theorem dX8_faintest_4 : decode cX8_faintest 4 = .ok (.iload_n 3, 1) := by decide +kernel
theorem dX8_faintest_5 : decode cX8_faintest 5 = .ok (.aload_n 0, 1) := by decide +kernel
theorem dX8_faintest_6 : decode cX8_faintest 6 = .ok (.iload_n 1, 1) := by decide +kernel
theorem dX8_faintest_7 : decode cX8_faintest 7 = .ok (.iconst 0, 1) := by decide +kernel
theorem dX8_faintest_8 : decode cX8_faintest 8 = .ok (.invokevirtual 46, 3) := by decide +kernel
theorem dX8_faintest_11 : decode cX8_faintest 11 = .ok (.if_icmp .ge 45, 3) := by decide +kernel
theorem dX8_faintest_14 : decode cX8_faintest 14 = .ok (.aload_n 0, 1) := by decide +kernel
theorem dX8_faintest_15 : decode cX8_faintest 15 = .ok (.getfield 7, 3) := by decide +kernel
theorem dX8_faintest_18 : decode cX8_faintest 18 = .ok (.iload_n 1, 1) := by decide +kernel
theorem dX8_faintest_19 : decode cX8_faintest 19 = .ok (.iload_n 3, 1) := by decide +kernel
theorem dX8_faintest_20 : decode cX8_faintest 20 = .ok (.invokestatic 68, 3) := by decide +kernel
theorem dX8_faintest_23 : decode cX8_faintest 23 = .ok (.iconst 1, 1) := by decide +kernel
theorem dX8_faintest_24 : decode cX8_faintest 24 = .ok (.iadd, 1) := by decide +kernel
theorem dX8_faintest_25 : decode cX8_faintest 25 = .ok (.iaload, 1) := by decide +kernel
theorem dX8_faintest_26 : decode cX8_faintest 26 = .ok (.istore 4, 2) := by decide +kernel
theorem dX8_faintest_28 : decode cX8_faintest 28 = .ok (.iload 4, 2) := by decide +kernel
theorem dX8_faintest_30 : decode cX8_faintest 30 = .ok (.ifCond .le 18, 3) := by decide +kernel
theorem dX8_faintest_33 : decode cX8_faintest 33 = .ok (.iload_n 2, 1) := by decide +kernel
theorem dX8_faintest_34 : decode cX8_faintest 34 = .ok (.ifCond .eq 9, 3) := by decide +kernel
theorem dX8_faintest_37 : decode cX8_faintest 37 = .ok (.iload 4, 2) := by decide +kernel
theorem dX8_faintest_39 : decode cX8_faintest 39 = .ok (.iload_n 2, 1) := by decide +kernel
theorem dX8_faintest_40 : decode cX8_faintest 40 = .ok (.if_icmp .ge 8, 3) := by decide +kernel
theorem dX8_faintest_43 : decode cX8_faintest 43 = .ok (.iload 4, 2) := by decide +kernel
theorem dX8_faintest_45 : decode cX8_faintest 45 = .ok (.goto 4, 3) := by decide +kernel
theorem dX8_faintest_48 : decode cX8_faintest 48 = .ok (.iload_n 2, 1) := by decide +kernel
theorem dX8_faintest_49 : decode cX8_faintest 49 = .ok (.istore_n 2, 1) := by decide +kernel
theorem dX8_faintest_50 : decode cX8_faintest 50 = .ok (.iinc 3 1, 3) := by decide +kernel
theorem dX8_faintest_53 : decode cX8_faintest 53 = .ok (.goto (-49), 3) := by decide +kernel
theorem dX8_faintest_56 : decode cX8_faintest 56 = .ok (.iload_n 2, 1) := by decide +kernel
theorem dX8_faintest_57 : decode cX8_faintest 57 = .ok (.ireturn, 1) := by decide +kernel
theorem dX8_ofLoop_0 : decode cX8_ofLoop 0 = .ok (.aload_n 0, 1) := by decide +kernel
theorem dX8_ofLoop_1 : decode cX8_ofLoop 1 = .ok (.iload_n 1, 1) := by decide +kernel
theorem dX8_ofLoop_2 : decode cX8_ofLoop 2 = .ok (.invokevirtual 42, 3) := by decide +kernel
theorem dX8_ofLoop_5 : decode cX8_ofLoop 5 = .ok (.ifCond .ne 5, 3) := by decide +kernel
theorem dX8_ofLoop_8 : decode cX8_ofLoop 8 = .ok (.iconst (-1), 1) := by decide +kernel
theorem dX8_ofLoop_9 : decode cX8_ofLoop 9 = .ok (.ireturn, 1) := by decide +kernel
theorem dX8_ofLoop_10 : decode cX8_ofLoop 10 = .ok (.iload_n 2, 1) := by decide +kernel
theorem dX8_ofLoop_11 : decode cX8_ofLoop 11 = .ok (.tableswitch 54 0 3 #[29, 36, 42, 48], 29) := by decide +kernel
theorem dX8_ofLoop_40 : decode cX8_ofLoop 40 = .ok (.aload_n 0, 1) := by decide +kernel
theorem dX8_ofLoop_41 : decode cX8_ofLoop 41 = .ok (.iload_n 1, 1) := by decide +kernel
theorem dX8_ofLoop_42 : decode cX8_ofLoop 42 = .ok (.iconst 0, 1) := by decide +kernel
theorem dX8_ofLoop_43 : decode cX8_ofLoop 43 = .ok (.invokevirtual 46, 3) := by decide +kernel
theorem dX8_ofLoop_46 : decode cX8_ofLoop 46 = .ok (.ireturn, 1) := by decide +kernel
theorem dX8_ofLoop_47 : decode cX8_ofLoop 47 = .ok (.aload_n 0, 1) := by decide +kernel
theorem dX8_ofLoop_48 : decode cX8_ofLoop 48 = .ok (.iload_n 1, 1) := by decide +kernel
theorem dX8_ofLoop_49 : decode cX8_ofLoop 49 = .ok (.invokevirtual 155, 3) := by decide +kernel
theorem dX8_ofLoop_52 : decode cX8_ofLoop 52 = .ok (.ireturn, 1) := by decide +kernel
theorem dX8_ofLoop_53 : decode cX8_ofLoop 53 = .ok (.aload_n 0, 1) := by decide +kernel
theorem dX8_ofLoop_54 : decode cX8_ofLoop 54 = .ok (.iload_n 1, 1) := by decide +kernel
theorem dX8_ofLoop_55 : decode cX8_ofLoop 55 = .ok (.invokevirtual 169, 3) := by decide +kernel
theorem dX8_ofLoop_58 : decode cX8_ofLoop 58 = .ok (.ireturn, 1) := by decide +kernel
theorem dX8_ofLoop_59 : decode cX8_ofLoop 59 = .ok (.aload_n 0, 1) := by decide +kernel
theorem dX8_ofLoop_60 : decode cX8_ofLoop 60 = .ok (.iload_n 1, 1) := by decide +kernel
theorem dX8_ofLoop_61 : decode cX8_ofLoop 61 = .ok (.invokevirtual 172, 3) := by decide +kernel
theorem dX8_ofLoop_64 : decode cX8_ofLoop 64 = .ok (.ireturn, 1) := by decide +kernel
theorem dX8_ofLoop_65 : decode cX8_ofLoop 65 = .ok (.iload_n 2, 1) := by decide +kernel
theorem dX8_ofLoop_66 : decode cX8_ofLoop 66 = .ok (.iconst 4, 1) := by decide +kernel
theorem dX8_ofLoop_67 : decode cX8_ofLoop 67 = .ok (.bipush 8, 2) := by decide +kernel
theorem dX8_ofLoop_69 : decode cX8_ofLoop 69 = .ok (.invokestatic 38, 3) := by decide +kernel
theorem dX8_ofLoop_72 : decode cX8_ofLoop 72 = .ok (.ifCond .eq 14, 3) := by decide +kernel
theorem dX8_ofLoop_75 : decode cX8_ofLoop 75 = .ok (.aload_n 0, 1) := by decide +kernel
theorem dX8_ofLoop_76 : decode cX8_ofLoop 76 = .ok (.iload_n 1, 1) := by decide +kernel
theorem dX8_ofLoop_77 : decode cX8_ofLoop 77 = .ok (.iload_n 2, 1) := by decide +kernel
theorem dX8_ofLoop_78 : decode cX8_ofLoop 78 = .ok (.iconst 3, 1) := by decide +kernel
theorem dX8_ofLoop_79 : decode cX8_ofLoop 79 = .ok (.isub, 1) := by decide +kernel
theorem dX8_ofLoop_80 : decode cX8_ofLoop 80 = .ok (.invokevirtual 46, 3) := by decide +kernel
theorem dX8_ofLoop_83 : decode cX8_ofLoop 83 = .ok (.goto 5, 3) := by decide +kernel
theorem dX8_ofLoop_86 : decode cX8_ofLoop 86 = .ok (.bipush (-2), 2) := by decide +kernel
theorem dX8_ofLoop_88 : decode cX8_ofLoop 88 = .ok (.ireturn, 1) := by decide +kernel
theorem dX8_ofDevice_0 : decode cX8_ofDevice 0 = .ok (.aload_n 0, 1) := by decide +kernel
theorem dX8_ofDevice_1 : decode cX8_ofDevice 1 = .ok (.iload_n 1, 1) := by decide +kernel
theorem dX8_ofDevice_2 : decode cX8_ofDevice 2 = .ok (.invokevirtual 149, 3) := by decide +kernel
theorem dX8_ofDevice_5 : decode cX8_ofDevice 5 = .ok (.ifCond .ne 5, 3) := by decide +kernel
theorem dX8_ofDevice_8 : decode cX8_ofDevice 8 = .ok (.iconst (-1), 1) := by decide +kernel
theorem dX8_ofDevice_9 : decode cX8_ofDevice 9 = .ok (.ireturn, 1) := by decide +kernel
theorem dX8_ofDevice_10 : decode cX8_ofDevice 10 = .ok (.iload_n 2, 1) := by decide +kernel
theorem dX8_ofDevice_11 : decode cX8_ofDevice 11 = .ok (.iconst 0, 1) := by decide +kernel
theorem dX8_ofDevice_12 : decode cX8_ofDevice 12 = .ok (.bipush 6, 2) := by decide +kernel
theorem dX8_ofDevice_14 : decode cX8_ofDevice 14 = .ok (.invokestatic 38, 3) := by decide +kernel
theorem dX8_ofDevice_17 : decode cX8_ofDevice 17 = .ok (.ifCond .eq 12, 3) := by decide +kernel
theorem dX8_ofDevice_20 : decode cX8_ofDevice 20 = .ok (.aload_n 0, 1) := by decide +kernel
theorem dX8_ofDevice_21 : decode cX8_ofDevice 21 = .ok (.iload_n 1, 1) := by decide +kernel
theorem dX8_ofDevice_22 : decode cX8_ofDevice 22 = .ok (.iload_n 2, 1) := by decide +kernel
theorem dX8_ofDevice_23 : decode cX8_ofDevice 23 = .ok (.invokevirtual 78, 3) := by decide +kernel
theorem dX8_ofDevice_26 : decode cX8_ofDevice 26 = .ok (.goto 5, 3) := by decide +kernel
theorem dX8_ofDevice_29 : decode cX8_ofDevice 29 = .ok (.bipush (-2), 2) := by decide +kernel
theorem dX8_ofDevice_31 : decode cX8_ofDevice 31 = .ok (.ireturn, 1) := by decide +kernel
theorem dX8_noted_0 : decode cX8_noted 0 = .ok (.aload_n 0, 1) := by decide +kernel
theorem dX8_noted_1 : decode cX8_noted 1 = .ok (.iload_n 1, 1) := by decide +kernel
theorem dX8_noted_2 : decode cX8_noted 2 = .ok (.invokevirtual 149, 3) := by decide +kernel
theorem dX8_noted_5 : decode cX8_noted 5 = .ok (.ifCond .eq 13, 3) := by decide +kernel
theorem dX8_noted_8 : decode cX8_noted 8 = .ok (.aload_n 0, 1) := by decide +kernel
theorem dX8_noted_9 : decode cX8_noted 9 = .ok (.iload_n 1, 1) := by decide +kernel
theorem dX8_noted_10 : decode cX8_noted 10 = .ok (.iconst 0, 1) := by decide +kernel
theorem dX8_noted_11 : decode cX8_noted 11 = .ok (.invokevirtual 78, 3) := by decide +kernel
theorem dX8_noted_14 : decode cX8_noted 14 = .ok (.iconst 1, 1) := by decide +kernel
theorem dX8_noted_15 : decode cX8_noted 15 = .ok (.if_icmp .eq 5, 3) := by decide +kernel
theorem dX8_noted_18 : decode cX8_noted 18 = .ok (.iconst (-1), 1) := by decide +kernel
theorem dX8_noted_19 : decode cX8_noted 19 = .ok (.ireturn, 1) := by decide +kernel
theorem dX8_noted_20 : decode cX8_noted 20 = .ok (.iload_n 2, 1) := by decide +kernel
theorem dX8_noted_21 : decode cX8_noted 21 = .ok (.iconst 0, 1) := by decide +kernel
theorem dX8_noted_22 : decode cX8_noted 22 = .ok (.aload_n 0, 1) := by decide +kernel
theorem dX8_noted_23 : decode cX8_noted 23 = .ok (.iload_n 1, 1) := by decide +kernel
theorem dX8_noted_24 : decode cX8_noted 24 = .ok (.iconst 5, 1) := by decide +kernel
theorem dX8_noted_25 : decode cX8_noted 25 = .ok (.invokevirtual 78, 3) := by decide +kernel
theorem dX8_noted_28 : decode cX8_noted 28 = .ok (.iconst 1, 1) := by decide +kernel
theorem dX8_noted_29 : decode cX8_noted 29 = .ok (.isub, 1) := by decide +kernel
theorem dX8_noted_30 : decode cX8_noted 30 = .ok (.invokestatic 38, 3) := by decide +kernel
theorem dX8_noted_33 : decode cX8_noted 33 = .ok (.ifCond .eq 15, 3) := by decide +kernel
theorem dX8_noted_36 : decode cX8_noted 36 = .ok (.aload_n 0, 1) := by decide +kernel
theorem dX8_noted_37 : decode cX8_noted 37 = .ok (.iload_n 1, 1) := by decide +kernel
theorem dX8_noted_38 : decode cX8_noted 38 = .ok (.bipush 7, 2) := by decide +kernel
theorem dX8_noted_40 : decode cX8_noted 40 = .ok (.iload_n 2, 1) := by decide +kernel
theorem dX8_noted_41 : decode cX8_noted 41 = .ok (.iadd, 1) := by decide +kernel
theorem dX8_noted_42 : decode cX8_noted 42 = .ok (.invokevirtual 78, 3) := by decide +kernel
theorem dX8_noted_45 : decode cX8_noted 45 = .ok (.goto 5, 3) := by decide +kernel
theorem dX8_noted_48 : decode cX8_noted 48 = .ok (.bipush (-6), 2) := by decide +kernel
theorem dX8_noted_50 : decode cX8_noted 50 = .ok (.ireturn, 1) := by decide +kernel
theorem dX8_ofJoin_0 : decode cX8_ofJoin 0 = .ok (.iload_n 1, 1) := by decide +kernel
theorem dX8_ofJoin_1 : decode cX8_ofJoin 1 = .ok (.iconst 0, 1) := by decide +kernel
theorem dX8_ofJoin_2 : decode cX8_ofJoin 2 = .ok (.aload_n 0, 1) := by decide +kernel
theorem dX8_ofJoin_3 : decode cX8_ofJoin 3 = .ok (.getfield 7, 3) := by decide +kernel
theorem dX8_ofJoin_6 : decode cX8_ofJoin 6 = .ok (.bipush 7, 2) := by decide +kernel
theorem dX8_ofJoin_8 : decode cX8_ofJoin 8 = .ok (.iaload, 1) := by decide +kernel
theorem dX8_ofJoin_9 : decode cX8_ofJoin 9 = .ok (.iconst 1, 1) := by decide +kernel
theorem dX8_ofJoin_10 : decode cX8_ofJoin 10 = .ok (.isub, 1) := by decide +kernel
theorem dX8_ofJoin_11 : decode cX8_ofJoin 11 = .ok (.invokestatic 38, 3) := by decide +kernel
theorem dX8_ofJoin_14 : decode cX8_ofJoin 14 = .ok (.ifCond .ne 5, 3) := by decide +kernel
theorem dX8_ofJoin_17 : decode cX8_ofJoin 17 = .ok (.iconst (-1), 1) := by decide +kernel
theorem dX8_ofJoin_18 : decode cX8_ofJoin 18 = .ok (.ireturn, 1) := by decide +kernel
theorem dX8_ofJoin_19 : decode cX8_ofJoin 19 = .ok (.iload_n 2, 1) := by decide +kernel
theorem dX8_ofJoin_20 : decode cX8_ofJoin 20 = .ok (.iconst 0, 1) := by decide +kernel
theorem dX8_ofJoin_21 : decode cX8_ofJoin 21 = .ok (.iconst 5, 1) := by decide +kernel
theorem dX8_ofJoin_22 : decode cX8_ofJoin 22 = .ok (.invokestatic 38, 3) := by decide +kernel
theorem dX8_ofJoin_25 : decode cX8_ofJoin 25 = .ok (.ifCond .eq 12, 3) := by decide +kernel
theorem dX8_ofJoin_28 : decode cX8_ofJoin 28 = .ok (.aload_n 0, 1) := by decide +kernel
theorem dX8_ofJoin_29 : decode cX8_ofJoin 29 = .ok (.iload_n 1, 1) := by decide +kernel
theorem dX8_ofJoin_30 : decode cX8_ofJoin 30 = .ok (.iload_n 2, 1) := by decide +kernel
theorem dX8_ofJoin_31 : decode cX8_ofJoin 31 = .ok (.invokevirtual 99, 3) := by decide +kernel
theorem dX8_ofJoin_34 : decode cX8_ofJoin 34 = .ok (.goto 5, 3) := by decide +kernel
theorem dX8_ofJoin_37 : decode cX8_ofJoin 37 = .ok (.bipush (-2), 2) := by decide +kernel
theorem dX8_ofJoin_39 : decode cX8_ofJoin 39 = .ok (.ireturn, 1) := by decide +kernel
theorem dX8_find_0 : decode cX8_find 0 = .ok (.iload_n 1, 1) := by decide +kernel
theorem dX8_find_1 : decode cX8_find 1 = .ok (.invokestatic 127, 3) := by decide +kernel
theorem dX8_find_4 : decode cX8_find 4 = .ok (.ifCond .eq 12, 3) := by decide +kernel
theorem dX8_find_7 : decode cX8_find 7 = .ok (.iload_n 2, 1) := by decide +kernel
theorem dX8_find_8 : decode cX8_find 8 = .ok (.iconst 0, 1) := by decide +kernel
theorem dX8_find_9 : decode cX8_find 9 = .ok (.iconst 2, 1) := by decide +kernel
theorem dX8_find_10 : decode cX8_find 10 = .ok (.invokestatic 38, 3) := by decide +kernel
theorem dX8_find_13 : decode cX8_find 13 = .ok (.ifCond .ne 6, 3) := by decide +kernel
theorem dX8_find_16 : decode cX8_find 16 = .ok (.bipush (-2), 2) := by decide +kernel
theorem dX8_find_18 : decode cX8_find 18 = .ok (.ireturn, 1) := by decide +kernel
theorem dX8_find_19 : decode cX8_find 19 = .ok (.bipush (-6), 2) := by decide +kernel
theorem dX8_find_21 : decode cX8_find 21 = .ok (.istore_n 3, 1) := by decide +kernel
theorem dX8_find_22 : decode cX8_find 22 = .ok (.iconst 0, 1) := by decide +kernel
theorem dX8_find_23 : decode cX8_find 23 = .ok (.istore 4, 2) := by decide +kernel
theorem dX8_find_25 : decode cX8_find 25 = .ok (.iconst 0, 1) := by decide +kernel
theorem dX8_find_26 : decode cX8_find 26 = .ok (.istore 5, 2) := by decide +kernel
theorem dX8_find_28 : decode cX8_find 28 = .ok (.iload 5, 2) := by decide +kernel
theorem dX8_find_30 : decode cX8_find 30 = .ok (.aload_n 0, 1) := by decide +kernel
theorem dX8_find_31 : decode cX8_find 31 = .ok (.getfield 7, 3) := by decide +kernel
theorem dX8_find_34 : decode cX8_find 34 = .ok (.iconst 5, 1) := by decide +kernel
theorem dX8_find_35 : decode cX8_find 35 = .ok (.iaload, 1) := by decide +kernel
theorem dX8_find_36 : decode cX8_find 36 = .ok (.if_icmp .ge 70, 3) := by decide +kernel
theorem dX8_find_39 : decode cX8_find 39 = .ok (.iconst 0, 1) := by decide +kernel
theorem dX8_find_40 : decode cX8_find 40 = .ok (.istore 6, 2) := by decide +kernel
theorem dX8_find_42 : decode cX8_find 42 = .ok (.iload 6, 2) := by decide +kernel
theorem dX8_find_44 : decode cX8_find 44 = .ok (.aload_n 0, 1) := by decide +kernel
theorem dX8_find_45 : decode cX8_find 45 = .ok (.iload 5, 2) := by decide +kernel
theorem dX8_find_47 : decode cX8_find 47 = .ok (.iconst 0, 1) := by decide +kernel
theorem dX8_find_48 : decode cX8_find 48 = .ok (.invokevirtual 46, 3) := by decide +kernel
theorem dX8_find_51 : decode cX8_find 51 = .ok (.if_icmp .ge 49, 3) := by decide +kernel
theorem dX8_find_54 : decode cX8_find 54 = .ok (.aload_n 0, 1) := by decide +kernel
theorem dX8_find_55 : decode cX8_find 55 = .ok (.getfield 7, 3) := by decide +kernel
theorem dX8_find_58 : decode cX8_find 58 = .ok (.iload 5, 2) := by decide +kernel
theorem dX8_find_60 : decode cX8_find 60 = .ok (.iload 6, 2) := by decide +kernel
theorem dX8_find_62 : decode cX8_find 62 = .ok (.invokestatic 68, 3) := by decide +kernel
theorem dX8_find_65 : decode cX8_find 65 = .ok (.iaload, 1) := by decide +kernel
theorem dX8_find_66 : decode cX8_find 66 = .ok (.iload_n 1, 1) := by decide +kernel
theorem dX8_find_67 : decode cX8_find 67 = .ok (.if_icmp .ne 27, 3) := by decide +kernel
theorem dX8_find_70 : decode cX8_find 70 = .ok (.iload 4, 2) := by decide +kernel
theorem dX8_find_72 : decode cX8_find 72 = .ok (.ifCond .ne 17, 3) := by decide +kernel
theorem dX8_find_75 : decode cX8_find 75 = .ok (.iload_n 2, 1) := by decide +kernel
theorem dX8_find_76 : decode cX8_find 76 = .ok (.ifCond .ne 8, 3) := by decide +kernel
theorem dX8_find_79 : decode cX8_find 79 = .ok (.iload 5, 2) := by decide +kernel
theorem dX8_find_81 : decode cX8_find 81 = .ok (.goto 9, 3) := by decide +kernel
theorem dX8_find_84 : decode cX8_find 84 = .ok (.iload 6, 2) := by decide +kernel
theorem dX8_find_86 : decode cX8_find 86 = .ok (.goto 4, 3) := by decide +kernel
theorem dX8_find_89 : decode cX8_find 89 = .ok (.iload_n 3, 1) := by decide +kernel
theorem dX8_find_90 : decode cX8_find 90 = .ok (.istore_n 3, 1) := by decide +kernel
theorem dX8_find_91 : decode cX8_find 91 = .ok (.iinc 4 1, 3) := by decide +kernel
theorem dX8_find_94 : decode cX8_find 94 = .ok (.iinc 6 1, 3) := by decide +kernel
theorem dX8_find_97 : decode cX8_find 97 = .ok (.goto (-55), 3) := by decide +kernel
theorem dX8_find_100 : decode cX8_find 100 = .ok (.iinc 5 1, 3) := by decide +kernel
theorem dX8_find_103 : decode cX8_find 103 = .ok (.goto (-75), 3) := by decide +kernel
theorem dX8_find_106 : decode cX8_find 106 = .ok (.iload 4, 2) := by decide +kernel
theorem dX8_find_108 : decode cX8_find 108 = .ok (.ifCond .eq 8, 3) := by decide +kernel
theorem dX8_find_111 : decode cX8_find 111 = .ok (.iload_n 2, 1) := by decide +kernel
theorem dX8_find_112 : decode cX8_find 112 = .ok (.iconst 2, 1) := by decide +kernel
theorem dX8_find_113 : decode cX8_find 113 = .ok (.if_icmp .ge 7, 3) := by decide +kernel
theorem dX8_find_116 : decode cX8_find 116 = .ok (.iload_n 3, 1) := by decide +kernel
theorem dX8_find_117 : decode cX8_find 117 = .ok (.goto 5, 3) := by decide +kernel
theorem dX8_find_120 : decode cX8_find 120 = .ok (.iload 4, 2) := by decide +kernel
theorem dX8_find_122 : decode cX8_find 122 = .ok (.ireturn, 1) := by decide +kernel
theorem dX8_sum_0 : decode cX8_sum 0 = .ok (.iconst 0, 1) := by decide +kernel
theorem dX8_sum_1 : decode cX8_sum 1 = .ok (.istore_n 2, 1) := by decide +kernel
theorem dX8_sum_2 : decode cX8_sum 2 = .ok (.iconst 0, 1) := by decide +kernel
theorem dX8_sum_3 : decode cX8_sum 3 = .ok (.istore_n 3, 1) := by decide +kernel
theorem dX8_sum_4 : decode cX8_sum 4 = .ok (.iload_n 3, 1) := by decide +kernel
theorem dX8_sum_5 : decode cX8_sum 5 = .ok (.aload_n 0, 1) := by decide +kernel
theorem dX8_sum_6 : decode cX8_sum 6 = .ok (.getfield 7, 3) := by decide +kernel
theorem dX8_sum_9 : decode cX8_sum 9 = .ok (.iconst 5, 1) := by decide +kernel
theorem dX8_sum_10 : decode cX8_sum 10 = .ok (.iaload, 1) := by decide +kernel
theorem dX8_sum_11 : decode cX8_sum 11 = .ok (.if_icmp .ge 30, 3) := by decide +kernel
theorem dX8_sum_14 : decode cX8_sum 14 = .ok (.iload_n 2, 1) := by decide +kernel
theorem dX8_sum_15 : decode cX8_sum 15 = .ok (.iload_n 1, 1) := by decide +kernel
theorem dX8_sum_16 : decode cX8_sum 16 = .ok (.ifCond .ne 11, 3) := by decide +kernel
theorem dX8_sum_19 : decode cX8_sum 19 = .ok (.aload_n 0, 1) := by decide +kernel
theorem dX8_sum_20 : decode cX8_sum 20 = .ok (.iload_n 3, 1) := by decide +kernel
theorem dX8_sum_21 : decode cX8_sum 21 = .ok (.invokevirtual 155, 3) := by decide +kernel
theorem dX8_sum_24 : decode cX8_sum 24 = .ok (.goto 9, 3) := by decide +kernel
theorem dX8_sum_27 : decode cX8_sum 27 = .ok (.aload_n 0, 1) := by decide +kernel
theorem dX8_sum_28 : decode cX8_sum 28 = .ok (.iload_n 3, 1) := by decide +kernel
theorem dX8_sum_29 : decode cX8_sum 29 = .ok (.iload_n 1, 1) := by decide +kernel
theorem dX8_sum_30 : decode cX8_sum 30 = .ok (.invokevirtual 46, 3) := by decide +kernel
theorem dX8_sum_33 : decode cX8_sum 33 = .ok (.iadd, 1) := by decide +kernel
theorem dX8_sum_34 : decode cX8_sum 34 = .ok (.istore_n 2, 1) := by decide +kernel
theorem dX8_sum_35 : decode cX8_sum 35 = .ok (.iinc 3 1, 3) := by decide +kernel
theorem dX8_sum_38 : decode cX8_sum 38 = .ok (.goto (-34), 3) := by decide +kernel
theorem dX8_sum_41 : decode cX8_sum 41 = .ok (.iload_n 2, 1) := by decide +kernel
theorem dX8_sum_42 : decode cX8_sum 42 = .ok (.ireturn, 1) := by decide +kernel
theorem dX8_count_0 : decode cX8_count 0 = .ok (.iload_n 1, 1) := by decide +kernel
theorem dX8_count_1 : decode cX8_count 1 = .ok (.iconst 0, 1) := by decide +kernel
theorem dX8_count_2 : decode cX8_count 2 = .ok (.iconst 3, 1) := by decide +kernel
theorem dX8_count_3 : decode cX8_count 3 = .ok (.invokestatic 38, 3) := by decide +kernel
theorem dX8_count_6 : decode cX8_count 6 = .ok (.ifCond .eq 12, 3) := by decide +kernel
theorem dX8_count_9 : decode cX8_count 9 = .ok (.aload_n 0, 1) := by decide +kernel
theorem dX8_count_10 : decode cX8_count 10 = .ok (.getfield 7, 3) := by decide +kernel
theorem dX8_count_13 : decode cX8_count 13 = .ok (.iconst 4, 1) := by decide +kernel
theorem dX8_count_14 : decode cX8_count 14 = .ok (.iload_n 1, 1) := by decide +kernel
theorem dX8_count_15 : decode cX8_count 15 = .ok (.iadd, 1) := by decide +kernel
theorem dX8_count_16 : decode cX8_count 16 = .ok (.iaload, 1) := by decide +kernel
theorem dX8_count_17 : decode cX8_count 17 = .ok (.ireturn, 1) := by decide +kernel
theorem dX8_count_18 : decode cX8_count 18 = .ok (.iload_n 1, 1) := by decide +kernel
theorem dX8_count_19 : decode cX8_count 19 = .ok (.iconst 4, 1) := by decide +kernel
theorem dX8_count_20 : decode cX8_count 20 = .ok (.bipush 7, 2) := by decide +kernel
theorem dX8_count_22 : decode cX8_count 22 = .ok (.invokestatic 38, 3) := by decide +kernel
theorem dX8_count_25 : decode cX8_count 25 = .ok (.ifCond .eq 11, 3) := by decide +kernel
theorem dX8_count_28 : decode cX8_count 28 = .ok (.aload_n 0, 1) := by decide +kernel
theorem dX8_count_29 : decode cX8_count 29 = .ok (.iload_n 1, 1) := by decide +kernel
theorem dX8_count_30 : decode cX8_count 30 = .ok (.iconst 4, 1) := by decide +kernel
theorem dX8_count_31 : decode cX8_count 31 = .ok (.isub, 1) := by decide +kernel
theorem dX8_count_32 : decode cX8_count 32 = .ok (.invokevirtual 175, 3) := by decide +kernel
theorem dX8_count_35 : decode cX8_count 35 = .ok (.ireturn, 1) := by decide +kernel
theorem dX8_count_36 : decode cX8_count 36 = .ok (.iload_n 1, 1) := by decide +kernel
theorem dX8_count_37 : decode cX8_count 37 = .ok (.bipush 8, 2) := by decide +kernel
theorem dX8_count_39 : decode cX8_count 39 = .ok (.bipush 11, 2) := by decide +kernel
theorem dX8_count_41 : decode cX8_count 41 = .ok (.invokestatic 38, 3) := by decide +kernel
theorem dX8_count_44 : decode cX8_count 44 = .ok (.ifCond .eq 15, 3) := by decide +kernel
theorem dX8_count_47 : decode cX8_count 47 = .ok (.aload_n 0, 1) := by decide +kernel
theorem dX8_count_48 : decode cX8_count 48 = .ok (.getfield 7, 3) := by decide +kernel
theorem dX8_count_51 : decode cX8_count 51 = .ok (.iload_n 1, 1) := by decide +kernel
theorem dX8_count_52 : decode cX8_count 52 = .ok (.bipush 8, 2) := by decide +kernel
theorem dX8_count_54 : decode cX8_count 54 = .ok (.isub, 1) := by decide +kernel
theorem dX8_count_55 : decode cX8_count 55 = .ok (.iaload, 1) := by decide +kernel
theorem dX8_count_56 : decode cX8_count 56 = .ok (.goto 31, 3) := by decide +kernel
theorem dX8_count_59 : decode cX8_count 59 = .ok (.iload_n 1, 1) := by decide +kernel
theorem dX8_count_60 : decode cX8_count 60 = .ok (.bipush 12, 2) := by decide +kernel
theorem dX8_count_62 : decode cX8_count 62 = .ok (.if_icmp .ne 10, 3) := by decide +kernel
theorem dX8_count_65 : decode cX8_count 65 = .ok (.aload_n 0, 1) := by decide +kernel
theorem dX8_count_66 : decode cX8_count 66 = .ok (.getfield 178, 3) := by decide +kernel
theorem dX8_count_69 : decode cX8_count 69 = .ok (.goto 18, 3) := by decide +kernel
theorem dX8_count_72 : decode cX8_count 72 = .ok (.iload_n 1, 1) := by decide +kernel
theorem dX8_count_73 : decode cX8_count 73 = .ok (.bipush 13, 2) := by decide +kernel
theorem dX8_count_75 : decode cX8_count 75 = .ok (.if_icmp .ne 10, 3) := by decide +kernel
theorem dX8_count_78 : decode cX8_count 78 = .ok (.aload_n 0, 1) := by decide +kernel
theorem dX8_count_79 : decode cX8_count 79 = .ok (.getfield 50, 3) := by decide +kernel
theorem dX8_count_82 : decode cX8_count 82 = .ok (.goto 5, 3) := by decide +kernel
theorem dX8_count_85 : decode cX8_count 85 = .ok (.bipush (-2), 2) := by decide +kernel
theorem dX8_count_87 : decode cX8_count 87 = .ok (.ireturn, 1) := by decide +kernel
theorem dX8_valueIn_0 : decode cX8_valueIn 0 = .ok (.aload_n 0, 1) := by decide +kernel
theorem dX8_valueIn_1 : decode cX8_valueIn 1 = .ok (.iload_n 1, 1) := by decide +kernel
theorem dX8_valueIn_2 : decode cX8_valueIn 2 = .ok (.iload_n 2, 1) := by decide +kernel
theorem dX8_valueIn_3 : decode cX8_valueIn 3 = .ok (.invokevirtual 130, 3) := by decide +kernel
theorem dX8_valueIn_6 : decode cX8_valueIn 6 = .ok (.ifCond .ne 5, 3) := by decide +kernel
theorem dX8_valueIn_9 : decode cX8_valueIn 9 = .ok (.iconst (-1), 1) := by decide +kernel
theorem dX8_valueIn_10 : decode cX8_valueIn 10 = .ok (.ireturn, 1) := by decide +kernel
theorem dX8_valueIn_11 : decode cX8_valueIn 11 = .ok (.iload_n 3, 1) := by decide +kernel
theorem dX8_valueIn_12 : decode cX8_valueIn 12 = .ok (.iconst 1, 1) := by decide +kernel
theorem dX8_valueIn_13 : decode cX8_valueIn 13 = .ok (.sipush 200, 3) := by decide +kernel
theorem dX8_valueIn_16 : decode cX8_valueIn 16 = .ok (.invokestatic 38, 3) := by decide +kernel
theorem dX8_valueIn_19 : decode cX8_valueIn 19 = .ok (.ifCond .ne 6, 3) := by decide +kernel
theorem dX8_valueIn_22 : decode cX8_valueIn 22 = .ok (.bipush (-2), 2) := by decide +kernel
theorem dX8_valueIn_24 : decode cX8_valueIn 24 = .ok (.ireturn, 1) := by decide +kernel
theorem dX8_valueIn_25 : decode cX8_valueIn 25 = .ok (.aload_n 0, 1) := by decide +kernel
theorem dX8_valueIn_26 : decode cX8_valueIn 26 = .ok (.invokevirtual 181, 3) := by decide +kernel
theorem dX8_valueIn_29 : decode cX8_valueIn 29 = .ok (.aload_n 0, 1) := by decide +kernel
theorem dX8_valueIn_30 : decode cX8_valueIn 30 = .ok (.iload_n 3, 1) := by decide +kernel
theorem dX8_valueIn_31 : decode cX8_valueIn 31 = .ok (.invokevirtual 162, 3) := by decide +kernel
theorem dX8_valueIn_34 : decode cX8_valueIn 34 = .ok (.aload_n 0, 1) := by decide +kernel
theorem dX8_valueIn_35 : decode cX8_valueIn 35 = .ok (.getfield 7, 3) := by decide +kernel
theorem dX8_valueIn_38 : decode cX8_valueIn 38 = .ok (.iload_n 1, 1) := by decide +kernel
theorem dX8_valueIn_39 : decode cX8_valueIn 39 = .ok (.iload_n 2, 1) := by decide +kernel
theorem dX8_valueIn_40 : decode cX8_valueIn 40 = .ok (.invokestatic 68, 3) := by decide +kernel
theorem dX8_valueIn_43 : decode cX8_valueIn 43 = .ok (.iaload, 1) := by decide +kernel
theorem dX8_valueIn_44 : decode cX8_valueIn 44 = .ok (.istore 4, 2) := by decide +kernel
theorem dX8_valueIn_46 : decode cX8_valueIn 46 = .ok (.aload_n 0, 1) := by decide +kernel
theorem dX8_valueIn_47 : decode cX8_valueIn 47 = .ok (.invokevirtual 184, 3) := by decide +kernel
theorem dX8_valueIn_50 : decode cX8_valueIn 50 = .ok (.iload 4, 2) := by decide +kernel
theorem dX8_valueIn_52 : decode cX8_valueIn 52 = .ok (.ireturn, 1) := by decide +kernel
theorem dX8_leftIn_0 : decode cX8_leftIn 0 = .ok (.iload_n 1, 1) := by decide +kernel
theorem dX8_leftIn_1 : decode cX8_leftIn 1 = .ok (.iconst 1, 1) := by decide +kernel
theorem dX8_leftIn_2 : decode cX8_leftIn 2 = .ok (.sipush 200, 3) := by decide +kernel
theorem dX8_leftIn_5 : decode cX8_leftIn 5 = .ok (.invokestatic 38, 3) := by decide +kernel
theorem dX8_leftIn_8 : decode cX8_leftIn 8 = .ok (.ifCond .ne 6, 3) := by decide +kernel
theorem dX8_leftIn_11 : decode cX8_leftIn 11 = .ok (.bipush (-2), 2) := by decide +kernel
theorem dX8_leftIn_13 : decode cX8_leftIn 13 = .ok (.ireturn, 1) := by decide +kernel
theorem dX8_leftIn_14 : decode cX8_leftIn 14 = .ok (.aload_n 0, 1) := by decide +kernel
theorem dX8_leftIn_15 : decode cX8_leftIn 15 = .ok (.invokevirtual 181, 3) := by decide +kernel
theorem dX8_leftIn_18 : decode cX8_leftIn 18 = .ok (.aload_n 0, 1) := by decide +kernel
theorem dX8_leftIn_19 : decode cX8_leftIn 19 = .ok (.iload_n 1, 1) := by decide +kernel
theorem dX8_leftIn_20 : decode cX8_leftIn 20 = .ok (.invokevirtual 162, 3) := by decide +kernel
theorem dX8_leftIn_23 : decode cX8_leftIn 23 = .ok (.aload_n 0, 1) := by decide +kernel
theorem dX8_leftIn_24 : decode cX8_leftIn 24 = .ok (.iconst 0, 1) := by decide +kernel
theorem dX8_leftIn_25 : decode cX8_leftIn 25 = .ok (.invokevirtual 175, 3) := by decide +kernel
theorem dX8_leftIn_28 : decode cX8_leftIn 28 = .ok (.istore_n 2, 1) := by decide +kernel
theorem dX8_leftIn_29 : decode cX8_leftIn 29 = .ok (.aload_n 0, 1) := by decide +kernel
theorem dX8_leftIn_30 : decode cX8_leftIn 30 = .ok (.invokevirtual 184, 3) := by decide +kernel
theorem dX8_leftIn_33 : decode cX8_leftIn 33 = .ok (.iload_n 2, 1) := by decide +kernel
theorem dX8_leftIn_34 : decode cX8_leftIn 34 = .ok (.ireturn, 1) := by decide +kernel
theorem dX8_lossWithin_0 : decode cX8_lossWithin 0 = .ok (.aload_n 0, 1) := by decide +kernel
theorem dX8_lossWithin_1 : decode cX8_lossWithin 1 = .ok (.invokevirtual 181, 3) := by decide +kernel
theorem dX8_lossWithin_4 : decode cX8_lossWithin 4 = .ok (.aload_n 0, 1) := by decide +kernel
theorem dX8_lossWithin_5 : decode cX8_lossWithin 5 = .ok (.iconst 2, 1) := by decide +kernel
theorem dX8_lossWithin_6 : decode cX8_lossWithin 6 = .ok (.invokevirtual 175, 3) := by decide +kernel
theorem dX8_lossWithin_9 : decode cX8_lossWithin 9 = .ok (.istore_n 2, 1) := by decide +kernel
theorem dX8_lossWithin_10 : decode cX8_lossWithin 10 = .ok (.iconst 0, 1) := by decide +kernel
theorem dX8_lossWithin_11 : decode cX8_lossWithin 11 = .ok (.istore_n 3, 1) := by decide +kernel
theorem dX8_lossWithin_12 : decode cX8_lossWithin 12 = .ok (.iload_n 3, 1) := by decide +kernel
theorem dX8_lossWithin_13 : decode cX8_lossWithin 13 = .ok (.iload_n 1, 1) := by decide +kernel
theorem dX8_lossWithin_14 : decode cX8_lossWithin 14 = .ok (.if_icmp .gt 22, 3) := by decide +kernel
theorem dX8_lossWithin_17 : decode cX8_lossWithin 17 = .ok (.aload_n 0, 1) := by decide +kernel
theorem dX8_lossWithin_18 : decode cX8_lossWithin 18 = .ok (.iconst 2, 1) := by decide +kernel
theorem dX8_lossWithin_19 : decode cX8_lossWithin 19 = .ok (.invokevirtual 175, 3) := by decide +kernel
theorem dX8_lossWithin_22 : decode cX8_lossWithin 22 = .ok (.iload_n 2, 1) := by decide +kernel
theorem dX8_lossWithin_23 : decode cX8_lossWithin 23 = .ok (.if_icmp .ne 13, 3) := by decide +kernel
theorem dX8_lossWithin_26 : decode cX8_lossWithin 26 = .ok (.aload_n 0, 1) := by decide +kernel
theorem dX8_lossWithin_27 : decode cX8_lossWithin 27 = .ok (.invokevirtual 120, 3) := by decide +kernel
theorem dX8_lossWithin_30 : decode cX8_lossWithin 30 = .ok (.iinc 3 1, 3) := by decide +kernel
theorem dX8_lossWithin_33 : decode cX8_lossWithin 33 = .ok (.goto (-21), 3) := by decide +kernel
theorem dX8_lossWithin_36 : decode cX8_lossWithin 36 = .ok (.aload_n 0, 1) := by decide +kernel
theorem dX8_lossWithin_37 : decode cX8_lossWithin 37 = .ok (.invokevirtual 184, 3) := by decide +kernel
theorem dX8_lossWithin_40 : decode cX8_lossWithin 40 = .ok (.iload_n 3, 1) := by decide +kernel
theorem dX8_lossWithin_41 : decode cX8_lossWithin 41 = .ok (.ireturn, 1) := by decide +kernel
theorem dX8_firstLoss_0 : decode cX8_firstLoss 0 = .ok (.aload_n 0, 1) := by decide +kernel
theorem dX8_firstLoss_1 : decode cX8_firstLoss 1 = .ok (.sipush 300, 3) := by decide +kernel
theorem dX8_firstLoss_4 : decode cX8_firstLoss 4 = .ok (.invokevirtual 187, 3) := by decide +kernel
theorem dX8_firstLoss_7 : decode cX8_firstLoss 7 = .ok (.istore_n 1, 1) := by decide +kernel
theorem dX8_firstLoss_8 : decode cX8_firstLoss 8 = .ok (.iload_n 1, 1) := by decide +kernel
theorem dX8_firstLoss_9 : decode cX8_firstLoss 9 = .ok (.sipush 300, 3) := by decide +kernel
theorem dX8_firstLoss_12 : decode cX8_firstLoss 12 = .ok (.if_icmp .le 8, 3) := by decide +kernel
theorem dX8_firstLoss_15 : decode cX8_firstLoss 15 = .ok (.bipush (-6), 2) := by decide +kernel
theorem dX8_firstLoss_17 : decode cX8_firstLoss 17 = .ok (.goto 4, 3) := by decide +kernel
theorem dX8_firstLoss_20 : decode cX8_firstLoss 20 = .ok (.iload_n 1, 1) := by decide +kernel
theorem dX8_firstLoss_21 : decode cX8_firstLoss 21 = .ok (.ireturn, 1) := by decide +kernel
theorem dX8_bestPlace_0 : decode cX8_bestPlace 0 = .ok (.aload_n 0, 1) := by decide +kernel
theorem dX8_bestPlace_1 : decode cX8_bestPlace 1 = .ok (.iload_n 1, 1) := by decide +kernel
theorem dX8_bestPlace_2 : decode cX8_bestPlace 2 = .ok (.invokevirtual 42, 3) := by decide +kernel
theorem dX8_bestPlace_5 : decode cX8_bestPlace 5 = .ok (.ifCond .ne 5, 3) := by decide +kernel
theorem dX8_bestPlace_8 : decode cX8_bestPlace 8 = .ok (.iconst (-1), 1) := by decide +kernel
theorem dX8_bestPlace_9 : decode cX8_bestPlace 9 = .ok (.ireturn, 1) := by decide +kernel
theorem dX8_bestPlace_10 : decode cX8_bestPlace 10 = .ok (.iload_n 2, 1) := by decide +kernel
theorem dX8_bestPlace_11 : decode cX8_bestPlace 11 = .ok (.iconst 1, 1) := by decide +kernel
theorem dX8_bestPlace_12 : decode cX8_bestPlace 12 = .ok (.sipush 500, 3) := by decide +kernel
theorem dX8_bestPlace_15 : decode cX8_bestPlace 15 = .ok (.invokestatic 38, 3) := by decide +kernel
theorem dX8_bestPlace_18 : decode cX8_bestPlace 18 = .ok (.ifCond .eq 24, 3) := by decide +kernel
theorem dX8_bestPlace_21 : decode cX8_bestPlace 21 = .ok (.iload_n 3, 1) := by decide +kernel
theorem dX8_bestPlace_22 : decode cX8_bestPlace 22 = .ok (.iconst 1, 1) := by decide +kernel
theorem dX8_bestPlace_23 : decode cX8_bestPlace 23 = .ok (.sipush 2000, 3) := by decide +kernel
theorem dX8_bestPlace_26 : decode cX8_bestPlace 26 = .ok (.invokestatic 38, 3) := by decide +kernel
theorem dX8_bestPlace_29 : decode cX8_bestPlace 29 = .ok (.ifCond .eq 13, 3) := by decide +kernel
theorem dX8_bestPlace_32 : decode cX8_bestPlace 32 = .ok (.iload 4, 2) := by decide +kernel
theorem dX8_bestPlace_34 : decode cX8_bestPlace 34 = .ok (.iconst 0, 1) := by decide +kernel
theorem dX8_bestPlace_35 : decode cX8_bestPlace 35 = .ok (.iconst 1, 1) := by decide +kernel
theorem dX8_bestPlace_36 : decode cX8_bestPlace 36 = .ok (.invokestatic 38, 3) := by decide +kernel
theorem dX8_bestPlace_39 : decode cX8_bestPlace 39 = .ok (.ifCond .ne 6, 3) := by decide +kernel
theorem dX8_bestPlace_42 : decode cX8_bestPlace 42 = .ok (.bipush (-2), 2) := by decide +kernel
theorem dX8_bestPlace_44 : decode cX8_bestPlace 44 = .ok (.ireturn, 1) := by decide +kernel
theorem dX8_bestPlace_45 : decode cX8_bestPlace 45 = .ok (.aload_n 0, 1) := by decide +kernel
theorem dX8_bestPlace_46 : decode cX8_bestPlace 46 = .ok (.getfield 7, 3) := by decide +kernel
theorem dX8_bestPlace_49 : decode cX8_bestPlace 49 = .ok (.bipush 6, 2) := by decide +kernel
theorem dX8_bestPlace_51 : decode cX8_bestPlace 51 = .ok (.iaload, 1) := by decide +kernel
theorem dX8_bestPlace_52 : decode cX8_bestPlace 52 = .ok (.bipush 12, 2) := by decide +kernel
theorem dX8_bestPlace_54 : decode cX8_bestPlace 54 = .ok (.if_icmp .ne 6, 3) := by decide +kernel
theorem dX8_bestPlace_57 : decode cX8_bestPlace 57 = .ok (.bipush (-4), 2) := by decide +kernel
theorem dX8_bestPlace_59 : decode cX8_bestPlace 59 = .ok (.ireturn, 1) := by decide +kernel
theorem dX8_bestPlace_60 : decode cX8_bestPlace 60 = .ok (.bipush (-6), 2) := by decide +kernel
theorem dX8_bestPlace_62 : decode cX8_bestPlace 62 = .ok (.istore 5, 2) := by decide +kernel
theorem dX8_bestPlace_64 : decode cX8_bestPlace 64 = .ok (.iconst 0, 1) := by decide +kernel
theorem dX8_bestPlace_65 : decode cX8_bestPlace 65 = .ok (.istore 6, 2) := by decide +kernel
theorem dX8_bestPlace_67 : decode cX8_bestPlace 67 = .ok (.iconst 0, 1) := by decide +kernel
theorem dX8_bestPlace_68 : decode cX8_bestPlace 68 = .ok (.istore 7, 2) := by decide +kernel
theorem dX8_bestPlace_70 : decode cX8_bestPlace 70 = .ok (.iload 7, 2) := by decide +kernel
theorem dX8_bestPlace_72 : decode cX8_bestPlace 72 = .ok (.aload_n 0, 1) := by decide +kernel
theorem dX8_bestPlace_73 : decode cX8_bestPlace 73 = .ok (.iload_n 1, 1) := by decide +kernel
theorem dX8_bestPlace_74 : decode cX8_bestPlace 74 = .ok (.iconst 0, 1) := by decide +kernel
theorem dX8_bestPlace_75 : decode cX8_bestPlace 75 = .ok (.invokevirtual 46, 3) := by decide +kernel
theorem dX8_bestPlace_78 : decode cX8_bestPlace 78 = .ok (.if_icmp .ge 60, 3) := by decide +kernel
theorem dX8_bestPlace_81 : decode cX8_bestPlace 81 = .ok (.aload_n 0, 1) := by decide +kernel
theorem dX8_bestPlace_82 : decode cX8_bestPlace 82 = .ok (.invokevirtual 181, 3) := by decide +kernel
theorem dX8_bestPlace_85 : decode cX8_bestPlace 85 = .ok (.aload_n 0, 1) := by decide +kernel
theorem dX8_bestPlace_86 : decode cX8_bestPlace 86 = .ok (.iload_n 1, 1) := by decide +kernel
theorem dX8_bestPlace_87 : decode cX8_bestPlace 87 = .ok (.iload 7, 2) := by decide +kernel
theorem dX8_bestPlace_89 : decode cX8_bestPlace 89 = .ok (.iconst 0, 1) := by decide +kernel
theorem dX8_bestPlace_90 : decode cX8_bestPlace 90 = .ok (.iload_n 2, 1) := by decide +kernel
theorem dX8_bestPlace_91 : decode cX8_bestPlace 91 = .ok (.iload_n 3, 1) := by decide +kernel
theorem dX8_bestPlace_92 : decode cX8_bestPlace 92 = .ok (.invokevirtual 137, 3) := by decide +kernel
theorem dX8_bestPlace_95 : decode cX8_bestPlace 95 = .ok (.aload_n 0, 1) := by decide +kernel
theorem dX8_bestPlace_96 : decode cX8_bestPlace 96 = .ok (.bipush 100, 2) := by decide +kernel
theorem dX8_bestPlace_98 : decode cX8_bestPlace 98 = .ok (.invokevirtual 162, 3) := by decide +kernel
theorem dX8_bestPlace_101 : decode cX8_bestPlace 101 = .ok (.aload_n 0, 1) := by decide +kernel
theorem dX8_bestPlace_102 : decode cX8_bestPlace 102 = .ok (.iconst 0, 1) := by decide +kernel
theorem dX8_bestPlace_103 : decode cX8_bestPlace 103 = .ok (.invokevirtual 175, 3) := by decide +kernel
theorem dX8_bestPlace_106 : decode cX8_bestPlace 106 = .ok (.istore 8, 2) := by decide +kernel
theorem dX8_bestPlace_108 : decode cX8_bestPlace 108 = .ok (.aload_n 0, 1) := by decide +kernel
theorem dX8_bestPlace_109 : decode cX8_bestPlace 109 = .ok (.invokevirtual 184, 3) := by decide +kernel
theorem dX8_bestPlace_112 : decode cX8_bestPlace 112 = .ok (.iload 5, 2) := by decide +kernel
theorem dX8_bestPlace_114 : decode cX8_bestPlace 114 = .ok (.ifCond .lt 10, 3) := by decide +kernel
theorem dX8_bestPlace_117 : decode cX8_bestPlace 117 = .ok (.iload 8, 2) := by decide +kernel
theorem dX8_bestPlace_119 : decode cX8_bestPlace 119 = .ok (.iload 6, 2) := by decide +kernel
theorem dX8_bestPlace_121 : decode cX8_bestPlace 121 = .ok (.if_icmp .le 11, 3) := by decide +kernel
theorem dX8_bestPlace_124 : decode cX8_bestPlace 124 = .ok (.iload 7, 2) := by decide +kernel
theorem dX8_bestPlace_126 : decode cX8_bestPlace 126 = .ok (.istore 5, 2) := by decide +kernel
theorem dX8_bestPlace_128 : decode cX8_bestPlace 128 = .ok (.iload 8, 2) := by decide +kernel
theorem dX8_bestPlace_130 : decode cX8_bestPlace 130 = .ok (.istore 6, 2) := by decide +kernel
theorem dX8_bestPlace_132 : decode cX8_bestPlace 132 = .ok (.iinc 7 1, 3) := by decide +kernel
theorem dX8_bestPlace_135 : decode cX8_bestPlace 135 = .ok (.goto (-65), 3) := by decide +kernel
theorem dX8_bestPlace_138 : decode cX8_bestPlace 138 = .ok (.iload 4, 2) := by decide +kernel
theorem dX8_bestPlace_140 : decode cX8_bestPlace 140 = .ok (.ifCond .ne 8, 3) := by decide +kernel
theorem dX8_bestPlace_143 : decode cX8_bestPlace 143 = .ok (.iload 5, 2) := by decide +kernel
theorem dX8_bestPlace_145 : decode cX8_bestPlace 145 = .ok (.goto 5, 3) := by decide +kernel
theorem dX8_bestPlace_148 : decode cX8_bestPlace 148 = .ok (.iload 6, 2) := by decide +kernel
theorem dX8_bestPlace_150 : decode cX8_bestPlace 150 = .ok (.ireturn, 1) := by decide +kernel
theorem dX8_bearable_0 : decode cX8_bearable 0 = .ok (.aload_n 0, 1) := by decide +kernel
theorem dX8_bearable_1 : decode cX8_bearable 1 = .ok (.getfield 7, 3) := by decide +kernel
theorem dX8_bearable_4 : decode cX8_bearable 4 = .ok (.iconst 0, 1) := by decide +kernel
theorem dX8_bearable_5 : decode cX8_bearable 5 = .ok (.iaload, 1) := by decide +kernel
theorem dX8_bearable_6 : decode cX8_bearable 6 = .ok (.istore_n 1, 1) := by decide +kernel
theorem dX8_bearable_7 : decode cX8_bearable 7 = .ok (.bipush (-6), 2) := by decide +kernel
theorem dX8_bearable_9 : decode cX8_bearable 9 = .ok (.istore_n 2, 1) := by decide +kernel
theorem dX8_bearable_10 : decode cX8_bearable 10 = .ok (.bipush 50, 2) := by decide +kernel
theorem dX8_bearable_12 : decode cX8_bearable 12 = .ok (.istore_n 3, 1) := by decide +kernel
theorem dX8_bearable_13 : decode cX8_bearable 13 = .ok (.iload_n 3, 1) := by decide +kernel
theorem dX8_bearable_14 : decode cX8_bearable 14 = .ok (.ifCond .lt 38, 3) := by decide +kernel
theorem dX8_bearable_17 : decode cX8_bearable 17 = .ok (.iload_n 2, 1) := by decide +kernel
theorem dX8_bearable_18 : decode cX8_bearable 18 = .ok (.ifCond .ge 34, 3) := by decide +kernel
theorem dX8_bearable_21 : decode cX8_bearable 21 = .ok (.aload_n 0, 1) := by decide +kernel
theorem dX8_bearable_22 : decode cX8_bearable 22 = .ok (.getfield 7, 3) := by decide +kernel
theorem dX8_bearable_25 : decode cX8_bearable 25 = .ok (.iconst 0, 1) := by decide +kernel
theorem dX8_bearable_26 : decode cX8_bearable 26 = .ok (.iload_n 3, 1) := by decide +kernel
theorem dX8_bearable_27 : decode cX8_bearable 27 = .ok (.iastore, 1) := by decide +kernel
theorem dX8_bearable_28 : decode cX8_bearable 28 = .ok (.aload_n 0, 1) := by decide +kernel
theorem dX8_bearable_29 : decode cX8_bearable 29 = .ok (.bipush 100, 2) := by decide +kernel
theorem dX8_bearable_31 : decode cX8_bearable 31 = .ok (.invokevirtual 187, 3) := by decide +kernel
theorem dX8_bearable_34 : decode cX8_bearable 34 = .ok (.bipush 100, 2) := by decide +kernel
theorem dX8_bearable_36 : decode cX8_bearable 36 = .ok (.if_icmp .le 7, 3) := by decide +kernel
theorem dX8_bearable_39 : decode cX8_bearable 39 = .ok (.iload_n 3, 1) := by decide +kernel
theorem dX8_bearable_40 : decode cX8_bearable 40 = .ok (.goto 5, 3) := by decide +kernel
theorem dX8_bearable_43 : decode cX8_bearable 43 = .ok (.bipush (-6), 2) := by decide +kernel
theorem dX8_bearable_45 : decode cX8_bearable 45 = .ok (.istore_n 2, 1) := by decide +kernel
theorem dX8_bearable_46 : decode cX8_bearable 46 = .ok (.iinc 3 (-1), 3) := by decide +kernel
theorem dX8_bearable_49 : decode cX8_bearable 49 = .ok (.goto (-36), 3) := by decide +kernel
theorem dX8_bearable_52 : decode cX8_bearable 52 = .ok (.aload_n 0, 1) := by decide +kernel
theorem dX8_bearable_53 : decode cX8_bearable 53 = .ok (.getfield 7, 3) := by decide +kernel
theorem dX8_bearable_56 : decode cX8_bearable 56 = .ok (.iconst 0, 1) := by decide +kernel
theorem dX8_bearable_57 : decode cX8_bearable 57 = .ok (.iload_n 1, 1) := by decide +kernel
theorem dX8_bearable_58 : decode cX8_bearable 58 = .ok (.iastore, 1) := by decide +kernel
theorem dX8_bearable_59 : decode cX8_bearable 59 = .ok (.iload_n 2, 1) := by decide +kernel
theorem dX8_bearable_60 : decode cX8_bearable 60 = .ok (.ireturn, 1) := by decide +kernel
theorem dX8_put_0 : decode cX8_put 0 = .ok (.iconst 0, 1) := by decide +kernel
theorem dX8_put_1 : decode cX8_put 1 = .ok (.istore_n 3, 1) := by decide +kernel
theorem dX8_put_2 : decode cX8_put 2 = .ok (.lload_n 1, 1) := by decide +kernel
theorem dX8_put_3 : decode cX8_put 3 = .ok (.lstore 4, 2) := by decide +kernel
theorem dX8_put_5 : decode cX8_put 5 = .ok (.iload_n 3, 1) := by decide +kernel
theorem dX8_put_6 : decode cX8_put 6 = .ok (.bipush 8, 2) := by decide +kernel
theorem dX8_put_8 : decode cX8_put 8 = .ok (.if_icmp .ge 47, 3) := by decide +kernel
theorem dX8_put_11 : decode cX8_put 11 = .ok (.lload 4, 2) := by decide +kernel
theorem dX8_put_13 : decode cX8_put 13 = .ok (.ldc2_w 190, 3) := by decide +kernel
theorem dX8_put_16 : decode cX8_put 16 = .ok (.land, 1) := by decide +kernel
theorem dX8_put_17 : decode cX8_put 17 = .ok (.lconst 0, 1) := by decide +kernel
theorem dX8_put_18 : decode cX8_put 18 = .ok (.lcmp, 1) := by decide +kernel
theorem dX8_put_19 : decode cX8_put 19 = .ok (.ifCond .eq 36, 3) := by decide +kernel
theorem dX8_put_22 : decode cX8_put 22 = .ok (.lload 4, 2) := by decide +kernel
theorem dX8_put_24 : decode cX8_put 24 = .ok (.ldc2_w 190, 3) := by decide +kernel
theorem dX8_put_27 : decode cX8_put 27 = .ok (.land, 1) := by decide +kernel
theorem dX8_put_28 : decode cX8_put 28 = .ok (.l2i, 1) := by decide +kernel
theorem dX8_put_29 : decode cX8_put 29 = .ok (.bipush 33, 2) := by decide +kernel
theorem dX8_put_31 : decode cX8_put 31 = .ok (.bipush 126, 2) := by decide +kernel
theorem dX8_put_33 : decode cX8_put 33 = .ok (.invokestatic 38, 3) := by decide +kernel
theorem dX8_put_36 : decode cX8_put 36 = .ok (.ifCond .ne 6, 3) := by decide +kernel
theorem dX8_put_39 : decode cX8_put 39 = .ok (.bipush (-2), 2) := by decide +kernel
theorem dX8_put_41 : decode cX8_put 41 = .ok (.ireturn, 1) := by decide +kernel
theorem dX8_put_42 : decode cX8_put 42 = .ok (.iinc 3 1, 3) := by decide +kernel
theorem dX8_put_45 : decode cX8_put 45 = .ok (.lload 4, 2) := by decide +kernel
theorem dX8_put_47 : decode cX8_put 47 = .ok (.bipush 8, 2) := by decide +kernel
theorem dX8_put_49 : decode cX8_put 49 = .ok (.lushr, 1) := by decide +kernel
theorem dX8_put_50 : decode cX8_put 50 = .ok (.lstore 4, 2) := by decide +kernel
theorem dX8_put_52 : decode cX8_put 52 = .ok (.goto (-47), 3) := by decide +kernel
theorem dX8_put_55 : decode cX8_put 55 = .ok (.iload_n 3, 1) := by decide +kernel
theorem dX8_put_56 : decode cX8_put 56 = .ok (.ifCond .eq 10, 3) := by decide +kernel
theorem dX8_put_59 : decode cX8_put 59 = .ok (.lload 4, 2) := by decide +kernel
theorem dX8_put_61 : decode cX8_put 61 = .ok (.lconst 0, 1) := by decide +kernel
theorem dX8_put_62 : decode cX8_put 62 = .ok (.lcmp, 1) := by decide +kernel
theorem dX8_put_63 : decode cX8_put 63 = .ok (.ifCond .eq 6, 3) := by decide +kernel
theorem dX8_put_66 : decode cX8_put 66 = .ok (.bipush (-2), 2) := by decide +kernel
theorem dX8_put_68 : decode cX8_put 68 = .ok (.ireturn, 1) := by decide +kernel
theorem dX8_put_69 : decode cX8_put 69 = .ok (.aload_n 0, 1) := by decide +kernel
theorem dX8_put_70 : decode cX8_put 70 = .ok (.getfield 178, 3) := by decide +kernel
theorem dX8_put_73 : decode cX8_put 73 = .ok (.iload_n 3, 1) := by decide +kernel
theorem dX8_put_74 : decode cX8_put 74 = .ok (.iadd, 1) := by decide +kernel
theorem dX8_put_75 : decode cX8_put 75 = .ok (.bipush 80, 2) := by decide +kernel
theorem dX8_put_77 : decode cX8_put 77 = .ok (.if_icmp .le 6, 3) := by decide +kernel
theorem dX8_put_80 : decode cX8_put 80 = .ok (.bipush (-4), 2) := by decide +kernel
theorem dX8_put_82 : decode cX8_put 82 = .ok (.ireturn, 1) := by decide +kernel
theorem dX8_put_83 : decode cX8_put 83 = .ok (.iconst 0, 1) := by decide +kernel
theorem dX8_put_84 : decode cX8_put 84 = .ok (.istore 6, 2) := by decide +kernel
theorem dX8_put_86 : decode cX8_put 86 = .ok (.iload 6, 2) := by decide +kernel
theorem dX8_put_88 : decode cX8_put 88 = .ok (.iload_n 3, 1) := by decide +kernel
theorem dX8_put_89 : decode cX8_put 89 = .ok (.if_icmp .ge 37, 3) := by decide +kernel
theorem dX8_put_92 : decode cX8_put 92 = .ok (.aload_n 0, 1) := by decide +kernel
theorem dX8_put_93 : decode cX8_put 93 = .ok (.getfield 26, 3) := by decide +kernel
theorem dX8_put_96 : decode cX8_put 96 = .ok (.aload_n 0, 1) := by decide +kernel
theorem dX8_put_97 : decode cX8_put 97 = .ok (.getfield 178, 3) := by decide +kernel
theorem dX8_put_100 : decode cX8_put 100 = .ok (.iload 6, 2) := by decide +kernel
theorem dX8_put_102 : decode cX8_put 102 = .ok (.iadd, 1) := by decide +kernel
theorem dX8_put_103 : decode cX8_put 103 = .ok (.lload_n 1, 1) := by decide +kernel
theorem dX8_put_104 : decode cX8_put 104 = .ok (.bipush 8, 2) := by decide +kernel
theorem dX8_put_106 : decode cX8_put 106 = .ok (.iload_n 3, 1) := by decide +kernel
theorem dX8_put_107 : decode cX8_put 107 = .ok (.iconst 1, 1) := by decide +kernel
theorem dX8_put_108 : decode cX8_put 108 = .ok (.isub, 1) := by decide +kernel
theorem dX8_put_109 : decode cX8_put 109 = .ok (.iload 6, 2) := by decide +kernel
theorem dX8_put_111 : decode cX8_put 111 = .ok (.isub, 1) := by decide +kernel
theorem dX8_put_112 : decode cX8_put 112 = .ok (.imul, 1) := by decide +kernel
theorem dX8_put_113 : decode cX8_put 113 = .ok (.lshr, 1) := by decide +kernel
theorem dX8_put_114 : decode cX8_put 114 = .ok (.ldc2_w 190, 3) := by decide +kernel
theorem dX8_put_117 : decode cX8_put 117 = .ok (.land, 1) := by decide +kernel
theorem dX8_put_118 : decode cX8_put 118 = .ok (.l2i, 1) := by decide +kernel
theorem dX8_put_119 : decode cX8_put 119 = .ok (.iastore, 1) := by decide +kernel
theorem dX8_put_120 : decode cX8_put 120 = .ok (.iinc 6 1, 3) := by decide +kernel
theorem dX8_put_123 : decode cX8_put 123 = .ok (.goto (-37), 3) := by decide +kernel
theorem dX8_put_126 : decode cX8_put 126 = .ok (.aload_n 0, 1) := by decide +kernel
theorem dX8_put_127 : decode cX8_put 127 = .ok (.dup, 1) := by decide +kernel
theorem dX8_put_128 : decode cX8_put 128 = .ok (.getfield 178, 3) := by decide +kernel
theorem dX8_put_131 : decode cX8_put 131 = .ok (.iload_n 3, 1) := by decide +kernel
theorem dX8_put_132 : decode cX8_put 132 = .ok (.iadd, 1) := by decide +kernel
theorem dX8_put_133 : decode cX8_put 133 = .ok (.putfield 178, 3) := by decide +kernel
theorem dX8_put_136 : decode cX8_put 136 = .ok (.aload_n 0, 1) := by decide +kernel
theorem dX8_put_137 : decode cX8_put 137 = .ok (.getfield 178, 3) := by decide +kernel
theorem dX8_put_140 : decode cX8_put 140 = .ok (.ireturn, 1) := by decide +kernel
theorem dX8_wipe_0 : decode cX8_wipe 0 = .ok (.aload_n 0, 1) := by decide +kernel
theorem dX8_wipe_1 : decode cX8_wipe 1 = .ok (.getfield 178, 3) := by decide +kernel
theorem dX8_wipe_4 : decode cX8_wipe 4 = .ok (.istore_n 1, 1) := by decide +kernel
theorem dX8_wipe_5 : decode cX8_wipe 5 = .ok (.aload_n 0, 1) := by decide +kernel
theorem dX8_wipe_6 : decode cX8_wipe 6 = .ok (.iconst 0, 1) := by decide +kernel
theorem dX8_wipe_7 : decode cX8_wipe 7 = .ok (.putfield 178, 3) := by decide +kernel
theorem dX8_wipe_10 : decode cX8_wipe 10 = .ok (.iload_n 1, 1) := by decide +kernel
theorem dX8_wipe_11 : decode cX8_wipe 11 = .ok (.ireturn, 1) := by decide +kernel
theorem dX8_next_0 : decode cX8_next 0 = .ok (.aload_n 0, 1) := by decide +kernel
theorem dX8_next_1 : decode cX8_next 1 = .ok (.getfield 192, 3) := by decide +kernel
theorem dX8_next_4 : decode cX8_next 4 = .ok (.aload_n 0, 1) := by decide +kernel
theorem dX8_next_5 : decode cX8_next 5 = .ok (.getfield 178, 3) := by decide +kernel
theorem dX8_next_8 : decode cX8_next 8 = .ok (.if_icmp .ge 15, 3) := by decide +kernel
theorem dX8_next_11 : decode cX8_next 11 = .ok (.aload_n 0, 1) := by decide +kernel
theorem dX8_next_12 : decode cX8_next 12 = .ok (.getfield 26, 3) := by decide +kernel
theorem dX8_next_15 : decode cX8_next 15 = .ok (.aload_n 0, 1) := by decide +kernel
theorem dX8_next_16 : decode cX8_next 16 = .ok (.getfield 192, 3) := by decide +kernel
theorem dX8_next_19 : decode cX8_next 19 = .ok (.iaload, 1) := by decide +kernel
theorem dX8_next_20 : decode cX8_next 20 = .ok (.goto 4, 3) := by decide +kernel
theorem dX8_next_23 : decode cX8_next 23 = .ok (.iconst 0, 1) := by decide +kernel
theorem dX8_next_24 : decode cX8_next 24 = .ok (.ireturn, 1) := by decide +kernel
theorem dX8_takeSign_0 : decode cX8_takeSign 0 = .ok (.aload_n 0, 1) := by decide +kernel
theorem dX8_takeSign_1 : decode cX8_takeSign 1 = .ok (.aload_n 0, 1) := by decide +kernel
theorem dX8_takeSign_2 : decode cX8_takeSign 2 = .ok (.getfield 195, 3) := by decide +kernel
theorem dX8_takeSign_5 : decode cX8_takeSign 5 = .ok (.ifCond .ne 11, 3) := by decide +kernel
theorem dX8_takeSign_8 : decode cX8_takeSign 8 = .ok (.aload_n 0, 1) := by decide +kernel
theorem dX8_takeSign_9 : decode cX8_takeSign 9 = .ok (.invokevirtual 199, 3) := by decide +kernel
theorem dX8_takeSign_12 : decode cX8_takeSign 12 = .ok (.iload_n 1, 1) := by decide +kernel
theorem dX8_takeSign_13 : decode cX8_takeSign 13 = .ok (.if_icmp .eq 7, 3) := by decide +kernel
theorem dX8_takeSign_16 : decode cX8_takeSign 16 = .ok (.iconst 1, 1) := by decide +kernel
theorem dX8_takeSign_17 : decode cX8_takeSign 17 = .ok (.goto 4, 3) := by decide +kernel
theorem dX8_takeSign_20 : decode cX8_takeSign 20 = .ok (.iconst 0, 1) := by decide +kernel
theorem dX8_takeSign_21 : decode cX8_takeSign 21 = .ok (.putfield 195, 3) := by decide +kernel
theorem dX8_takeSign_24 : decode cX8_takeSign 24 = .ok (.aload_n 0, 1) := by decide +kernel
theorem dX8_takeSign_25 : decode cX8_takeSign 25 = .ok (.dup, 1) := by decide +kernel
theorem dX8_takeSign_26 : decode cX8_takeSign 26 = .ok (.getfield 192, 3) := by decide +kernel
theorem dX8_takeSign_29 : decode cX8_takeSign 29 = .ok (.aload_n 0, 1) := by decide +kernel
theorem dX8_takeSign_30 : decode cX8_takeSign 30 = .ok (.getfield 195, 3) := by decide +kernel
theorem dX8_takeSign_33 : decode cX8_takeSign 33 = .ok (.ifCond .eq 7, 3) := by decide +kernel
theorem dX8_takeSign_36 : decode cX8_takeSign 36 = .ok (.iconst 0, 1) := by decide +kernel
theorem dX8_takeSign_37 : decode cX8_takeSign 37 = .ok (.goto 4, 3) := by decide +kernel
theorem dX8_takeSign_40 : decode cX8_takeSign 40 = .ok (.iconst 1, 1) := by decide +kernel
theorem dX8_takeSign_41 : decode cX8_takeSign 41 = .ok (.iadd, 1) := by decide +kernel
theorem dX8_takeSign_42 : decode cX8_takeSign 42 = .ok (.putfield 192, 3) := by decide +kernel
theorem dX8_takeSign_45 : decode cX8_takeSign 45 = .ok (.return_, 1) := by decide +kernel
theorem dX8_takeNumber_0 : decode cX8_takeNumber 0 = .ok (.aload_n 0, 1) := by decide +kernel
theorem dX8_takeNumber_1 : decode cX8_takeNumber 1 = .ok (.aload_n 0, 1) := by decide +kernel
theorem dX8_takeNumber_2 : decode cX8_takeNumber 2 = .ok (.getfield 195, 3) := by decide +kernel
theorem dX8_takeNumber_5 : decode cX8_takeNumber 5 = .ok (.ifCond .ne 17, 3) := by decide +kernel
theorem dX8_takeNumber_8 : decode cX8_takeNumber 8 = .ok (.aload_n 0, 1) := by decide +kernel
theorem dX8_takeNumber_9 : decode cX8_takeNumber 9 = .ok (.invokevirtual 199, 3) := by decide +kernel
theorem dX8_takeNumber_12 : decode cX8_takeNumber 12 = .ok (.bipush 48, 2) := by decide +kernel
theorem dX8_takeNumber_14 : decode cX8_takeNumber 14 = .ok (.bipush 57, 2) := by decide +kernel
theorem dX8_takeNumber_16 : decode cX8_takeNumber 16 = .ok (.invokestatic 38, 3) := by decide +kernel
theorem dX8_takeNumber_19 : decode cX8_takeNumber 19 = .ok (.ifCond .ne 7, 3) := by decide +kernel
theorem dX8_takeNumber_22 : decode cX8_takeNumber 22 = .ok (.iconst 1, 1) := by decide +kernel
theorem dX8_takeNumber_23 : decode cX8_takeNumber 23 = .ok (.goto 4, 3) := by decide +kernel
theorem dX8_takeNumber_26 : decode cX8_takeNumber 26 = .ok (.iconst 0, 1) := by decide +kernel
theorem dX8_takeNumber_27 : decode cX8_takeNumber 27 = .ok (.putfield 195, 3) := by decide +kernel
theorem dX8_takeNumber_30 : decode cX8_takeNumber 30 = .ok (.aload_n 0, 1) := by decide +kernel
theorem dX8_takeNumber_31 : decode cX8_takeNumber 31 = .ok (.getfield 195, 3) := by decide +kernel
theorem dX8_takeNumber_34 : decode cX8_takeNumber 34 = .ok (.ifCond .eq 4, 3) := by decide +kernel
theorem dX8_takeNumber_37 : decode cX8_takeNumber 37 = .ok (.return_, 1) := by decide +kernel
theorem dX8_takeNumber_38 : decode cX8_takeNumber 38 = .ok (.aload_n 0, 1) := by decide +kernel
theorem dX8_takeNumber_39 : decode cX8_takeNumber 39 = .ok (.invokevirtual 199, 3) := by decide +kernel
theorem dX8_takeNumber_42 : decode cX8_takeNumber 42 = .ok (.bipush 48, 2) := by decide +kernel
theorem dX8_takeNumber_44 : decode cX8_takeNumber 44 = .ok (.isub, 1) := by decide +kernel
theorem dX8_takeNumber_45 : decode cX8_takeNumber 45 = .ok (.istore_n 1, 1) := by decide +kernel
theorem dX8_takeNumber_46 : decode cX8_takeNumber 46 = .ok (.aload_n 0, 1) := by decide +kernel
theorem dX8_takeNumber_47 : decode cX8_takeNumber 47 = .ok (.dup, 1) := by decide +kernel
theorem dX8_takeNumber_48 : decode cX8_takeNumber 48 = .ok (.getfield 192, 3) := by decide +kernel
theorem dX8_takeNumber_51 : decode cX8_takeNumber 51 = .ok (.iconst 1, 1) := by decide +kernel
theorem dX8_takeNumber_52 : decode cX8_takeNumber 52 = .ok (.iadd, 1) := by decide +kernel
theorem dX8_takeNumber_53 : decode cX8_takeNumber 53 = .ok (.putfield 192, 3) := by decide +kernel
theorem dX8_takeNumber_56 : decode cX8_takeNumber 56 = .ok (.aload_n 0, 1) := by decide +kernel
theorem dX8_takeNumber_57 : decode cX8_takeNumber 57 = .ok (.getfield 195, 3) := by decide +kernel
theorem dX8_takeNumber_60 : decode cX8_takeNumber 60 = .ok (.ifCond .ne 96, 3) := by decide +kernel
theorem dX8_takeNumber_63 : decode cX8_takeNumber 63 = .ok (.iload_n 1, 1) := by decide +kernel
theorem dX8_takeNumber_64 : decode cX8_takeNumber 64 = .ok (.ifCond .le 92, 3) := by decide +kernel
theorem dX8_takeNumber_67 : decode cX8_takeNumber 67 = .ok (.aload_n 0, 1) := by decide +kernel
theorem dX8_takeNumber_68 : decode cX8_takeNumber 68 = .ok (.invokevirtual 199, 3) := by decide +kernel
theorem dX8_takeNumber_71 : decode cX8_takeNumber 71 = .ok (.bipush 48, 2) := by decide +kernel
theorem dX8_takeNumber_73 : decode cX8_takeNumber 73 = .ok (.bipush 57, 2) := by decide +kernel
theorem dX8_takeNumber_75 : decode cX8_takeNumber 75 = .ok (.invokestatic 38, 3) := by decide +kernel
theorem dX8_takeNumber_78 : decode cX8_takeNumber 78 = .ok (.ifCond .eq 78, 3) := by decide +kernel
theorem dX8_takeNumber_81 : decode cX8_takeNumber 81 = .ok (.aload_n 0, 1) := by decide +kernel
theorem dX8_takeNumber_82 : decode cX8_takeNumber 82 = .ok (.bipush 10, 2) := by decide +kernel
theorem dX8_takeNumber_84 : decode cX8_takeNumber 84 = .ok (.iload_n 1, 1) := by decide +kernel
theorem dX8_takeNumber_85 : decode cX8_takeNumber 85 = .ok (.imul, 1) := by decide +kernel
theorem dX8_takeNumber_86 : decode cX8_takeNumber 86 = .ok (.aload_n 0, 1) := by decide +kernel
theorem dX8_takeNumber_87 : decode cX8_takeNumber 87 = .ok (.invokevirtual 199, 3) := by decide +kernel
theorem dX8_takeNumber_90 : decode cX8_takeNumber 90 = .ok (.iadd, 1) := by decide +kernel
theorem dX8_takeNumber_91 : decode cX8_takeNumber 91 = .ok (.bipush 48, 2) := by decide +kernel
theorem dX8_takeNumber_93 : decode cX8_takeNumber 93 = .ok (.isub, 1) := by decide +kernel
theorem dX8_takeNumber_94 : decode cX8_takeNumber 94 = .ok (.sipush 999, 3) := by decide +kernel
theorem dX8_takeNumber_97 : decode cX8_takeNumber 97 = .ok (.if_icmp .le 7, 3) := by decide +kernel
theorem dX8_takeNumber_100 : decode cX8_takeNumber 100 = .ok (.iconst 1, 1) := by decide +kernel
theorem dX8_takeNumber_101 : decode cX8_takeNumber 101 = .ok (.goto 4, 3) := by decide +kernel
theorem dX8_takeNumber_104 : decode cX8_takeNumber 104 = .ok (.iconst 0, 1) := by decide +kernel
theorem dX8_takeNumber_105 : decode cX8_takeNumber 105 = .ok (.putfield 195, 3) := by decide +kernel
theorem dX8_takeNumber_108 : decode cX8_takeNumber 108 = .ok (.aload_n 0, 1) := by decide +kernel
theorem dX8_takeNumber_109 : decode cX8_takeNumber 109 = .ok (.getfield 195, 3) := by decide +kernel
theorem dX8_takeNumber_112 : decode cX8_takeNumber 112 = .ok (.ifCond .eq 7, 3) := by decide +kernel
theorem dX8_takeNumber_115 : decode cX8_takeNumber 115 = .ok (.iload_n 1, 1) := by decide +kernel
theorem dX8_takeNumber_116 : decode cX8_takeNumber 116 = .ok (.goto 15, 3) := by decide +kernel
theorem dX8_takeNumber_119 : decode cX8_takeNumber 119 = .ok (.bipush 10, 2) := by decide +kernel
theorem dX8_takeNumber_121 : decode cX8_takeNumber 121 = .ok (.iload_n 1, 1) := by decide +kernel
theorem dX8_takeNumber_122 : decode cX8_takeNumber 122 = .ok (.imul, 1) := by decide +kernel
theorem dX8_takeNumber_123 : decode cX8_takeNumber 123 = .ok (.aload_n 0, 1) := by decide +kernel
theorem dX8_takeNumber_124 : decode cX8_takeNumber 124 = .ok (.invokevirtual 199, 3) := by decide +kernel
theorem dX8_takeNumber_127 : decode cX8_takeNumber 127 = .ok (.iadd, 1) := by decide +kernel
theorem dX8_takeNumber_128 : decode cX8_takeNumber 128 = .ok (.bipush 48, 2) := by decide +kernel
theorem dX8_takeNumber_130 : decode cX8_takeNumber 130 = .ok (.isub, 1) := by decide +kernel
theorem dX8_takeNumber_131 : decode cX8_takeNumber 131 = .ok (.istore_n 1, 1) := by decide +kernel
theorem dX8_takeNumber_132 : decode cX8_takeNumber 132 = .ok (.aload_n 0, 1) := by decide +kernel
theorem dX8_takeNumber_133 : decode cX8_takeNumber 133 = .ok (.dup, 1) := by decide +kernel
theorem dX8_takeNumber_134 : decode cX8_takeNumber 134 = .ok (.getfield 192, 3) := by decide +kernel
theorem dX8_takeNumber_137 : decode cX8_takeNumber 137 = .ok (.aload_n 0, 1) := by decide +kernel
theorem dX8_takeNumber_138 : decode cX8_takeNumber 138 = .ok (.getfield 195, 3) := by decide +kernel
theorem dX8_takeNumber_141 : decode cX8_takeNumber 141 = .ok (.ifCond .eq 7, 3) := by decide +kernel
theorem dX8_takeNumber_144 : decode cX8_takeNumber 144 = .ok (.iconst 0, 1) := by decide +kernel
theorem dX8_takeNumber_145 : decode cX8_takeNumber 145 = .ok (.goto 4, 3) := by decide +kernel
theorem dX8_takeNumber_148 : decode cX8_takeNumber 148 = .ok (.iconst 1, 1) := by decide +kernel
theorem dX8_takeNumber_149 : decode cX8_takeNumber 149 = .ok (.iadd, 1) := by decide +kernel
theorem dX8_takeNumber_150 : decode cX8_takeNumber 150 = .ok (.putfield 192, 3) := by decide +kernel
theorem dX8_takeNumber_153 : decode cX8_takeNumber 153 = .ok (.goto (-97), 3) := by decide +kernel
theorem dX8_takeNumber_156 : decode cX8_takeNumber 156 = .ok (.aload_n 0, 1) := by decide +kernel
theorem dX8_takeNumber_157 : decode cX8_takeNumber 157 = .ok (.getfield 35, 3) := by decide +kernel
theorem dX8_takeNumber_160 : decode cX8_takeNumber 160 = .ok (.aload_n 0, 1) := by decide +kernel
theorem dX8_takeNumber_161 : decode cX8_takeNumber 161 = .ok (.getfield 203, 3) := by decide +kernel
theorem dX8_takeNumber_164 : decode cX8_takeNumber 164 = .ok (.iload_n 1, 1) := by decide +kernel
theorem dX8_takeNumber_165 : decode cX8_takeNumber 165 = .ok (.iastore, 1) := by decide +kernel
theorem dX8_takeNumber_166 : decode cX8_takeNumber 166 = .ok (.aload_n 0, 1) := by decide +kernel
theorem dX8_takeNumber_167 : decode cX8_takeNumber 167 = .ok (.dup, 1) := by decide +kernel
theorem dX8_takeNumber_168 : decode cX8_takeNumber 168 = .ok (.getfield 203, 3) := by decide +kernel
theorem dX8_takeNumber_171 : decode cX8_takeNumber 171 = .ok (.iconst 1, 1) := by decide +kernel
theorem dX8_takeNumber_172 : decode cX8_takeNumber 172 = .ok (.iadd, 1) := by decide +kernel
theorem dX8_takeNumber_173 : decode cX8_takeNumber 173 = .ok (.putfield 203, 3) := by decide +kernel
theorem dX8_takeNumber_176 : decode cX8_takeNumber 176 = .ok (.return_, 1) := by decide +kernel
theorem dX8_takeMode_0 : decode cX8_takeMode 0 = .ok (.aload_n 0, 1) := by decide +kernel
theorem dX8_takeMode_1 : decode cX8_takeMode 1 = .ok (.aload_n 0, 1) := by decide +kernel
theorem dX8_takeMode_2 : decode cX8_takeMode 2 = .ok (.getfield 195, 3) := by decide +kernel
theorem dX8_takeMode_5 : decode cX8_takeMode 5 = .ok (.ifCond .ne 17, 3) := by decide +kernel
theorem dX8_takeMode_8 : decode cX8_takeMode 8 = .ok (.aload_n 0, 1) := by decide +kernel
theorem dX8_takeMode_9 : decode cX8_takeMode 9 = .ok (.invokevirtual 199, 3) := by decide +kernel
theorem dX8_takeMode_12 : decode cX8_takeMode 12 = .ok (.bipush 48, 2) := by decide +kernel
theorem dX8_takeMode_14 : decode cX8_takeMode 14 = .ok (.bipush 50, 2) := by decide +kernel
theorem dX8_takeMode_16 : decode cX8_takeMode 16 = .ok (.invokestatic 38, 3) := by decide +kernel
theorem dX8_takeMode_19 : decode cX8_takeMode 19 = .ok (.ifCond .ne 7, 3) := by decide +kernel
theorem dX8_takeMode_22 : decode cX8_takeMode 22 = .ok (.iconst 1, 1) := by decide +kernel
theorem dX8_takeMode_23 : decode cX8_takeMode 23 = .ok (.goto 4, 3) := by decide +kernel
theorem dX8_takeMode_26 : decode cX8_takeMode 26 = .ok (.iconst 0, 1) := by decide +kernel
theorem dX8_takeMode_27 : decode cX8_takeMode 27 = .ok (.putfield 195, 3) := by decide +kernel
theorem dX8_takeMode_30 : decode cX8_takeMode 30 = .ok (.aload_n 0, 1) := by decide +kernel
theorem dX8_takeMode_31 : decode cX8_takeMode 31 = .ok (.getfield 195, 3) := by decide +kernel
theorem dX8_takeMode_34 : decode cX8_takeMode 34 = .ok (.ifCond .ne 39, 3) := by decide +kernel
theorem dX8_takeMode_37 : decode cX8_takeMode 37 = .ok (.aload_n 0, 1) := by decide +kernel
theorem dX8_takeMode_38 : decode cX8_takeMode 38 = .ok (.getfield 35, 3) := by decide +kernel
theorem dX8_takeMode_41 : decode cX8_takeMode 41 = .ok (.aload_n 0, 1) := by decide +kernel
theorem dX8_takeMode_42 : decode cX8_takeMode 42 = .ok (.getfield 203, 3) := by decide +kernel
theorem dX8_takeMode_45 : decode cX8_takeMode 45 = .ok (.aload_n 0, 1) := by decide +kernel
theorem dX8_takeMode_46 : decode cX8_takeMode 46 = .ok (.invokevirtual 199, 3) := by decide +kernel
theorem dX8_takeMode_49 : decode cX8_takeMode 49 = .ok (.bipush 48, 2) := by decide +kernel
theorem dX8_takeMode_51 : decode cX8_takeMode 51 = .ok (.isub, 1) := by decide +kernel
theorem dX8_takeMode_52 : decode cX8_takeMode 52 = .ok (.iastore, 1) := by decide +kernel
theorem dX8_takeMode_53 : decode cX8_takeMode 53 = .ok (.aload_n 0, 1) := by decide +kernel
theorem dX8_takeMode_54 : decode cX8_takeMode 54 = .ok (.dup, 1) := by decide +kernel
theorem dX8_takeMode_55 : decode cX8_takeMode 55 = .ok (.getfield 203, 3) := by decide +kernel
theorem dX8_takeMode_58 : decode cX8_takeMode 58 = .ok (.iconst 1, 1) := by decide +kernel
theorem dX8_takeMode_59 : decode cX8_takeMode 59 = .ok (.iadd, 1) := by decide +kernel
theorem dX8_takeMode_60 : decode cX8_takeMode 60 = .ok (.putfield 203, 3) := by decide +kernel
theorem dX8_takeMode_63 : decode cX8_takeMode 63 = .ok (.aload_n 0, 1) := by decide +kernel
theorem dX8_takeMode_64 : decode cX8_takeMode 64 = .ok (.dup, 1) := by decide +kernel
theorem dX8_takeMode_65 : decode cX8_takeMode 65 = .ok (.getfield 192, 3) := by decide +kernel
theorem dX8_takeMode_68 : decode cX8_takeMode 68 = .ok (.iconst 1, 1) := by decide +kernel
theorem dX8_takeMode_69 : decode cX8_takeMode 69 = .ok (.iadd, 1) := by decide +kernel
theorem dX8_takeMode_70 : decode cX8_takeMode 70 = .ok (.putfield 192, 3) := by decide +kernel
theorem dX8_takeMode_73 : decode cX8_takeMode 73 = .ok (.return_, 1) := by decide +kernel
theorem dX8_takeOrder_0 : decode cX8_takeOrder 0 = .ok (.aload_n 0, 1) := by decide +kernel
theorem dX8_takeOrder_1 : decode cX8_takeOrder 1 = .ok (.invokevirtual 199, 3) := by decide +kernel
theorem dX8_takeOrder_4 : decode cX8_takeOrder 4 = .ok (.istore_n 1, 1) := by decide +kernel
theorem dX8_takeOrder_5 : decode cX8_takeOrder 5 = .ok (.aload_n 0, 1) := by decide +kernel
theorem dX8_takeOrder_6 : decode cX8_takeOrder 6 = .ok (.dup, 1) := by decide +kernel
theorem dX8_takeOrder_7 : decode cX8_takeOrder 7 = .ok (.getfield 192, 3) := by decide +kernel
theorem dX8_takeOrder_10 : decode cX8_takeOrder 10 = .ok (.iconst 1, 1) := by decide +kernel
theorem dX8_takeOrder_11 : decode cX8_takeOrder 11 = .ok (.iadd, 1) := by decide +kernel
theorem dX8_takeOrder_12 : decode cX8_takeOrder 12 = .ok (.putfield 192, 3) := by decide +kernel
theorem dX8_takeOrder_15 : decode cX8_takeOrder 15 = .ok (.aload_n 0, 1) := by decide +kernel
theorem dX8_takeOrder_16 : decode cX8_takeOrder 16 = .ok (.getfield 32, 3) := by decide +kernel
theorem dX8_takeOrder_19 : decode cX8_takeOrder 19 = .ok (.aload_n 0, 1) := by decide +kernel
theorem dX8_takeOrder_20 : decode cX8_takeOrder 20 = .ok (.getfield 206, 3) := by decide +kernel
theorem dX8_takeOrder_23 : decode cX8_takeOrder 23 = .ok (.aload_n 0, 1) := by decide +kernel
theorem dX8_takeOrder_24 : decode cX8_takeOrder 24 = .ok (.getfield 203, 3) := by decide +kernel
theorem dX8_takeOrder_27 : decode cX8_takeOrder 27 = .ok (.iastore, 1) := by decide +kernel
theorem dX8_takeOrder_28 : decode cX8_takeOrder 28 = .ok (.iload_n 1, 1) := by decide +kernel
theorem dX8_takeOrder_29 : decode cX8_takeOrder 29 = .ok (.lookupswitch 141 #[(102, 43), (106, 90), (108, 107), (116, 134)], 43) := by decide +kernel
theorem dX8_takeOrder_72 : decode cX8_takeOrder 72 = .ok (.aload_n 0, 1) := by decide +kernel
theorem dX8_takeOrder_73 : decode cX8_takeOrder 73 = .ok (.invokevirtual 209, 3) := by decide +kernel
theorem dX8_takeOrder_76 : decode cX8_takeOrder 76 = .ok (.aload_n 0, 1) := by decide +kernel
theorem dX8_takeOrder_77 : decode cX8_takeOrder 77 = .ok (.bipush 58, 2) := by decide +kernel
theorem dX8_takeOrder_79 : decode cX8_takeOrder 79 = .ok (.invokevirtual 212, 3) := by decide +kernel
theorem dX8_takeOrder_82 : decode cX8_takeOrder 82 = .ok (.aload_n 0, 1) := by decide +kernel
theorem dX8_takeOrder_83 : decode cX8_takeOrder 83 = .ok (.invokevirtual 209, 3) := by decide +kernel
theorem dX8_takeOrder_86 : decode cX8_takeOrder 86 = .ok (.aload_n 0, 1) := by decide +kernel
theorem dX8_takeOrder_87 : decode cX8_takeOrder 87 = .ok (.getfield 195, 3) := by decide +kernel
theorem dX8_takeOrder_90 : decode cX8_takeOrder 90 = .ok (.ifCond .ne 95, 3) := by decide +kernel
theorem dX8_takeOrder_93 : decode cX8_takeOrder 93 = .ok (.aload_n 0, 1) := by decide +kernel
theorem dX8_takeOrder_94 : decode cX8_takeOrder 94 = .ok (.invokevirtual 199, 3) := by decide +kernel
theorem dX8_takeOrder_97 : decode cX8_takeOrder 97 = .ok (.bipush 44, 2) := by decide +kernel
theorem dX8_takeOrder_99 : decode cX8_takeOrder 99 = .ok (.if_icmp .ne 86, 3) := by decide +kernel
theorem dX8_takeOrder_102 : decode cX8_takeOrder 102 = .ok (.aload_n 0, 1) := by decide +kernel
theorem dX8_takeOrder_103 : decode cX8_takeOrder 103 = .ok (.dup, 1) := by decide +kernel
theorem dX8_takeOrder_104 : decode cX8_takeOrder 104 = .ok (.getfield 192, 3) := by decide +kernel
theorem dX8_takeOrder_107 : decode cX8_takeOrder 107 = .ok (.iconst 1, 1) := by decide +kernel
theorem dX8_takeOrder_108 : decode cX8_takeOrder 108 = .ok (.iadd, 1) := by decide +kernel
theorem dX8_takeOrder_109 : decode cX8_takeOrder 109 = .ok (.putfield 192, 3) := by decide +kernel
theorem dX8_takeOrder_112 : decode cX8_takeOrder 112 = .ok (.aload_n 0, 1) := by decide +kernel
theorem dX8_takeOrder_113 : decode cX8_takeOrder 113 = .ok (.invokevirtual 209, 3) := by decide +kernel
theorem dX8_takeOrder_116 : decode cX8_takeOrder 116 = .ok (.goto (-30), 3) := by decide +kernel
theorem dX8_takeOrder_119 : decode cX8_takeOrder 119 = .ok (.aload_n 0, 1) := by decide +kernel
theorem dX8_takeOrder_120 : decode cX8_takeOrder 120 = .ok (.invokevirtual 209, 3) := by decide +kernel
theorem dX8_takeOrder_123 : decode cX8_takeOrder 123 = .ok (.aload_n 0, 1) := by decide +kernel
theorem dX8_takeOrder_124 : decode cX8_takeOrder 124 = .ok (.bipush 61, 2) := by decide +kernel
theorem dX8_takeOrder_126 : decode cX8_takeOrder 126 = .ok (.invokevirtual 212, 3) := by decide +kernel
theorem dX8_takeOrder_129 : decode cX8_takeOrder 129 = .ok (.aload_n 0, 1) := by decide +kernel
theorem dX8_takeOrder_130 : decode cX8_takeOrder 130 = .ok (.invokevirtual 215, 3) := by decide +kernel
theorem dX8_takeOrder_133 : decode cX8_takeOrder 133 = .ok (.goto 52, 3) := by decide +kernel
theorem dX8_takeOrder_136 : decode cX8_takeOrder 136 = .ok (.aload_n 0, 1) := by decide +kernel
theorem dX8_takeOrder_137 : decode cX8_takeOrder 137 = .ok (.invokevirtual 209, 3) := by decide +kernel
theorem dX8_takeOrder_140 : decode cX8_takeOrder 140 = .ok (.aload_n 0, 1) := by decide +kernel
theorem dX8_takeOrder_141 : decode cX8_takeOrder 141 = .ok (.bipush 58, 2) := by decide +kernel
theorem dX8_takeOrder_143 : decode cX8_takeOrder 143 = .ok (.invokevirtual 212, 3) := by decide +kernel
theorem dX8_takeOrder_146 : decode cX8_takeOrder 146 = .ok (.aload_n 0, 1) := by decide +kernel
theorem dX8_takeOrder_147 : decode cX8_takeOrder 147 = .ok (.invokevirtual 209, 3) := by decide +kernel
theorem dX8_takeOrder_150 : decode cX8_takeOrder 150 = .ok (.aload_n 0, 1) := by decide +kernel
theorem dX8_takeOrder_151 : decode cX8_takeOrder 151 = .ok (.bipush 61, 2) := by decide +kernel
theorem dX8_takeOrder_153 : decode cX8_takeOrder 153 = .ok (.invokevirtual 212, 3) := by decide +kernel
theorem dX8_takeOrder_156 : decode cX8_takeOrder 156 = .ok (.aload_n 0, 1) := by decide +kernel
theorem dX8_takeOrder_157 : decode cX8_takeOrder 157 = .ok (.invokevirtual 209, 3) := by decide +kernel
theorem dX8_takeOrder_160 : decode cX8_takeOrder 160 = .ok (.goto 25, 3) := by decide +kernel
theorem dX8_takeOrder_163 : decode cX8_takeOrder 163 = .ok (.aload_n 0, 1) := by decide +kernel
theorem dX8_takeOrder_164 : decode cX8_takeOrder 164 = .ok (.invokevirtual 209, 3) := by decide +kernel
theorem dX8_takeOrder_167 : decode cX8_takeOrder 167 = .ok (.goto 18, 3) := by decide +kernel
theorem dX8_takeOrder_170 : decode cX8_takeOrder 170 = .ok (.aload_n 0, 1) := by decide +kernel
theorem dX8_takeOrder_171 : decode cX8_takeOrder 171 = .ok (.dup, 1) := by decide +kernel
theorem dX8_takeOrder_172 : decode cX8_takeOrder 172 = .ok (.getfield 192, 3) := by decide +kernel
theorem dX8_takeOrder_175 : decode cX8_takeOrder 175 = .ok (.iconst 1, 1) := by decide +kernel
theorem dX8_takeOrder_176 : decode cX8_takeOrder 176 = .ok (.isub, 1) := by decide +kernel
theorem dX8_takeOrder_177 : decode cX8_takeOrder 177 = .ok (.putfield 192, 3) := by decide +kernel
theorem dX8_takeOrder_180 : decode cX8_takeOrder 180 = .ok (.aload_n 0, 1) := by decide +kernel
theorem dX8_takeOrder_181 : decode cX8_takeOrder 181 = .ok (.iconst 1, 1) := by decide +kernel
theorem dX8_takeOrder_182 : decode cX8_takeOrder 182 = .ok (.putfield 195, 3) := by decide +kernel
theorem dX8_takeOrder_185 : decode cX8_takeOrder 185 = .ok (.aload_n 0, 1) := by decide +kernel
theorem dX8_takeOrder_186 : decode cX8_takeOrder 186 = .ok (.getfield 195, 3) := by decide +kernel
theorem dX8_takeOrder_189 : decode cX8_takeOrder 189 = .ok (.ifCond .ne 36, 3) := by decide +kernel
theorem dX8_takeOrder_192 : decode cX8_takeOrder 192 = .ok (.aload_n 0, 1) := by decide +kernel
theorem dX8_takeOrder_193 : decode cX8_takeOrder 193 = .ok (.getfield 29, 3) := by decide +kernel
theorem dX8_takeOrder_196 : decode cX8_takeOrder 196 = .ok (.aload_n 0, 1) := by decide +kernel
theorem dX8_takeOrder_197 : decode cX8_takeOrder 197 = .ok (.getfield 206, 3) := by decide +kernel
theorem dX8_takeOrder_200 : decode cX8_takeOrder 200 = .ok (.iload_n 1, 1) := by decide +kernel
theorem dX8_takeOrder_201 : decode cX8_takeOrder 201 = .ok (.iastore, 1) := by decide +kernel
theorem dX8_takeOrder_202 : decode cX8_takeOrder 202 = .ok (.aload_n 0, 1) := by decide +kernel
theorem dX8_takeOrder_203 : decode cX8_takeOrder 203 = .ok (.dup, 1) := by decide +kernel
theorem dX8_takeOrder_204 : decode cX8_takeOrder 204 = .ok (.getfield 206, 3) := by decide +kernel
theorem dX8_takeOrder_207 : decode cX8_takeOrder 207 = .ok (.iconst 1, 1) := by decide +kernel
theorem dX8_takeOrder_208 : decode cX8_takeOrder 208 = .ok (.iadd, 1) := by decide +kernel
theorem dX8_takeOrder_209 : decode cX8_takeOrder 209 = .ok (.putfield 206, 3) := by decide +kernel
theorem dX8_takeOrder_212 : decode cX8_takeOrder 212 = .ok (.aload_n 0, 1) := by decide +kernel
theorem dX8_takeOrder_213 : decode cX8_takeOrder 213 = .ok (.getfield 32, 3) := by decide +kernel
theorem dX8_takeOrder_216 : decode cX8_takeOrder 216 = .ok (.aload_n 0, 1) := by decide +kernel
theorem dX8_takeOrder_217 : decode cX8_takeOrder 217 = .ok (.getfield 206, 3) := by decide +kernel
theorem dX8_takeOrder_220 : decode cX8_takeOrder 220 = .ok (.aload_n 0, 1) := by decide +kernel
theorem dX8_takeOrder_221 : decode cX8_takeOrder 221 = .ok (.getfield 203, 3) := by decide +kernel
theorem dX8_takeOrder_224 : decode cX8_takeOrder 224 = .ok (.iastore, 1) := by decide +kernel
theorem dX8_takeOrder_225 : decode cX8_takeOrder 225 = .ok (.return_, 1) := by decide +kernel
theorem dX8_fault_0 : decode cX8_fault 0 = .ok (.aload_n 0, 1) := by decide +kernel
theorem dX8_fault_1 : decode cX8_fault 1 = .ok (.iconst 0, 1) := by decide +kernel
theorem dX8_fault_2 : decode cX8_fault 2 = .ok (.putfield 192, 3) := by decide +kernel
theorem dX8_fault_5 : decode cX8_fault 5 = .ok (.aload_n 0, 1) := by decide +kernel
theorem dX8_fault_6 : decode cX8_fault 6 = .ok (.iconst 0, 1) := by decide +kernel
theorem dX8_fault_7 : decode cX8_fault 7 = .ok (.putfield 195, 3) := by decide +kernel
theorem dX8_fault_10 : decode cX8_fault 10 = .ok (.aload_n 0, 1) := by decide +kernel
theorem dX8_fault_11 : decode cX8_fault 11 = .ok (.iconst 0, 1) := by decide +kernel
theorem dX8_fault_12 : decode cX8_fault 12 = .ok (.putfield 206, 3) := by decide +kernel
theorem dX8_fault_15 : decode cX8_fault 15 = .ok (.aload_n 0, 1) := by decide +kernel
theorem dX8_fault_16 : decode cX8_fault 16 = .ok (.iconst 0, 1) := by decide +kernel
theorem dX8_fault_17 : decode cX8_fault 17 = .ok (.putfield 203, 3) := by decide +kernel
theorem dX8_fault_20 : decode cX8_fault 20 = .ok (.aload_n 0, 1) := by decide +kernel
theorem dX8_fault_21 : decode cX8_fault 21 = .ok (.invokevirtual 218, 3) := by decide +kernel
theorem dX8_fault_24 : decode cX8_fault 24 = .ok (.aload_n 0, 1) := by decide +kernel
theorem dX8_fault_25 : decode cX8_fault 25 = .ok (.getfield 195, 3) := by decide +kernel
theorem dX8_fault_28 : decode cX8_fault 28 = .ok (.ifCond .ne 34, 3) := by decide +kernel
theorem dX8_fault_31 : decode cX8_fault 31 = .ok (.aload_n 0, 1) := by decide +kernel
theorem dX8_fault_32 : decode cX8_fault 32 = .ok (.getfield 192, 3) := by decide +kernel
theorem dX8_fault_35 : decode cX8_fault 35 = .ok (.aload_n 0, 1) := by decide +kernel
theorem dX8_fault_36 : decode cX8_fault 36 = .ok (.getfield 178, 3) := by decide +kernel
theorem dX8_fault_39 : decode cX8_fault 39 = .ok (.if_icmp .ge 23, 3) := by decide +kernel
theorem dX8_fault_42 : decode cX8_fault 42 = .ok (.aload_n 0, 1) := by decide +kernel
theorem dX8_fault_43 : decode cX8_fault 43 = .ok (.bipush 59, 2) := by decide +kernel
theorem dX8_fault_45 : decode cX8_fault 45 = .ok (.invokevirtual 212, 3) := by decide +kernel
theorem dX8_fault_48 : decode cX8_fault 48 = .ok (.aload_n 0, 1) := by decide +kernel
theorem dX8_fault_49 : decode cX8_fault 49 = .ok (.getfield 195, 3) := by decide +kernel
theorem dX8_fault_52 : decode cX8_fault 52 = .ok (.ifCond .ne (-28), 3) := by decide +kernel
theorem dX8_fault_55 : decode cX8_fault 55 = .ok (.aload_n 0, 1) := by decide +kernel
theorem dX8_fault_56 : decode cX8_fault 56 = .ok (.invokevirtual 218, 3) := by decide +kernel
theorem dX8_fault_59 : decode cX8_fault 59 = .ok (.goto (-35), 3) := by decide +kernel
theorem dX8_fault_62 : decode cX8_fault 62 = .ok (.aload_n 0, 1) := by decide +kernel
theorem dX8_fault_63 : decode cX8_fault 63 = .ok (.getfield 195, 3) := by decide +kernel
theorem dX8_fault_66 : decode cX8_fault 66 = .ok (.ifCond .eq 10, 3) := by decide +kernel
theorem dX8_fault_69 : decode cX8_fault 69 = .ok (.aload_n 0, 1) := by decide +kernel
theorem dX8_fault_70 : decode cX8_fault 70 = .ok (.getfield 192, 3) := by decide +kernel
theorem dX8_fault_73 : decode cX8_fault 73 = .ok (.goto 5, 3) := by decide +kernel
theorem dX8_fault_76 : decode cX8_fault 76 = .ok (.bipush (-6), 2) := by decide +kernel
theorem dX8_fault_78 : decode cX8_fault 78 = .ok (.ireturn, 1) := by decide +kernel
theorem dX8_feedAll_0 : decode cX8_feedAll 0 = .ok (.iconst 0, 1) := by decide +kernel
theorem dX8_feedAll_1 : decode cX8_feedAll 1 = .ok (.istore_n 2, 1) := by decide +kernel
theorem dX8_feedAll_2 : decode cX8_feedAll 2 = .ok (.aload_n 0, 1) := by decide +kernel
theorem dX8_feedAll_3 : decode cX8_feedAll 3 = .ok (.getfield 32, 3) := by decide +kernel
theorem dX8_feedAll_6 : decode cX8_feedAll 6 = .ok (.iload_n 1, 1) := by decide +kernel
theorem dX8_feedAll_7 : decode cX8_feedAll 7 = .ok (.iaload, 1) := by decide +kernel
theorem dX8_feedAll_8 : decode cX8_feedAll 8 = .ok (.iconst 1, 1) := by decide +kernel
theorem dX8_feedAll_9 : decode cX8_feedAll 9 = .ok (.iadd, 1) := by decide +kernel
theorem dX8_feedAll_10 : decode cX8_feedAll 10 = .ok (.istore_n 3, 1) := by decide +kernel
theorem dX8_feedAll_11 : decode cX8_feedAll 11 = .ok (.iload_n 3, 1) := by decide +kernel
theorem dX8_feedAll_12 : decode cX8_feedAll 12 = .ok (.aload_n 0, 1) := by decide +kernel
theorem dX8_feedAll_13 : decode cX8_feedAll 13 = .ok (.getfield 32, 3) := by decide +kernel
theorem dX8_feedAll_16 : decode cX8_feedAll 16 = .ok (.iload_n 1, 1) := by decide +kernel
theorem dX8_feedAll_17 : decode cX8_feedAll 17 = .ok (.iconst 1, 1) := by decide +kernel
theorem dX8_feedAll_18 : decode cX8_feedAll 18 = .ok (.iadd, 1) := by decide +kernel
theorem dX8_feedAll_19 : decode cX8_feedAll 19 = .ok (.iaload, 1) := by decide +kernel
theorem dX8_feedAll_20 : decode cX8_feedAll 20 = .ok (.if_icmp .ge 36, 3) := by decide +kernel
theorem dX8_feedAll_23 : decode cX8_feedAll 23 = .ok (.iload_n 2, 1) := by decide +kernel
theorem dX8_feedAll_24 : decode cX8_feedAll 24 = .ok (.ifCond .lt 32, 3) := by decide +kernel
theorem dX8_feedAll_27 : decode cX8_feedAll 27 = .ok (.aload_n 0, 1) := by decide +kernel
theorem dX8_feedAll_28 : decode cX8_feedAll 28 = .ok (.aload_n 0, 1) := by decide +kernel
theorem dX8_feedAll_29 : decode cX8_feedAll 29 = .ok (.getfield 35, 3) := by decide +kernel
theorem dX8_feedAll_32 : decode cX8_feedAll 32 = .ok (.aload_n 0, 1) := by decide +kernel
theorem dX8_feedAll_33 : decode cX8_feedAll 33 = .ok (.getfield 32, 3) := by decide +kernel
theorem dX8_feedAll_36 : decode cX8_feedAll 36 = .ok (.iload_n 1, 1) := by decide +kernel
theorem dX8_feedAll_37 : decode cX8_feedAll 37 = .ok (.iaload, 1) := by decide +kernel
theorem dX8_feedAll_38 : decode cX8_feedAll 38 = .ok (.iaload, 1) := by decide +kernel
theorem dX8_feedAll_39 : decode cX8_feedAll 39 = .ok (.aload_n 0, 1) := by decide +kernel
theorem dX8_feedAll_40 : decode cX8_feedAll 40 = .ok (.getfield 35, 3) := by decide +kernel
theorem dX8_feedAll_43 : decode cX8_feedAll 43 = .ok (.iload_n 3, 1) := by decide +kernel
theorem dX8_feedAll_44 : decode cX8_feedAll 44 = .ok (.iaload, 1) := by decide +kernel
theorem dX8_feedAll_45 : decode cX8_feedAll 45 = .ok (.iconst 0, 1) := by decide +kernel
theorem dX8_feedAll_46 : decode cX8_feedAll 46 = .ok (.invokevirtual 152, 3) := by decide +kernel
theorem dX8_feedAll_49 : decode cX8_feedAll 49 = .ok (.istore_n 2, 1) := by decide +kernel
theorem dX8_feedAll_50 : decode cX8_feedAll 50 = .ok (.iinc 3 1, 3) := by decide +kernel
theorem dX8_feedAll_53 : decode cX8_feedAll 53 = .ok (.goto (-42), 3) := by decide +kernel
theorem dX8_feedAll_56 : decode cX8_feedAll 56 = .ok (.iload_n 2, 1) := by decide +kernel
theorem dX8_feedAll_57 : decode cX8_feedAll 57 = .ok (.ireturn, 1) := by decide +kernel
theorem dX8_carry_0 : decode cX8_carry 0 = .ok (.aload_n 0, 1) := by decide +kernel
theorem dX8_carry_1 : decode cX8_carry 1 = .ok (.getfield 32, 3) := by decide +kernel
theorem dX8_carry_4 : decode cX8_carry 4 = .ok (.iload_n 1, 1) := by decide +kernel
theorem dX8_carry_5 : decode cX8_carry 5 = .ok (.iaload, 1) := by decide +kernel
theorem dX8_carry_6 : decode cX8_carry 6 = .ok (.istore_n 2, 1) := by decide +kernel
theorem dX8_carry_7 : decode cX8_carry 7 = .ok (.aload_n 0, 1) := by decide +kernel
theorem dX8_carry_8 : decode cX8_carry 8 = .ok (.getfield 29, 3) := by decide +kernel
theorem dX8_carry_11 : decode cX8_carry 11 = .ok (.iload_n 1, 1) := by decide +kernel
theorem dX8_carry_12 : decode cX8_carry 12 = .ok (.iaload, 1) := by decide +kernel
theorem dX8_carry_13 : decode cX8_carry 13 = .ok (.lookupswitch 89 #[(102, 35), (106, 41), (108, 61)], 35) := by decide +kernel
theorem dX8_carry_48 : decode cX8_carry 48 = .ok (.aload_n 0, 1) := by decide +kernel
theorem dX8_carry_49 : decode cX8_carry 49 = .ok (.iload_n 1, 1) := by decide +kernel
theorem dX8_carry_50 : decode cX8_carry 50 = .ok (.invokevirtual 221, 3) := by decide +kernel
theorem dX8_carry_53 : decode cX8_carry 53 = .ok (.ireturn, 1) := by decide +kernel
theorem dX8_carry_54 : decode cX8_carry 54 = .ok (.aload_n 0, 1) := by decide +kernel
theorem dX8_carry_55 : decode cX8_carry 55 = .ok (.aload_n 0, 1) := by decide +kernel
theorem dX8_carry_56 : decode cX8_carry 56 = .ok (.getfield 35, 3) := by decide +kernel
theorem dX8_carry_59 : decode cX8_carry 59 = .ok (.iload_n 2, 1) := by decide +kernel
theorem dX8_carry_60 : decode cX8_carry 60 = .ok (.iaload, 1) := by decide +kernel
theorem dX8_carry_61 : decode cX8_carry 61 = .ok (.aload_n 0, 1) := by decide +kernel
theorem dX8_carry_62 : decode cX8_carry 62 = .ok (.getfield 35, 3) := by decide +kernel
theorem dX8_carry_65 : decode cX8_carry 65 = .ok (.iload_n 2, 1) := by decide +kernel
theorem dX8_carry_66 : decode cX8_carry 66 = .ok (.iconst 1, 1) := by decide +kernel
theorem dX8_carry_67 : decode cX8_carry 67 = .ok (.iadd, 1) := by decide +kernel
theorem dX8_carry_68 : decode cX8_carry 68 = .ok (.iaload, 1) := by decide +kernel
theorem dX8_carry_69 : decode cX8_carry 69 = .ok (.iconst 0, 1) := by decide +kernel
theorem dX8_carry_70 : decode cX8_carry 70 = .ok (.invokevirtual 145, 3) := by decide +kernel
theorem dX8_carry_73 : decode cX8_carry 73 = .ok (.ireturn, 1) := by decide +kernel
theorem dX8_carry_74 : decode cX8_carry 74 = .ok (.aload_n 0, 1) := by decide +kernel
theorem dX8_carry_75 : decode cX8_carry 75 = .ok (.aload_n 0, 1) := by decide +kernel
theorem dX8_carry_76 : decode cX8_carry 76 = .ok (.getfield 35, 3) := by decide +kernel
theorem dX8_carry_79 : decode cX8_carry 79 = .ok (.iload_n 2, 1) := by decide +kernel
theorem dX8_carry_80 : decode cX8_carry 80 = .ok (.iaload, 1) := by decide +kernel
theorem dX8_carry_81 : decode cX8_carry 81 = .ok (.aload_n 0, 1) := by decide +kernel
theorem dX8_carry_82 : decode cX8_carry 82 = .ok (.getfield 35, 3) := by decide +kernel
theorem dX8_carry_85 : decode cX8_carry 85 = .ok (.iload_n 2, 1) := by decide +kernel
theorem dX8_carry_86 : decode cX8_carry 86 = .ok (.iconst 1, 1) := by decide +kernel
theorem dX8_carry_87 : decode cX8_carry 87 = .ok (.iadd, 1) := by decide +kernel
theorem dX8_carry_88 : decode cX8_carry 88 = .ok (.iaload, 1) := by decide +kernel
theorem dX8_carry_89 : decode cX8_carry 89 = .ok (.aload_n 0, 1) := by decide +kernel
theorem dX8_carry_90 : decode cX8_carry 90 = .ok (.getfield 35, 3) := by decide +kernel
theorem dX8_carry_93 : decode cX8_carry 93 = .ok (.iload_n 2, 1) := by decide +kernel
theorem dX8_carry_94 : decode cX8_carry 94 = .ok (.iconst 2, 1) := by decide +kernel
theorem dX8_carry_95 : decode cX8_carry 95 = .ok (.iadd, 1) := by decide +kernel
theorem dX8_carry_96 : decode cX8_carry 96 = .ok (.iaload, 1) := by decide +kernel
theorem dX8_carry_97 : decode cX8_carry 97 = .ok (.iconst 0, 1) := by decide +kernel
theorem dX8_carry_98 : decode cX8_carry 98 = .ok (.invokevirtual 158, 3) := by decide +kernel
theorem dX8_carry_101 : decode cX8_carry 101 = .ok (.ireturn, 1) := by decide +kernel
theorem dX8_carry_102 : decode cX8_carry 102 = .ok (.aload_n 0, 1) := by decide +kernel
theorem dX8_carry_103 : decode cX8_carry 103 = .ok (.aload_n 0, 1) := by decide +kernel
theorem dX8_carry_104 : decode cX8_carry 104 = .ok (.getfield 35, 3) := by decide +kernel
theorem dX8_carry_107 : decode cX8_carry 107 = .ok (.iload_n 2, 1) := by decide +kernel
theorem dX8_carry_108 : decode cX8_carry 108 = .ok (.iaload, 1) := by decide +kernel
theorem dX8_carry_109 : decode cX8_carry 109 = .ok (.iconst 0, 1) := by decide +kernel
theorem dX8_carry_110 : decode cX8_carry 110 = .ok (.invokevirtual 165, 3) := by decide +kernel
theorem dX8_carry_113 : decode cX8_carry 113 = .ok (.ireturn, 1) := by decide +kernel
theorem dX8_carryOut_0 : decode cX8_carryOut 0 = .ok (.aload_n 0, 1) := by decide +kernel
theorem dX8_carryOut_1 : decode cX8_carryOut 1 = .ok (.invokevirtual 224, 3) := by decide +kernel
theorem dX8_carryOut_4 : decode cX8_carryOut 4 = .ok (.ifCond .lt 6, 3) := by decide +kernel
theorem dX8_carryOut_7 : decode cX8_carryOut 7 = .ok (.bipush (-3), 2) := by decide +kernel
theorem dX8_carryOut_9 : decode cX8_carryOut 9 = .ok (.ireturn, 1) := by decide +kernel
theorem dX8_carryOut_10 : decode cX8_carryOut 10 = .ok (.aload_n 0, 1) := by decide +kernel
theorem dX8_carryOut_11 : decode cX8_carryOut 11 = .ok (.invokevirtual 57, 3) := by decide +kernel
theorem dX8_carryOut_14 : decode cX8_carryOut 14 = .ok (.iconst 0, 1) := by decide +kernel
theorem dX8_carryOut_15 : decode cX8_carryOut 15 = .ok (.istore_n 1, 1) := by decide +kernel
theorem dX8_carryOut_16 : decode cX8_carryOut 16 = .ok (.iload_n 1, 1) := by decide +kernel
theorem dX8_carryOut_17 : decode cX8_carryOut 17 = .ok (.aload_n 0, 1) := by decide +kernel
theorem dX8_carryOut_18 : decode cX8_carryOut 18 = .ok (.getfield 206, 3) := by decide +kernel
theorem dX8_carryOut_21 : decode cX8_carryOut 21 = .ok (.if_icmp .ge 17, 3) := by decide +kernel
theorem dX8_carryOut_24 : decode cX8_carryOut 24 = .ok (.aload_n 0, 1) := by decide +kernel
theorem dX8_carryOut_25 : decode cX8_carryOut 25 = .ok (.iload_n 1, 1) := by decide +kernel
theorem dX8_carryOut_26 : decode cX8_carryOut 26 = .ok (.invokevirtual 227, 3) := by decide +kernel
theorem dX8_carryOut_29 : decode cX8_carryOut 29 = .ok (.ifCond .lt 9, 3) := by decide +kernel
theorem dX8_carryOut_32 : decode cX8_carryOut 32 = .ok (.iinc 1 1, 3) := by decide +kernel
theorem dX8_carryOut_35 : decode cX8_carryOut 35 = .ok (.goto (-19), 3) := by decide +kernel
theorem dX8_carryOut_38 : decode cX8_carryOut 38 = .ok (.aload_n 0, 1) := by decide +kernel
theorem dX8_carryOut_39 : decode cX8_carryOut 39 = .ok (.iconst 0, 1) := by decide +kernel
theorem dX8_carryOut_40 : decode cX8_carryOut 40 = .ok (.putfield 178, 3) := by decide +kernel
theorem dX8_carryOut_43 : decode cX8_carryOut 43 = .ok (.iload_n 1, 1) := by decide +kernel
theorem dX8_carryOut_44 : decode cX8_carryOut 44 = .ok (.ireturn, 1) := by decide +kernel
theorem dX8_undo_0 : decode cX8_undo 0 = .ok (.aload_n 0, 1) := by decide +kernel
theorem dX8_undo_1 : decode cX8_undo 1 = .ok (.getfield 50, 3) := by decide +kernel
theorem dX8_undo_4 : decode cX8_undo 4 = .ok (.ifCond .ne 6, 3) := by decide +kernel
theorem dX8_undo_7 : decode cX8_undo 7 = .ok (.bipush (-5), 2) := by decide +kernel
theorem dX8_undo_9 : decode cX8_undo 9 = .ok (.ireturn, 1) := by decide +kernel
theorem dX8_undo_10 : decode cX8_undo 10 = .ok (.aload_n 0, 1) := by decide +kernel
theorem dX8_undo_11 : decode cX8_undo 11 = .ok (.dup, 1) := by decide +kernel
theorem dX8_undo_12 : decode cX8_undo 12 = .ok (.getfield 50, 3) := by decide +kernel
theorem dX8_undo_15 : decode cX8_undo 15 = .ok (.iconst 1, 1) := by decide +kernel
theorem dX8_undo_16 : decode cX8_undo 16 = .ok (.isub, 1) := by decide +kernel
theorem dX8_undo_17 : decode cX8_undo 17 = .ok (.putfield 50, 3) := by decide +kernel
theorem dX8_undo_20 : decode cX8_undo 20 = .ok (.aload_n 0, 1) := by decide +kernel
theorem dX8_undo_21 : decode cX8_undo 21 = .ok (.getfield 54, 3) := by decide +kernel
theorem dX8_undo_24 : decode cX8_undo 24 = .ok (.aload_n 0, 1) := by decide +kernel
theorem dX8_undo_25 : decode cX8_undo 25 = .ok (.getfield 50, 3) := by decide +kernel
theorem dX8_undo_28 : decode cX8_undo 28 = .ok (.iadd, 1) := by decide +kernel
theorem dX8_undo_29 : decode cX8_undo 29 = .ok (.bipush 6, 2) := by decide +kernel
theorem dX8_undo_31 : decode cX8_undo 31 = .ok (.irem, 1) := by decide +kernel
theorem dX8_undo_32 : decode cX8_undo 32 = .ok (.istore_n 1, 1) := by decide +kernel
theorem dX8_undo_33 : decode cX8_undo 33 = .ok (.iconst 0, 1) := by decide +kernel
theorem dX8_undo_34 : decode cX8_undo 34 = .ok (.istore_n 2, 1) := by decide +kernel
theorem dX8_undo_35 : decode cX8_undo 35 = .ok (.iload_n 2, 1) := by decide +kernel
theorem dX8_undo_36 : decode cX8_undo 36 = .ok (.sipush 770, 3) := by decide +kernel
theorem dX8_undo_39 : decode cX8_undo 39 = .ok (.if_icmp .ge 27, 3) := by decide +kernel
theorem dX8_undo_42 : decode cX8_undo 42 = .ok (.aload_n 0, 1) := by decide +kernel
theorem dX8_undo_43 : decode cX8_undo 43 = .ok (.getfield 7, 3) := by decide +kernel
theorem dX8_undo_46 : decode cX8_undo 46 = .ok (.iload_n 2, 1) := by decide +kernel
theorem dX8_undo_47 : decode cX8_undo 47 = .ok (.aload_n 0, 1) := by decide +kernel
theorem dX8_undo_48 : decode cX8_undo 48 = .ok (.getfield 13, 3) := by decide +kernel
theorem dX8_undo_51 : decode cX8_undo 51 = .ok (.sipush 770, 3) := by decide +kernel
theorem dX8_undo_54 : decode cX8_undo 54 = .ok (.iload_n 1, 1) := by decide +kernel
theorem dX8_undo_55 : decode cX8_undo 55 = .ok (.imul, 1) := by decide +kernel
theorem dX8_undo_56 : decode cX8_undo 56 = .ok (.iload_n 2, 1) := by decide +kernel
theorem dX8_undo_57 : decode cX8_undo 57 = .ok (.iadd, 1) := by decide +kernel
theorem dX8_undo_58 : decode cX8_undo 58 = .ok (.iaload, 1) := by decide +kernel
theorem dX8_undo_59 : decode cX8_undo 59 = .ok (.iastore, 1) := by decide +kernel
theorem dX8_undo_60 : decode cX8_undo 60 = .ok (.iinc 2 1, 3) := by decide +kernel
theorem dX8_undo_63 : decode cX8_undo 63 = .ok (.goto (-28), 3) := by decide +kernel
theorem dX8_undo_66 : decode cX8_undo 66 = .ok (.aload_n 0, 1) := by decide +kernel
theorem dX8_undo_67 : decode cX8_undo 67 = .ok (.getfield 50, 3) := by decide +kernel
theorem dX8_undo_70 : decode cX8_undo 70 = .ok (.ireturn, 1) := by decide +kernel
theorem dX8_save_0 : decode cX8_save 0 = .ok (.iload_n 1, 1) := by decide +kernel
theorem dX8_save_1 : decode cX8_save 1 = .ok (.iconst 0, 1) := by decide +kernel
theorem dX8_save_2 : decode cX8_save 2 = .ok (.iconst 1, 1) := by decide +kernel
theorem dX8_save_3 : decode cX8_save 3 = .ok (.invokestatic 38, 3) := by decide +kernel
theorem dX8_save_6 : decode cX8_save 6 = .ok (.ifCond .ne 6, 3) := by decide +kernel
theorem dX8_save_9 : decode cX8_save 9 = .ok (.bipush (-2), 2) := by decide +kernel
theorem dX8_save_11 : decode cX8_save 11 = .ok (.ireturn, 1) := by decide +kernel
theorem dX8_save_12 : decode cX8_save 12 = .ok (.iconst 0, 1) := by decide +kernel
theorem dX8_save_13 : decode cX8_save 13 = .ok (.istore_n 2, 1) := by decide +kernel
theorem dX8_save_14 : decode cX8_save 14 = .ok (.iload_n 2, 1) := by decide +kernel
theorem dX8_save_15 : decode cX8_save 15 = .ok (.sipush 770, 3) := by decide +kernel
theorem dX8_save_18 : decode cX8_save 18 = .ok (.if_icmp .ge 27, 3) := by decide +kernel
theorem dX8_save_21 : decode cX8_save 21 = .ok (.aload_n 0, 1) := by decide +kernel
theorem dX8_save_22 : decode cX8_save 22 = .ok (.getfield 16, 3) := by decide +kernel
theorem dX8_save_25 : decode cX8_save 25 = .ok (.sipush 770, 3) := by decide +kernel
theorem dX8_save_28 : decode cX8_save 28 = .ok (.iload_n 1, 1) := by decide +kernel
theorem dX8_save_29 : decode cX8_save 29 = .ok (.imul, 1) := by decide +kernel
theorem dX8_save_30 : decode cX8_save 30 = .ok (.iload_n 2, 1) := by decide +kernel
theorem dX8_save_31 : decode cX8_save 31 = .ok (.iadd, 1) := by decide +kernel
theorem dX8_save_32 : decode cX8_save 32 = .ok (.aload_n 0, 1) := by decide +kernel
theorem dX8_save_33 : decode cX8_save 33 = .ok (.getfield 7, 3) := by decide +kernel
theorem dX8_save_36 : decode cX8_save 36 = .ok (.iload_n 2, 1) := by decide +kernel
theorem dX8_save_37 : decode cX8_save 37 = .ok (.iaload, 1) := by decide +kernel
theorem dX8_save_38 : decode cX8_save 38 = .ok (.iastore, 1) := by decide +kernel
theorem dX8_save_39 : decode cX8_save 39 = .ok (.iinc 2 1, 3) := by decide +kernel
theorem dX8_save_42 : decode cX8_save 42 = .ok (.goto (-28), 3) := by decide +kernel
theorem dX8_save_45 : decode cX8_save 45 = .ok (.aload_n 0, 1) := by decide +kernel
theorem dX8_save_46 : decode cX8_save 46 = .ok (.getfield 19, 3) := by decide +kernel
theorem dX8_save_49 : decode cX8_save 49 = .ok (.iload_n 1, 1) := by decide +kernel
theorem dX8_save_50 : decode cX8_save 50 = .ok (.iconst 1, 1) := by decide +kernel
theorem dX8_save_51 : decode cX8_save 51 = .ok (.bastore, 1) := by decide +kernel
theorem dX8_save_52 : decode cX8_save 52 = .ok (.aload_n 0, 1) := by decide +kernel
theorem dX8_save_53 : decode cX8_save 53 = .ok (.getfield 7, 3) := by decide +kernel
theorem dX8_save_56 : decode cX8_save 56 = .ok (.iconst 4, 1) := by decide +kernel
theorem dX8_save_57 : decode cX8_save 57 = .ok (.iaload, 1) := by decide +kernel
theorem dX8_save_58 : decode cX8_save 58 = .ok (.ireturn, 1) := by decide +kernel
theorem dX8_restore_0 : decode cX8_restore 0 = .ok (.iload_n 1, 1) := by decide +kernel
theorem dX8_restore_1 : decode cX8_restore 1 = .ok (.iconst 0, 1) := by decide +kernel
theorem dX8_restore_2 : decode cX8_restore 2 = .ok (.iconst 1, 1) := by decide +kernel
theorem dX8_restore_3 : decode cX8_restore 3 = .ok (.invokestatic 38, 3) := by decide +kernel
theorem dX8_restore_6 : decode cX8_restore 6 = .ok (.ifCond .ne 6, 3) := by decide +kernel
theorem dX8_restore_9 : decode cX8_restore 9 = .ok (.bipush (-2), 2) := by decide +kernel
theorem dX8_restore_11 : decode cX8_restore 11 = .ok (.ireturn, 1) := by decide +kernel
theorem dX8_restore_12 : decode cX8_restore 12 = .ok (.aload_n 0, 1) := by decide +kernel
theorem dX8_restore_13 : decode cX8_restore 13 = .ok (.getfield 19, 3) := by decide +kernel
theorem dX8_restore_16 : decode cX8_restore 16 = .ok (.iload_n 1, 1) := by decide +kernel
theorem dX8_restore_17 : decode cX8_restore 17 = .ok (.baload, 1) := by decide +kernel
theorem dX8_restore_18 : decode cX8_restore 18 = .ok (.ifCond .ne 6, 3) := by decide +kernel
theorem dX8_restore_21 : decode cX8_restore 21 = .ok (.bipush (-5), 2) := by decide +kernel
theorem dX8_restore_23 : decode cX8_restore 23 = .ok (.ireturn, 1) := by decide +kernel
theorem dX8_restore_24 : decode cX8_restore 24 = .ok (.aload_n 0, 1) := by decide +kernel
theorem dX8_restore_25 : decode cX8_restore 25 = .ok (.invokevirtual 57, 3) := by decide +kernel
theorem dX8_restore_28 : decode cX8_restore 28 = .ok (.iconst 0, 1) := by decide +kernel
theorem dX8_restore_29 : decode cX8_restore 29 = .ok (.istore_n 2, 1) := by decide +kernel
theorem dX8_restore_30 : decode cX8_restore 30 = .ok (.iload_n 2, 1) := by decide +kernel
theorem dX8_restore_31 : decode cX8_restore 31 = .ok (.sipush 770, 3) := by decide +kernel
theorem dX8_restore_34 : decode cX8_restore 34 = .ok (.if_icmp .ge 27, 3) := by decide +kernel
theorem dX8_restore_37 : decode cX8_restore 37 = .ok (.aload_n 0, 1) := by decide +kernel
theorem dX8_restore_38 : decode cX8_restore 38 = .ok (.getfield 7, 3) := by decide +kernel
theorem dX8_restore_41 : decode cX8_restore 41 = .ok (.iload_n 2, 1) := by decide +kernel
theorem dX8_restore_42 : decode cX8_restore 42 = .ok (.aload_n 0, 1) := by decide +kernel
theorem dX8_restore_43 : decode cX8_restore 43 = .ok (.getfield 16, 3) := by decide +kernel
theorem dX8_restore_46 : decode cX8_restore 46 = .ok (.sipush 770, 3) := by decide +kernel
theorem dX8_restore_49 : decode cX8_restore 49 = .ok (.iload_n 1, 1) := by decide +kernel
theorem dX8_restore_50 : decode cX8_restore 50 = .ok (.imul, 1) := by decide +kernel
theorem dX8_restore_51 : decode cX8_restore 51 = .ok (.iload_n 2, 1) := by decide +kernel
theorem dX8_restore_52 : decode cX8_restore 52 = .ok (.iadd, 1) := by decide +kernel
theorem dX8_restore_53 : decode cX8_restore 53 = .ok (.iaload, 1) := by decide +kernel
theorem dX8_restore_54 : decode cX8_restore 54 = .ok (.iastore, 1) := by decide +kernel
theorem dX8_restore_55 : decode cX8_restore 55 = .ok (.iinc 2 1, 3) := by decide +kernel
theorem dX8_restore_58 : decode cX8_restore 58 = .ok (.goto (-28), 3) := by decide +kernel
theorem dX8_restore_61 : decode cX8_restore 61 = .ok (.aload_n 0, 1) := by decide +kernel
theorem dX8_restore_62 : decode cX8_restore 62 = .ok (.getfield 7, 3) := by decide +kernel
theorem dX8_restore_65 : decode cX8_restore 65 = .ok (.iconst 4, 1) := by decide +kernel
theorem dX8_restore_66 : decode cX8_restore 66 = .ok (.iaload, 1) := by decide +kernel
theorem dX8_restore_67 : decode cX8_restore 67 = .ok (.ireturn, 1) := by decide +kernel
end
section
theorem dL_law_0 : decode cL_law 0 = .ok (.new 7, 3) := by decide +kernel
theorem dL_law_3 : decode cL_law 3 = .ok (.dup, 1) := by decide +kernel
theorem dL_law_4 : decode cL_law 4 = .ok (.invokespecial 9, 3) := by decide +kernel
theorem dL_law_7 : decode cL_law 7 = .ok (.astore_n 1, 1) := by decide +kernel
theorem dL_law_8 : decode cL_law 8 = .ok (.new 10, 3) := by decide +kernel
theorem dL_law_11 : decode cL_law 11 = .ok (.dup, 1) := by decide +kernel
theorem dL_law_12 : decode cL_law 12 = .ok (.invokespecial 12, 3) := by decide +kernel
theorem dL_law_15 : decode cL_law 15 = .ok (.astore_n 2, 1) := by decide +kernel
theorem dL_law_16 : decode cL_law 16 = .ok (.iconst 0, 1) := by decide +kernel
theorem dL_law_17 : decode cL_law 17 = .ok (.istore_n 3, 1) := by decide +kernel
theorem dL_law_18 : decode cL_law 18 = .ok (.iload_n 3, 1) := by decide +kernel
theorem dL_law_19 : decode cL_law 19 = .ok (.aload_n 0, 1) := by decide +kernel
theorem dL_law_20 : decode cL_law 20 = .ok (.arraylength, 1) := by decide +kernel
theorem dL_law_21 : decode cL_law 21 = .ok (.bipush 6, 2) := by decide +kernel
theorem dL_law_23 : decode cL_law 23 = .ok (.isub, 1) := by decide +kernel
theorem dL_law_24 : decode cL_law 24 = .ok (.if_icmp .gt 969, 3) := by decide +kernel
theorem dL_law_27 : decode cL_law 27 = .ok (.aload_n 0, 1) := by decide +kernel
theorem dL_law_28 : decode cL_law 28 = .ok (.iload_n 3, 1) := by decide +kernel
theorem dL_law_29 : decode cL_law 29 = .ok (.iaload, 1) := by decide +kernel
theorem dL_law_30 : decode cL_law 30 = .ok (.bipush 31, 2) := by decide +kernel
theorem dL_law_32 : decode cL_law 32 = .ok (.iand, 1) := by decide +kernel
theorem dL_law_33 : decode cL_law 33 = .ok (.tableswitch 954 0 26 #[123, 156, 179, 242, 295, 328, 361, 404, 427, 470, 503, 536, 569, 602, 635, 658, 701, 724, 737, 790, 803, 856, 869, 882, 895, 908, 931], 123) := by decide +kernel
theorem dL_law_156 : decode cL_law 156 = .ok (.aload_n 1, 1) := by decide +kernel
theorem dL_law_157 : decode cL_law 157 = .ok (.aload_n 0, 1) := by decide +kernel
theorem dL_law_158 : decode cL_law 158 = .ok (.iload_n 3, 1) := by decide +kernel
theorem dL_law_159 : decode cL_law 159 = .ok (.iconst 1, 1) := by decide +kernel
theorem dL_law_160 : decode cL_law 160 = .ok (.iadd, 1) := by decide +kernel
theorem dL_law_161 : decode cL_law 161 = .ok (.iaload, 1) := by decide +kernel
theorem dL_law_162 : decode cL_law 162 = .ok (.aload_n 0, 1) := by decide +kernel
theorem dL_law_163 : decode cL_law 163 = .ok (.iload_n 3, 1) := by decide +kernel
theorem dL_law_164 : decode cL_law 164 = .ok (.iconst 2, 1) := by decide +kernel
theorem dL_law_165 : decode cL_law 165 = .ok (.iadd, 1) := by decide +kernel
theorem dL_law_166 : decode cL_law 166 = .ok (.iaload, 1) := by decide +kernel
theorem dL_law_167 : decode cL_law 167 = .ok (.invokevirtual 13, 3) := by decide +kernel
theorem dL_law_170 : decode cL_law 170 = .ok (.aload_n 2, 1) := by decide +kernel
theorem dL_law_171 : decode cL_law 171 = .ok (.aload_n 0, 1) := by decide +kernel
theorem dL_law_172 : decode cL_law 172 = .ok (.iload_n 3, 1) := by decide +kernel
theorem dL_law_173 : decode cL_law 173 = .ok (.iconst 1, 1) := by decide +kernel
theorem dL_law_174 : decode cL_law 174 = .ok (.iadd, 1) := by decide +kernel
theorem dL_law_175 : decode cL_law 175 = .ok (.iaload, 1) := by decide +kernel
theorem dL_law_176 : decode cL_law 176 = .ok (.aload_n 0, 1) := by decide +kernel
theorem dL_law_177 : decode cL_law 177 = .ok (.iload_n 3, 1) := by decide +kernel
theorem dL_law_178 : decode cL_law 178 = .ok (.iconst 2, 1) := by decide +kernel
theorem dL_law_179 : decode cL_law 179 = .ok (.iadd, 1) := by decide +kernel
theorem dL_law_180 : decode cL_law 180 = .ok (.iaload, 1) := by decide +kernel
theorem dL_law_181 : decode cL_law 181 = .ok (.invokevirtual 17, 3) := by decide +kernel
theorem dL_law_184 : decode cL_law 184 = .ok (.if_icmp .eq 803, 3) := by decide +kernel
theorem dL_law_187 : decode cL_law 187 = .ok (.iconst 0, 1) := by decide +kernel
theorem dL_law_188 : decode cL_law 188 = .ok (.ireturn, 1) := by decide +kernel
theorem dL_law_189 : decode cL_law 189 = .ok (.aload_n 1, 1) := by decide +kernel
theorem dL_law_190 : decode cL_law 190 = .ok (.aload_n 0, 1) := by decide +kernel
theorem dL_law_191 : decode cL_law 191 = .ok (.iload_n 3, 1) := by decide +kernel
theorem dL_law_192 : decode cL_law 192 = .ok (.iconst 1, 1) := by decide +kernel
theorem dL_law_193 : decode cL_law 193 = .ok (.iadd, 1) := by decide +kernel
theorem dL_law_194 : decode cL_law 194 = .ok (.iaload, 1) := by decide +kernel
theorem dL_law_195 : decode cL_law 195 = .ok (.invokevirtual 18, 3) := by decide +kernel
theorem dL_law_198 : decode cL_law 198 = .ok (.aload_n 2, 1) := by decide +kernel
theorem dL_law_199 : decode cL_law 199 = .ok (.aload_n 0, 1) := by decide +kernel
theorem dL_law_200 : decode cL_law 200 = .ok (.iload_n 3, 1) := by decide +kernel
theorem dL_law_201 : decode cL_law 201 = .ok (.iconst 1, 1) := by decide +kernel
theorem dL_law_202 : decode cL_law 202 = .ok (.iadd, 1) := by decide +kernel
theorem dL_law_203 : decode cL_law 203 = .ok (.iaload, 1) := by decide +kernel
theorem dL_law_204 : decode cL_law 204 = .ok (.invokevirtual 22, 3) := by decide +kernel
theorem dL_law_207 : decode cL_law 207 = .ok (.if_icmp .eq 780, 3) := by decide +kernel
theorem dL_law_210 : decode cL_law 210 = .ok (.iconst 0, 1) := by decide +kernel
theorem dL_law_211 : decode cL_law 211 = .ok (.ireturn, 1) := by decide +kernel
theorem dL_law_212 : decode cL_law 212 = .ok (.aload_n 1, 1) := by decide +kernel
theorem dL_law_213 : decode cL_law 213 = .ok (.aload_n 0, 1) := by decide +kernel
theorem dL_law_214 : decode cL_law 214 = .ok (.iload_n 3, 1) := by decide +kernel
theorem dL_law_215 : decode cL_law 215 = .ok (.iconst 1, 1) := by decide +kernel
theorem dL_law_216 : decode cL_law 216 = .ok (.iadd, 1) := by decide +kernel
theorem dL_law_217 : decode cL_law 217 = .ok (.iaload, 1) := by decide +kernel
theorem dL_law_218 : decode cL_law 218 = .ok (.aload_n 0, 1) := by decide +kernel
theorem dL_law_219 : decode cL_law 219 = .ok (.iload_n 3, 1) := by decide +kernel
theorem dL_law_220 : decode cL_law 220 = .ok (.iconst 2, 1) := by decide +kernel
theorem dL_law_221 : decode cL_law 221 = .ok (.iadd, 1) := by decide +kernel
theorem dL_law_222 : decode cL_law 222 = .ok (.iaload, 1) := by decide +kernel
theorem dL_law_223 : decode cL_law 223 = .ok (.aload_n 0, 1) := by decide +kernel
theorem dL_law_224 : decode cL_law 224 = .ok (.iload_n 3, 1) := by decide +kernel
theorem dL_law_225 : decode cL_law 225 = .ok (.iconst 3, 1) := by decide +kernel
theorem dL_law_226 : decode cL_law 226 = .ok (.iadd, 1) := by decide +kernel
theorem dL_law_227 : decode cL_law 227 = .ok (.iaload, 1) := by decide +kernel
theorem dL_law_228 : decode cL_law 228 = .ok (.aload_n 0, 1) := by decide +kernel
theorem dL_law_229 : decode cL_law 229 = .ok (.iload_n 3, 1) := by decide +kernel
theorem dL_law_230 : decode cL_law 230 = .ok (.iconst 4, 1) := by decide +kernel
theorem dL_law_231 : decode cL_law 231 = .ok (.iadd, 1) := by decide +kernel
theorem dL_law_232 : decode cL_law 232 = .ok (.iaload, 1) := by decide +kernel
theorem dL_law_233 : decode cL_law 233 = .ok (.aload_n 0, 1) := by decide +kernel
theorem dL_law_234 : decode cL_law 234 = .ok (.iload_n 3, 1) := by decide +kernel
theorem dL_law_235 : decode cL_law 235 = .ok (.iconst 5, 1) := by decide +kernel
theorem dL_law_236 : decode cL_law 236 = .ok (.iadd, 1) := by decide +kernel
theorem dL_law_237 : decode cL_law 237 = .ok (.iaload, 1) := by decide +kernel
theorem dL_law_238 : decode cL_law 238 = .ok (.invokevirtual 23, 3) := by decide +kernel
theorem dL_law_241 : decode cL_law 241 = .ok (.aload_n 2, 1) := by decide +kernel
theorem dL_law_242 : decode cL_law 242 = .ok (.aload_n 0, 1) := by decide +kernel
theorem dL_law_243 : decode cL_law 243 = .ok (.iload_n 3, 1) := by decide +kernel
theorem dL_law_244 : decode cL_law 244 = .ok (.iconst 1, 1) := by decide +kernel
theorem dL_law_245 : decode cL_law 245 = .ok (.iadd, 1) := by decide +kernel
theorem dL_law_246 : decode cL_law 246 = .ok (.iaload, 1) := by decide +kernel
theorem dL_law_247 : decode cL_law 247 = .ok (.aload_n 0, 1) := by decide +kernel
theorem dL_law_248 : decode cL_law 248 = .ok (.iload_n 3, 1) := by decide +kernel
theorem dL_law_249 : decode cL_law 249 = .ok (.iconst 2, 1) := by decide +kernel
theorem dL_law_250 : decode cL_law 250 = .ok (.iadd, 1) := by decide +kernel
theorem dL_law_251 : decode cL_law 251 = .ok (.iaload, 1) := by decide +kernel
theorem dL_law_252 : decode cL_law 252 = .ok (.aload_n 0, 1) := by decide +kernel
theorem dL_law_253 : decode cL_law 253 = .ok (.iload_n 3, 1) := by decide +kernel
theorem dL_law_254 : decode cL_law 254 = .ok (.iconst 3, 1) := by decide +kernel
theorem dL_law_255 : decode cL_law 255 = .ok (.iadd, 1) := by decide +kernel
theorem dL_law_256 : decode cL_law 256 = .ok (.iaload, 1) := by decide +kernel
theorem dL_law_257 : decode cL_law 257 = .ok (.aload_n 0, 1) := by decide +kernel
theorem dL_law_258 : decode cL_law 258 = .ok (.iload_n 3, 1) := by decide +kernel
theorem dL_law_259 : decode cL_law 259 = .ok (.iconst 4, 1) := by decide +kernel
theorem dL_law_260 : decode cL_law 260 = .ok (.iadd, 1) := by decide +kernel
theorem dL_law_261 : decode cL_law 261 = .ok (.iaload, 1) := by decide +kernel
theorem dL_law_262 : decode cL_law 262 = .ok (.aload_n 0, 1) := by decide +kernel
theorem dL_law_263 : decode cL_law 263 = .ok (.iload_n 3, 1) := by decide +kernel
theorem dL_law_264 : decode cL_law 264 = .ok (.iconst 5, 1) := by decide +kernel
theorem dL_law_265 : decode cL_law 265 = .ok (.iadd, 1) := by decide +kernel
theorem dL_law_266 : decode cL_law 266 = .ok (.iaload, 1) := by decide +kernel
theorem dL_law_267 : decode cL_law 267 = .ok (.invokevirtual 27, 3) := by decide +kernel
theorem dL_law_270 : decode cL_law 270 = .ok (.if_icmp .eq 717, 3) := by decide +kernel
theorem dL_law_273 : decode cL_law 273 = .ok (.iconst 0, 1) := by decide +kernel
theorem dL_law_274 : decode cL_law 274 = .ok (.ireturn, 1) := by decide +kernel
theorem dL_law_275 : decode cL_law 275 = .ok (.aload_n 1, 1) := by decide +kernel
theorem dL_law_276 : decode cL_law 276 = .ok (.aload_n 0, 1) := by decide +kernel
theorem dL_law_277 : decode cL_law 277 = .ok (.iload_n 3, 1) := by decide +kernel
theorem dL_law_278 : decode cL_law 278 = .ok (.iconst 1, 1) := by decide +kernel
theorem dL_law_279 : decode cL_law 279 = .ok (.iadd, 1) := by decide +kernel
theorem dL_law_280 : decode cL_law 280 = .ok (.iaload, 1) := by decide +kernel
theorem dL_law_281 : decode cL_law 281 = .ok (.aload_n 0, 1) := by decide +kernel
theorem dL_law_282 : decode cL_law 282 = .ok (.iload_n 3, 1) := by decide +kernel
theorem dL_law_283 : decode cL_law 283 = .ok (.iconst 2, 1) := by decide +kernel
theorem dL_law_284 : decode cL_law 284 = .ok (.iadd, 1) := by decide +kernel
theorem dL_law_285 : decode cL_law 285 = .ok (.iaload, 1) := by decide +kernel
theorem dL_law_286 : decode cL_law 286 = .ok (.aload_n 0, 1) := by decide +kernel
theorem dL_law_287 : decode cL_law 287 = .ok (.iload_n 3, 1) := by decide +kernel
theorem dL_law_288 : decode cL_law 288 = .ok (.iconst 3, 1) := by decide +kernel
theorem dL_law_289 : decode cL_law 289 = .ok (.iadd, 1) := by decide +kernel
theorem dL_law_290 : decode cL_law 290 = .ok (.iaload, 1) := by decide +kernel
theorem dL_law_291 : decode cL_law 291 = .ok (.aload_n 0, 1) := by decide +kernel
theorem dL_law_292 : decode cL_law 292 = .ok (.iload_n 3, 1) := by decide +kernel
theorem dL_law_293 : decode cL_law 293 = .ok (.iconst 4, 1) := by decide +kernel
theorem dL_law_294 : decode cL_law 294 = .ok (.iadd, 1) := by decide +kernel
theorem dL_law_295 : decode cL_law 295 = .ok (.iaload, 1) := by decide +kernel
theorem dL_law_296 : decode cL_law 296 = .ok (.invokevirtual 28, 3) := by decide +kernel
theorem dL_law_299 : decode cL_law 299 = .ok (.aload_n 2, 1) := by decide +kernel
theorem dL_law_300 : decode cL_law 300 = .ok (.aload_n 0, 1) := by decide +kernel
theorem dL_law_301 : decode cL_law 301 = .ok (.iload_n 3, 1) := by decide +kernel
theorem dL_law_302 : decode cL_law 302 = .ok (.iconst 1, 1) := by decide +kernel
theorem dL_law_303 : decode cL_law 303 = .ok (.iadd, 1) := by decide +kernel
theorem dL_law_304 : decode cL_law 304 = .ok (.iaload, 1) := by decide +kernel
theorem dL_law_305 : decode cL_law 305 = .ok (.aload_n 0, 1) := by decide +kernel
theorem dL_law_306 : decode cL_law 306 = .ok (.iload_n 3, 1) := by decide +kernel
theorem dL_law_307 : decode cL_law 307 = .ok (.iconst 2, 1) := by decide +kernel
theorem dL_law_308 : decode cL_law 308 = .ok (.iadd, 1) := by decide +kernel
theorem dL_law_309 : decode cL_law 309 = .ok (.iaload, 1) := by decide +kernel
theorem dL_law_310 : decode cL_law 310 = .ok (.aload_n 0, 1) := by decide +kernel
theorem dL_law_311 : decode cL_law 311 = .ok (.iload_n 3, 1) := by decide +kernel
theorem dL_law_312 : decode cL_law 312 = .ok (.iconst 3, 1) := by decide +kernel
theorem dL_law_313 : decode cL_law 313 = .ok (.iadd, 1) := by decide +kernel
theorem dL_law_314 : decode cL_law 314 = .ok (.iaload, 1) := by decide +kernel
theorem dL_law_315 : decode cL_law 315 = .ok (.aload_n 0, 1) := by decide +kernel
theorem dL_law_316 : decode cL_law 316 = .ok (.iload_n 3, 1) := by decide +kernel
theorem dL_law_317 : decode cL_law 317 = .ok (.iconst 4, 1) := by decide +kernel
theorem dL_law_318 : decode cL_law 318 = .ok (.iadd, 1) := by decide +kernel
theorem dL_law_319 : decode cL_law 319 = .ok (.iaload, 1) := by decide +kernel
theorem dL_law_320 : decode cL_law 320 = .ok (.invokevirtual 32, 3) := by decide +kernel
theorem dL_law_323 : decode cL_law 323 = .ok (.if_icmp .eq 664, 3) := by decide +kernel
theorem dL_law_326 : decode cL_law 326 = .ok (.iconst 0, 1) := by decide +kernel
theorem dL_law_327 : decode cL_law 327 = .ok (.ireturn, 1) := by decide +kernel
theorem dL_law_328 : decode cL_law 328 = .ok (.aload_n 1, 1) := by decide +kernel
theorem dL_law_329 : decode cL_law 329 = .ok (.aload_n 0, 1) := by decide +kernel
theorem dL_law_330 : decode cL_law 330 = .ok (.iload_n 3, 1) := by decide +kernel
theorem dL_law_331 : decode cL_law 331 = .ok (.iconst 1, 1) := by decide +kernel
theorem dL_law_332 : decode cL_law 332 = .ok (.iadd, 1) := by decide +kernel
theorem dL_law_333 : decode cL_law 333 = .ok (.iaload, 1) := by decide +kernel
theorem dL_law_334 : decode cL_law 334 = .ok (.aload_n 0, 1) := by decide +kernel
theorem dL_law_335 : decode cL_law 335 = .ok (.iload_n 3, 1) := by decide +kernel
theorem dL_law_336 : decode cL_law 336 = .ok (.iconst 2, 1) := by decide +kernel
theorem dL_law_337 : decode cL_law 337 = .ok (.iadd, 1) := by decide +kernel
theorem dL_law_338 : decode cL_law 338 = .ok (.iaload, 1) := by decide +kernel
theorem dL_law_339 : decode cL_law 339 = .ok (.invokevirtual 33, 3) := by decide +kernel
theorem dL_law_342 : decode cL_law 342 = .ok (.aload_n 2, 1) := by decide +kernel
theorem dL_law_343 : decode cL_law 343 = .ok (.aload_n 0, 1) := by decide +kernel
theorem dL_law_344 : decode cL_law 344 = .ok (.iload_n 3, 1) := by decide +kernel
theorem dL_law_345 : decode cL_law 345 = .ok (.iconst 1, 1) := by decide +kernel
theorem dL_law_346 : decode cL_law 346 = .ok (.iadd, 1) := by decide +kernel
theorem dL_law_347 : decode cL_law 347 = .ok (.iaload, 1) := by decide +kernel
theorem dL_law_348 : decode cL_law 348 = .ok (.aload_n 0, 1) := by decide +kernel
theorem dL_law_349 : decode cL_law 349 = .ok (.iload_n 3, 1) := by decide +kernel
theorem dL_law_350 : decode cL_law 350 = .ok (.iconst 2, 1) := by decide +kernel
theorem dL_law_351 : decode cL_law 351 = .ok (.iadd, 1) := by decide +kernel
theorem dL_law_352 : decode cL_law 352 = .ok (.iaload, 1) := by decide +kernel
theorem dL_law_353 : decode cL_law 353 = .ok (.invokevirtual 36, 3) := by decide +kernel
theorem dL_law_356 : decode cL_law 356 = .ok (.if_icmp .eq 631, 3) := by decide +kernel
theorem dL_law_359 : decode cL_law 359 = .ok (.iconst 0, 1) := by decide +kernel
theorem dL_law_360 : decode cL_law 360 = .ok (.ireturn, 1) := by decide +kernel
theorem dL_law_361 : decode cL_law 361 = .ok (.aload_n 1, 1) := by decide +kernel
theorem dL_law_362 : decode cL_law 362 = .ok (.aload_n 0, 1) := by decide +kernel
theorem dL_law_363 : decode cL_law 363 = .ok (.iload_n 3, 1) := by decide +kernel
theorem dL_law_364 : decode cL_law 364 = .ok (.iconst 1, 1) := by decide +kernel
theorem dL_law_365 : decode cL_law 365 = .ok (.iadd, 1) := by decide +kernel
theorem dL_law_366 : decode cL_law 366 = .ok (.iaload, 1) := by decide +kernel
theorem dL_law_367 : decode cL_law 367 = .ok (.aload_n 0, 1) := by decide +kernel
theorem dL_law_368 : decode cL_law 368 = .ok (.iload_n 3, 1) := by decide +kernel
theorem dL_law_369 : decode cL_law 369 = .ok (.iconst 2, 1) := by decide +kernel
theorem dL_law_370 : decode cL_law 370 = .ok (.iadd, 1) := by decide +kernel
theorem dL_law_371 : decode cL_law 371 = .ok (.iaload, 1) := by decide +kernel
theorem dL_law_372 : decode cL_law 372 = .ok (.invokevirtual 37, 3) := by decide +kernel
theorem dL_law_375 : decode cL_law 375 = .ok (.aload_n 2, 1) := by decide +kernel
theorem dL_law_376 : decode cL_law 376 = .ok (.aload_n 0, 1) := by decide +kernel
theorem dL_law_377 : decode cL_law 377 = .ok (.iload_n 3, 1) := by decide +kernel
theorem dL_law_378 : decode cL_law 378 = .ok (.iconst 1, 1) := by decide +kernel
theorem dL_law_379 : decode cL_law 379 = .ok (.iadd, 1) := by decide +kernel
theorem dL_law_380 : decode cL_law 380 = .ok (.iaload, 1) := by decide +kernel
theorem dL_law_381 : decode cL_law 381 = .ok (.aload_n 0, 1) := by decide +kernel
theorem dL_law_382 : decode cL_law 382 = .ok (.iload_n 3, 1) := by decide +kernel
theorem dL_law_383 : decode cL_law 383 = .ok (.iconst 2, 1) := by decide +kernel
theorem dL_law_384 : decode cL_law 384 = .ok (.iadd, 1) := by decide +kernel
theorem dL_law_385 : decode cL_law 385 = .ok (.iaload, 1) := by decide +kernel
theorem dL_law_386 : decode cL_law 386 = .ok (.invokevirtual 40, 3) := by decide +kernel
theorem dL_law_389 : decode cL_law 389 = .ok (.if_icmp .eq 598, 3) := by decide +kernel
theorem dL_law_392 : decode cL_law 392 = .ok (.iconst 0, 1) := by decide +kernel
theorem dL_law_393 : decode cL_law 393 = .ok (.ireturn, 1) := by decide +kernel
theorem dL_law_394 : decode cL_law 394 = .ok (.aload_n 1, 1) := by decide +kernel
theorem dL_law_395 : decode cL_law 395 = .ok (.aload_n 0, 1) := by decide +kernel
theorem dL_law_396 : decode cL_law 396 = .ok (.iload_n 3, 1) := by decide +kernel
theorem dL_law_397 : decode cL_law 397 = .ok (.iconst 1, 1) := by decide +kernel
theorem dL_law_398 : decode cL_law 398 = .ok (.iadd, 1) := by decide +kernel
theorem dL_law_399 : decode cL_law 399 = .ok (.iaload, 1) := by decide +kernel
theorem dL_law_400 : decode cL_law 400 = .ok (.aload_n 0, 1) := by decide +kernel
theorem dL_law_401 : decode cL_law 401 = .ok (.iload_n 3, 1) := by decide +kernel
theorem dL_law_402 : decode cL_law 402 = .ok (.iconst 2, 1) := by decide +kernel
theorem dL_law_403 : decode cL_law 403 = .ok (.iadd, 1) := by decide +kernel
theorem dL_law_404 : decode cL_law 404 = .ok (.iaload, 1) := by decide +kernel
theorem dL_law_405 : decode cL_law 405 = .ok (.aload_n 0, 1) := by decide +kernel
theorem dL_law_406 : decode cL_law 406 = .ok (.iload_n 3, 1) := by decide +kernel
theorem dL_law_407 : decode cL_law 407 = .ok (.iconst 3, 1) := by decide +kernel
theorem dL_law_408 : decode cL_law 408 = .ok (.iadd, 1) := by decide +kernel
theorem dL_law_409 : decode cL_law 409 = .ok (.iaload, 1) := by decide +kernel
theorem dL_law_410 : decode cL_law 410 = .ok (.invokevirtual 41, 3) := by decide +kernel
theorem dL_law_413 : decode cL_law 413 = .ok (.aload_n 2, 1) := by decide +kernel
theorem dL_law_414 : decode cL_law 414 = .ok (.aload_n 0, 1) := by decide +kernel
theorem dL_law_415 : decode cL_law 415 = .ok (.iload_n 3, 1) := by decide +kernel
theorem dL_law_416 : decode cL_law 416 = .ok (.iconst 1, 1) := by decide +kernel
theorem dL_law_417 : decode cL_law 417 = .ok (.iadd, 1) := by decide +kernel
theorem dL_law_418 : decode cL_law 418 = .ok (.iaload, 1) := by decide +kernel
theorem dL_law_419 : decode cL_law 419 = .ok (.aload_n 0, 1) := by decide +kernel
theorem dL_law_420 : decode cL_law 420 = .ok (.iload_n 3, 1) := by decide +kernel
theorem dL_law_421 : decode cL_law 421 = .ok (.iconst 2, 1) := by decide +kernel
theorem dL_law_422 : decode cL_law 422 = .ok (.iadd, 1) := by decide +kernel
theorem dL_law_423 : decode cL_law 423 = .ok (.iaload, 1) := by decide +kernel
theorem dL_law_424 : decode cL_law 424 = .ok (.aload_n 0, 1) := by decide +kernel
theorem dL_law_425 : decode cL_law 425 = .ok (.iload_n 3, 1) := by decide +kernel
theorem dL_law_426 : decode cL_law 426 = .ok (.iconst 3, 1) := by decide +kernel
theorem dL_law_427 : decode cL_law 427 = .ok (.iadd, 1) := by decide +kernel
theorem dL_law_428 : decode cL_law 428 = .ok (.iaload, 1) := by decide +kernel
theorem dL_law_429 : decode cL_law 429 = .ok (.invokevirtual 45, 3) := by decide +kernel
theorem dL_law_432 : decode cL_law 432 = .ok (.if_icmp .eq 555, 3) := by decide +kernel
theorem dL_law_435 : decode cL_law 435 = .ok (.iconst 0, 1) := by decide +kernel
theorem dL_law_436 : decode cL_law 436 = .ok (.ireturn, 1) := by decide +kernel
theorem dL_law_437 : decode cL_law 437 = .ok (.aload_n 1, 1) := by decide +kernel
theorem dL_law_438 : decode cL_law 438 = .ok (.aload_n 0, 1) := by decide +kernel
theorem dL_law_439 : decode cL_law 439 = .ok (.iload_n 3, 1) := by decide +kernel
theorem dL_law_440 : decode cL_law 440 = .ok (.iconst 1, 1) := by decide +kernel
theorem dL_law_441 : decode cL_law 441 = .ok (.iadd, 1) := by decide +kernel
theorem dL_law_442 : decode cL_law 442 = .ok (.iaload, 1) := by decide +kernel
theorem dL_law_443 : decode cL_law 443 = .ok (.invokevirtual 46, 3) := by decide +kernel
theorem dL_law_446 : decode cL_law 446 = .ok (.aload_n 2, 1) := by decide +kernel
theorem dL_law_447 : decode cL_law 447 = .ok (.aload_n 0, 1) := by decide +kernel
theorem dL_law_448 : decode cL_law 448 = .ok (.iload_n 3, 1) := by decide +kernel
theorem dL_law_449 : decode cL_law 449 = .ok (.iconst 1, 1) := by decide +kernel
theorem dL_law_450 : decode cL_law 450 = .ok (.iadd, 1) := by decide +kernel
theorem dL_law_451 : decode cL_law 451 = .ok (.iaload, 1) := by decide +kernel
theorem dL_law_452 : decode cL_law 452 = .ok (.invokevirtual 49, 3) := by decide +kernel
theorem dL_law_455 : decode cL_law 455 = .ok (.if_icmp .eq 532, 3) := by decide +kernel
theorem dL_law_458 : decode cL_law 458 = .ok (.iconst 0, 1) := by decide +kernel
theorem dL_law_459 : decode cL_law 459 = .ok (.ireturn, 1) := by decide +kernel
theorem dL_law_460 : decode cL_law 460 = .ok (.aload_n 1, 1) := by decide +kernel
theorem dL_law_461 : decode cL_law 461 = .ok (.aload_n 0, 1) := by decide +kernel
theorem dL_law_462 : decode cL_law 462 = .ok (.iload_n 3, 1) := by decide +kernel
theorem dL_law_463 : decode cL_law 463 = .ok (.iconst 1, 1) := by decide +kernel
theorem dL_law_464 : decode cL_law 464 = .ok (.iadd, 1) := by decide +kernel
theorem dL_law_465 : decode cL_law 465 = .ok (.iaload, 1) := by decide +kernel
theorem dL_law_466 : decode cL_law 466 = .ok (.aload_n 0, 1) := by decide +kernel
theorem dL_law_467 : decode cL_law 467 = .ok (.iload_n 3, 1) := by decide +kernel
theorem dL_law_468 : decode cL_law 468 = .ok (.iconst 2, 1) := by decide +kernel
theorem dL_law_469 : decode cL_law 469 = .ok (.iadd, 1) := by decide +kernel
theorem dL_law_470 : decode cL_law 470 = .ok (.iaload, 1) := by decide +kernel
theorem dL_law_471 : decode cL_law 471 = .ok (.aload_n 0, 1) := by decide +kernel
theorem dL_law_472 : decode cL_law 472 = .ok (.iload_n 3, 1) := by decide +kernel
theorem dL_law_473 : decode cL_law 473 = .ok (.iconst 3, 1) := by decide +kernel
theorem dL_law_474 : decode cL_law 474 = .ok (.iadd, 1) := by decide +kernel
theorem dL_law_475 : decode cL_law 475 = .ok (.iaload, 1) := by decide +kernel
theorem dL_law_476 : decode cL_law 476 = .ok (.invokevirtual 50, 3) := by decide +kernel
theorem dL_law_479 : decode cL_law 479 = .ok (.aload_n 2, 1) := by decide +kernel
theorem dL_law_480 : decode cL_law 480 = .ok (.aload_n 0, 1) := by decide +kernel
theorem dL_law_481 : decode cL_law 481 = .ok (.iload_n 3, 1) := by decide +kernel
theorem dL_law_482 : decode cL_law 482 = .ok (.iconst 1, 1) := by decide +kernel
theorem dL_law_483 : decode cL_law 483 = .ok (.iadd, 1) := by decide +kernel
theorem dL_law_484 : decode cL_law 484 = .ok (.iaload, 1) := by decide +kernel
theorem dL_law_485 : decode cL_law 485 = .ok (.aload_n 0, 1) := by decide +kernel
theorem dL_law_486 : decode cL_law 486 = .ok (.iload_n 3, 1) := by decide +kernel
theorem dL_law_487 : decode cL_law 487 = .ok (.iconst 2, 1) := by decide +kernel
theorem dL_law_488 : decode cL_law 488 = .ok (.iadd, 1) := by decide +kernel
theorem dL_law_489 : decode cL_law 489 = .ok (.iaload, 1) := by decide +kernel
theorem dL_law_490 : decode cL_law 490 = .ok (.aload_n 0, 1) := by decide +kernel
theorem dL_law_491 : decode cL_law 491 = .ok (.iload_n 3, 1) := by decide +kernel
theorem dL_law_492 : decode cL_law 492 = .ok (.iconst 3, 1) := by decide +kernel
theorem dL_law_493 : decode cL_law 493 = .ok (.iadd, 1) := by decide +kernel
theorem dL_law_494 : decode cL_law 494 = .ok (.iaload, 1) := by decide +kernel
theorem dL_law_495 : decode cL_law 495 = .ok (.invokevirtual 53, 3) := by decide +kernel
theorem dL_law_498 : decode cL_law 498 = .ok (.if_icmp .eq 489, 3) := by decide +kernel
theorem dL_law_501 : decode cL_law 501 = .ok (.iconst 0, 1) := by decide +kernel
theorem dL_law_502 : decode cL_law 502 = .ok (.ireturn, 1) := by decide +kernel
theorem dL_law_503 : decode cL_law 503 = .ok (.aload_n 1, 1) := by decide +kernel
theorem dL_law_504 : decode cL_law 504 = .ok (.aload_n 0, 1) := by decide +kernel
theorem dL_law_505 : decode cL_law 505 = .ok (.iload_n 3, 1) := by decide +kernel
theorem dL_law_506 : decode cL_law 506 = .ok (.iconst 1, 1) := by decide +kernel
theorem dL_law_507 : decode cL_law 507 = .ok (.iadd, 1) := by decide +kernel
theorem dL_law_508 : decode cL_law 508 = .ok (.iaload, 1) := by decide +kernel
theorem dL_law_509 : decode cL_law 509 = .ok (.aload_n 0, 1) := by decide +kernel
theorem dL_law_510 : decode cL_law 510 = .ok (.iload_n 3, 1) := by decide +kernel
theorem dL_law_511 : decode cL_law 511 = .ok (.iconst 2, 1) := by decide +kernel
theorem dL_law_512 : decode cL_law 512 = .ok (.iadd, 1) := by decide +kernel
theorem dL_law_513 : decode cL_law 513 = .ok (.iaload, 1) := by decide +kernel
theorem dL_law_514 : decode cL_law 514 = .ok (.invokevirtual 54, 3) := by decide +kernel
theorem dL_law_517 : decode cL_law 517 = .ok (.aload_n 2, 1) := by decide +kernel
theorem dL_law_518 : decode cL_law 518 = .ok (.aload_n 0, 1) := by decide +kernel
theorem dL_law_519 : decode cL_law 519 = .ok (.iload_n 3, 1) := by decide +kernel
theorem dL_law_520 : decode cL_law 520 = .ok (.iconst 1, 1) := by decide +kernel
theorem dL_law_521 : decode cL_law 521 = .ok (.iadd, 1) := by decide +kernel
theorem dL_law_522 : decode cL_law 522 = .ok (.iaload, 1) := by decide +kernel
theorem dL_law_523 : decode cL_law 523 = .ok (.aload_n 0, 1) := by decide +kernel
theorem dL_law_524 : decode cL_law 524 = .ok (.iload_n 3, 1) := by decide +kernel
theorem dL_law_525 : decode cL_law 525 = .ok (.iconst 2, 1) := by decide +kernel
theorem dL_law_526 : decode cL_law 526 = .ok (.iadd, 1) := by decide +kernel
theorem dL_law_527 : decode cL_law 527 = .ok (.iaload, 1) := by decide +kernel
theorem dL_law_528 : decode cL_law 528 = .ok (.invokevirtual 57, 3) := by decide +kernel
theorem dL_law_531 : decode cL_law 531 = .ok (.if_icmp .eq 456, 3) := by decide +kernel
theorem dL_law_534 : decode cL_law 534 = .ok (.iconst 0, 1) := by decide +kernel
theorem dL_law_535 : decode cL_law 535 = .ok (.ireturn, 1) := by decide +kernel
theorem dL_law_536 : decode cL_law 536 = .ok (.aload_n 1, 1) := by decide +kernel
theorem dL_law_537 : decode cL_law 537 = .ok (.aload_n 0, 1) := by decide +kernel
theorem dL_law_538 : decode cL_law 538 = .ok (.iload_n 3, 1) := by decide +kernel
theorem dL_law_539 : decode cL_law 539 = .ok (.iconst 1, 1) := by decide +kernel
theorem dL_law_540 : decode cL_law 540 = .ok (.iadd, 1) := by decide +kernel
theorem dL_law_541 : decode cL_law 541 = .ok (.iaload, 1) := by decide +kernel
theorem dL_law_542 : decode cL_law 542 = .ok (.aload_n 0, 1) := by decide +kernel
theorem dL_law_543 : decode cL_law 543 = .ok (.iload_n 3, 1) := by decide +kernel
theorem dL_law_544 : decode cL_law 544 = .ok (.iconst 2, 1) := by decide +kernel
theorem dL_law_545 : decode cL_law 545 = .ok (.iadd, 1) := by decide +kernel
theorem dL_law_546 : decode cL_law 546 = .ok (.iaload, 1) := by decide +kernel
theorem dL_law_547 : decode cL_law 547 = .ok (.invokevirtual 58, 3) := by decide +kernel
theorem dL_law_550 : decode cL_law 550 = .ok (.aload_n 2, 1) := by decide +kernel
theorem dL_law_551 : decode cL_law 551 = .ok (.aload_n 0, 1) := by decide +kernel
theorem dL_law_552 : decode cL_law 552 = .ok (.iload_n 3, 1) := by decide +kernel
theorem dL_law_553 : decode cL_law 553 = .ok (.iconst 1, 1) := by decide +kernel
theorem dL_law_554 : decode cL_law 554 = .ok (.iadd, 1) := by decide +kernel
theorem dL_law_555 : decode cL_law 555 = .ok (.iaload, 1) := by decide +kernel
theorem dL_law_556 : decode cL_law 556 = .ok (.aload_n 0, 1) := by decide +kernel
theorem dL_law_557 : decode cL_law 557 = .ok (.iload_n 3, 1) := by decide +kernel
theorem dL_law_558 : decode cL_law 558 = .ok (.iconst 2, 1) := by decide +kernel
theorem dL_law_559 : decode cL_law 559 = .ok (.iadd, 1) := by decide +kernel
theorem dL_law_560 : decode cL_law 560 = .ok (.iaload, 1) := by decide +kernel
theorem dL_law_561 : decode cL_law 561 = .ok (.invokevirtual 61, 3) := by decide +kernel
theorem dL_law_564 : decode cL_law 564 = .ok (.if_icmp .eq 423, 3) := by decide +kernel
theorem dL_law_567 : decode cL_law 567 = .ok (.iconst 0, 1) := by decide +kernel
theorem dL_law_568 : decode cL_law 568 = .ok (.ireturn, 1) := by decide +kernel
theorem dL_law_569 : decode cL_law 569 = .ok (.aload_n 1, 1) := by decide +kernel
theorem dL_law_570 : decode cL_law 570 = .ok (.aload_n 0, 1) := by decide +kernel
theorem dL_law_571 : decode cL_law 571 = .ok (.iload_n 3, 1) := by decide +kernel
theorem dL_law_572 : decode cL_law 572 = .ok (.iconst 1, 1) := by decide +kernel
theorem dL_law_573 : decode cL_law 573 = .ok (.iadd, 1) := by decide +kernel
theorem dL_law_574 : decode cL_law 574 = .ok (.iaload, 1) := by decide +kernel
theorem dL_law_575 : decode cL_law 575 = .ok (.aload_n 0, 1) := by decide +kernel
theorem dL_law_576 : decode cL_law 576 = .ok (.iload_n 3, 1) := by decide +kernel
theorem dL_law_577 : decode cL_law 577 = .ok (.iconst 2, 1) := by decide +kernel
theorem dL_law_578 : decode cL_law 578 = .ok (.iadd, 1) := by decide +kernel
theorem dL_law_579 : decode cL_law 579 = .ok (.iaload, 1) := by decide +kernel
theorem dL_law_580 : decode cL_law 580 = .ok (.invokevirtual 62, 3) := by decide +kernel
theorem dL_law_583 : decode cL_law 583 = .ok (.aload_n 2, 1) := by decide +kernel
theorem dL_law_584 : decode cL_law 584 = .ok (.aload_n 0, 1) := by decide +kernel
theorem dL_law_585 : decode cL_law 585 = .ok (.iload_n 3, 1) := by decide +kernel
theorem dL_law_586 : decode cL_law 586 = .ok (.iconst 1, 1) := by decide +kernel
theorem dL_law_587 : decode cL_law 587 = .ok (.iadd, 1) := by decide +kernel
theorem dL_law_588 : decode cL_law 588 = .ok (.iaload, 1) := by decide +kernel
theorem dL_law_589 : decode cL_law 589 = .ok (.aload_n 0, 1) := by decide +kernel
theorem dL_law_590 : decode cL_law 590 = .ok (.iload_n 3, 1) := by decide +kernel
theorem dL_law_591 : decode cL_law 591 = .ok (.iconst 2, 1) := by decide +kernel
theorem dL_law_592 : decode cL_law 592 = .ok (.iadd, 1) := by decide +kernel
theorem dL_law_593 : decode cL_law 593 = .ok (.iaload, 1) := by decide +kernel
theorem dL_law_594 : decode cL_law 594 = .ok (.invokevirtual 65, 3) := by decide +kernel
theorem dL_law_597 : decode cL_law 597 = .ok (.if_icmp .eq 390, 3) := by decide +kernel
theorem dL_law_600 : decode cL_law 600 = .ok (.iconst 0, 1) := by decide +kernel
theorem dL_law_601 : decode cL_law 601 = .ok (.ireturn, 1) := by decide +kernel
theorem dL_law_602 : decode cL_law 602 = .ok (.aload_n 1, 1) := by decide +kernel
theorem dL_law_603 : decode cL_law 603 = .ok (.aload_n 0, 1) := by decide +kernel
theorem dL_law_604 : decode cL_law 604 = .ok (.iload_n 3, 1) := by decide +kernel
theorem dL_law_605 : decode cL_law 605 = .ok (.iconst 1, 1) := by decide +kernel
theorem dL_law_606 : decode cL_law 606 = .ok (.iadd, 1) := by decide +kernel
theorem dL_law_607 : decode cL_law 607 = .ok (.iaload, 1) := by decide +kernel
theorem dL_law_608 : decode cL_law 608 = .ok (.aload_n 0, 1) := by decide +kernel
theorem dL_law_609 : decode cL_law 609 = .ok (.iload_n 3, 1) := by decide +kernel
theorem dL_law_610 : decode cL_law 610 = .ok (.iconst 2, 1) := by decide +kernel
theorem dL_law_611 : decode cL_law 611 = .ok (.iadd, 1) := by decide +kernel
theorem dL_law_612 : decode cL_law 612 = .ok (.iaload, 1) := by decide +kernel
theorem dL_law_613 : decode cL_law 613 = .ok (.invokevirtual 66, 3) := by decide +kernel
theorem dL_law_616 : decode cL_law 616 = .ok (.aload_n 2, 1) := by decide +kernel
theorem dL_law_617 : decode cL_law 617 = .ok (.aload_n 0, 1) := by decide +kernel
theorem dL_law_618 : decode cL_law 618 = .ok (.iload_n 3, 1) := by decide +kernel
theorem dL_law_619 : decode cL_law 619 = .ok (.iconst 1, 1) := by decide +kernel
theorem dL_law_620 : decode cL_law 620 = .ok (.iadd, 1) := by decide +kernel
theorem dL_law_621 : decode cL_law 621 = .ok (.iaload, 1) := by decide +kernel
theorem dL_law_622 : decode cL_law 622 = .ok (.aload_n 0, 1) := by decide +kernel
theorem dL_law_623 : decode cL_law 623 = .ok (.iload_n 3, 1) := by decide +kernel
theorem dL_law_624 : decode cL_law 624 = .ok (.iconst 2, 1) := by decide +kernel
theorem dL_law_625 : decode cL_law 625 = .ok (.iadd, 1) := by decide +kernel
theorem dL_law_626 : decode cL_law 626 = .ok (.iaload, 1) := by decide +kernel
theorem dL_law_627 : decode cL_law 627 = .ok (.invokevirtual 69, 3) := by decide +kernel
theorem dL_law_630 : decode cL_law 630 = .ok (.if_icmp .eq 357, 3) := by decide +kernel
theorem dL_law_633 : decode cL_law 633 = .ok (.iconst 0, 1) := by decide +kernel
theorem dL_law_634 : decode cL_law 634 = .ok (.ireturn, 1) := by decide +kernel
theorem dL_law_635 : decode cL_law 635 = .ok (.aload_n 1, 1) := by decide +kernel
theorem dL_law_636 : decode cL_law 636 = .ok (.aload_n 0, 1) := by decide +kernel
theorem dL_law_637 : decode cL_law 637 = .ok (.iload_n 3, 1) := by decide +kernel
theorem dL_law_638 : decode cL_law 638 = .ok (.iconst 1, 1) := by decide +kernel
theorem dL_law_639 : decode cL_law 639 = .ok (.iadd, 1) := by decide +kernel
theorem dL_law_640 : decode cL_law 640 = .ok (.iaload, 1) := by decide +kernel
theorem dL_law_641 : decode cL_law 641 = .ok (.aload_n 0, 1) := by decide +kernel
theorem dL_law_642 : decode cL_law 642 = .ok (.iload_n 3, 1) := by decide +kernel
theorem dL_law_643 : decode cL_law 643 = .ok (.iconst 2, 1) := by decide +kernel
theorem dL_law_644 : decode cL_law 644 = .ok (.iadd, 1) := by decide +kernel
theorem dL_law_645 : decode cL_law 645 = .ok (.iaload, 1) := by decide +kernel
theorem dL_law_646 : decode cL_law 646 = .ok (.invokevirtual 70, 3) := by decide +kernel
theorem dL_law_649 : decode cL_law 649 = .ok (.aload_n 2, 1) := by decide +kernel
theorem dL_law_650 : decode cL_law 650 = .ok (.aload_n 0, 1) := by decide +kernel
theorem dL_law_651 : decode cL_law 651 = .ok (.iload_n 3, 1) := by decide +kernel
theorem dL_law_652 : decode cL_law 652 = .ok (.iconst 1, 1) := by decide +kernel
theorem dL_law_653 : decode cL_law 653 = .ok (.iadd, 1) := by decide +kernel
theorem dL_law_654 : decode cL_law 654 = .ok (.iaload, 1) := by decide +kernel
theorem dL_law_655 : decode cL_law 655 = .ok (.aload_n 0, 1) := by decide +kernel
theorem dL_law_656 : decode cL_law 656 = .ok (.iload_n 3, 1) := by decide +kernel
theorem dL_law_657 : decode cL_law 657 = .ok (.iconst 2, 1) := by decide +kernel
theorem dL_law_658 : decode cL_law 658 = .ok (.iadd, 1) := by decide +kernel
theorem dL_law_659 : decode cL_law 659 = .ok (.iaload, 1) := by decide +kernel
theorem dL_law_660 : decode cL_law 660 = .ok (.invokevirtual 73, 3) := by decide +kernel
theorem dL_law_663 : decode cL_law 663 = .ok (.if_icmp .eq 324, 3) := by decide +kernel
theorem dL_law_666 : decode cL_law 666 = .ok (.iconst 0, 1) := by decide +kernel
theorem dL_law_667 : decode cL_law 667 = .ok (.ireturn, 1) := by decide +kernel
theorem dL_law_668 : decode cL_law 668 = .ok (.aload_n 1, 1) := by decide +kernel
theorem dL_law_669 : decode cL_law 669 = .ok (.aload_n 0, 1) := by decide +kernel
theorem dL_law_670 : decode cL_law 670 = .ok (.iload_n 3, 1) := by decide +kernel
theorem dL_law_671 : decode cL_law 671 = .ok (.iconst 1, 1) := by decide +kernel
theorem dL_law_672 : decode cL_law 672 = .ok (.iadd, 1) := by decide +kernel
theorem dL_law_673 : decode cL_law 673 = .ok (.iaload, 1) := by decide +kernel
theorem dL_law_674 : decode cL_law 674 = .ok (.invokevirtual 74, 3) := by decide +kernel
theorem dL_law_677 : decode cL_law 677 = .ok (.aload_n 2, 1) := by decide +kernel
theorem dL_law_678 : decode cL_law 678 = .ok (.aload_n 0, 1) := by decide +kernel
theorem dL_law_679 : decode cL_law 679 = .ok (.iload_n 3, 1) := by decide +kernel
theorem dL_law_680 : decode cL_law 680 = .ok (.iconst 1, 1) := by decide +kernel
theorem dL_law_681 : decode cL_law 681 = .ok (.iadd, 1) := by decide +kernel
theorem dL_law_682 : decode cL_law 682 = .ok (.iaload, 1) := by decide +kernel
theorem dL_law_683 : decode cL_law 683 = .ok (.invokevirtual 77, 3) := by decide +kernel
theorem dL_law_686 : decode cL_law 686 = .ok (.if_icmp .eq 301, 3) := by decide +kernel
theorem dL_law_689 : decode cL_law 689 = .ok (.iconst 0, 1) := by decide +kernel
theorem dL_law_690 : decode cL_law 690 = .ok (.ireturn, 1) := by decide +kernel
theorem dL_law_691 : decode cL_law 691 = .ok (.aload_n 1, 1) := by decide +kernel
theorem dL_law_692 : decode cL_law 692 = .ok (.aload_n 0, 1) := by decide +kernel
theorem dL_law_693 : decode cL_law 693 = .ok (.iload_n 3, 1) := by decide +kernel
theorem dL_law_694 : decode cL_law 694 = .ok (.iconst 1, 1) := by decide +kernel
theorem dL_law_695 : decode cL_law 695 = .ok (.iadd, 1) := by decide +kernel
theorem dL_law_696 : decode cL_law 696 = .ok (.iaload, 1) := by decide +kernel
theorem dL_law_697 : decode cL_law 697 = .ok (.aload_n 0, 1) := by decide +kernel
theorem dL_law_698 : decode cL_law 698 = .ok (.iload_n 3, 1) := by decide +kernel
theorem dL_law_699 : decode cL_law 699 = .ok (.iconst 2, 1) := by decide +kernel
theorem dL_law_700 : decode cL_law 700 = .ok (.iadd, 1) := by decide +kernel
theorem dL_law_701 : decode cL_law 701 = .ok (.iaload, 1) := by decide +kernel
theorem dL_law_702 : decode cL_law 702 = .ok (.aload_n 0, 1) := by decide +kernel
theorem dL_law_703 : decode cL_law 703 = .ok (.iload_n 3, 1) := by decide +kernel
theorem dL_law_704 : decode cL_law 704 = .ok (.iconst 3, 1) := by decide +kernel
theorem dL_law_705 : decode cL_law 705 = .ok (.iadd, 1) := by decide +kernel
theorem dL_law_706 : decode cL_law 706 = .ok (.iaload, 1) := by decide +kernel
theorem dL_law_707 : decode cL_law 707 = .ok (.invokevirtual 78, 3) := by decide +kernel
theorem dL_law_710 : decode cL_law 710 = .ok (.aload_n 2, 1) := by decide +kernel
theorem dL_law_711 : decode cL_law 711 = .ok (.aload_n 0, 1) := by decide +kernel
theorem dL_law_712 : decode cL_law 712 = .ok (.iload_n 3, 1) := by decide +kernel
theorem dL_law_713 : decode cL_law 713 = .ok (.iconst 1, 1) := by decide +kernel
theorem dL_law_714 : decode cL_law 714 = .ok (.iadd, 1) := by decide +kernel
theorem dL_law_715 : decode cL_law 715 = .ok (.iaload, 1) := by decide +kernel
theorem dL_law_716 : decode cL_law 716 = .ok (.aload_n 0, 1) := by decide +kernel
theorem dL_law_717 : decode cL_law 717 = .ok (.iload_n 3, 1) := by decide +kernel
theorem dL_law_718 : decode cL_law 718 = .ok (.iconst 2, 1) := by decide +kernel
theorem dL_law_719 : decode cL_law 719 = .ok (.iadd, 1) := by decide +kernel
theorem dL_law_720 : decode cL_law 720 = .ok (.iaload, 1) := by decide +kernel
theorem dL_law_721 : decode cL_law 721 = .ok (.aload_n 0, 1) := by decide +kernel
theorem dL_law_722 : decode cL_law 722 = .ok (.iload_n 3, 1) := by decide +kernel
theorem dL_law_723 : decode cL_law 723 = .ok (.iconst 3, 1) := by decide +kernel
theorem dL_law_724 : decode cL_law 724 = .ok (.iadd, 1) := by decide +kernel
theorem dL_law_725 : decode cL_law 725 = .ok (.iaload, 1) := by decide +kernel
theorem dL_law_726 : decode cL_law 726 = .ok (.invokevirtual 81, 3) := by decide +kernel
theorem dL_law_729 : decode cL_law 729 = .ok (.if_icmp .eq 258, 3) := by decide +kernel
theorem dL_law_732 : decode cL_law 732 = .ok (.iconst 0, 1) := by decide +kernel
theorem dL_law_733 : decode cL_law 733 = .ok (.ireturn, 1) := by decide +kernel
theorem dL_law_734 : decode cL_law 734 = .ok (.aload_n 1, 1) := by decide +kernel
theorem dL_law_735 : decode cL_law 735 = .ok (.aload_n 0, 1) := by decide +kernel
theorem dL_law_736 : decode cL_law 736 = .ok (.iload_n 3, 1) := by decide +kernel
theorem dL_law_737 : decode cL_law 737 = .ok (.iconst 1, 1) := by decide +kernel
theorem dL_law_738 : decode cL_law 738 = .ok (.iadd, 1) := by decide +kernel
theorem dL_law_739 : decode cL_law 739 = .ok (.iaload, 1) := by decide +kernel
theorem dL_law_740 : decode cL_law 740 = .ok (.invokevirtual 82, 3) := by decide +kernel
theorem dL_law_743 : decode cL_law 743 = .ok (.aload_n 2, 1) := by decide +kernel
theorem dL_law_744 : decode cL_law 744 = .ok (.aload_n 0, 1) := by decide +kernel
theorem dL_law_745 : decode cL_law 745 = .ok (.iload_n 3, 1) := by decide +kernel
theorem dL_law_746 : decode cL_law 746 = .ok (.iconst 1, 1) := by decide +kernel
theorem dL_law_747 : decode cL_law 747 = .ok (.iadd, 1) := by decide +kernel
theorem dL_law_748 : decode cL_law 748 = .ok (.iaload, 1) := by decide +kernel
theorem dL_law_749 : decode cL_law 749 = .ok (.invokevirtual 85, 3) := by decide +kernel
theorem dL_law_752 : decode cL_law 752 = .ok (.if_icmp .eq 235, 3) := by decide +kernel
theorem dL_law_755 : decode cL_law 755 = .ok (.iconst 0, 1) := by decide +kernel
theorem dL_law_756 : decode cL_law 756 = .ok (.ireturn, 1) := by decide +kernel
theorem dL_law_757 : decode cL_law 757 = .ok (.aload_n 1, 1) := by decide +kernel
theorem dL_law_758 : decode cL_law 758 = .ok (.invokevirtual 86, 3) := by decide +kernel
theorem dL_law_761 : decode cL_law 761 = .ok (.aload_n 2, 1) := by decide +kernel
theorem dL_law_762 : decode cL_law 762 = .ok (.invokevirtual 90, 3) := by decide +kernel
theorem dL_law_765 : decode cL_law 765 = .ok (.if_icmp .eq 222, 3) := by decide +kernel
theorem dL_law_768 : decode cL_law 768 = .ok (.iconst 0, 1) := by decide +kernel
theorem dL_law_769 : decode cL_law 769 = .ok (.ireturn, 1) := by decide +kernel
theorem dL_law_770 : decode cL_law 770 = .ok (.aload_n 1, 1) := by decide +kernel
theorem dL_law_771 : decode cL_law 771 = .ok (.aload_n 0, 1) := by decide +kernel
theorem dL_law_772 : decode cL_law 772 = .ok (.iload_n 3, 1) := by decide +kernel
theorem dL_law_773 : decode cL_law 773 = .ok (.iconst 1, 1) := by decide +kernel
theorem dL_law_774 : decode cL_law 774 = .ok (.iadd, 1) := by decide +kernel
theorem dL_law_775 : decode cL_law 775 = .ok (.iaload, 1) := by decide +kernel
theorem dL_law_776 : decode cL_law 776 = .ok (.aload_n 0, 1) := by decide +kernel
theorem dL_law_777 : decode cL_law 777 = .ok (.iload_n 3, 1) := by decide +kernel
theorem dL_law_778 : decode cL_law 778 = .ok (.iconst 2, 1) := by decide +kernel
theorem dL_law_779 : decode cL_law 779 = .ok (.iadd, 1) := by decide +kernel
theorem dL_law_780 : decode cL_law 780 = .ok (.iaload, 1) := by decide +kernel
theorem dL_law_781 : decode cL_law 781 = .ok (.aload_n 0, 1) := by decide +kernel
theorem dL_law_782 : decode cL_law 782 = .ok (.iload_n 3, 1) := by decide +kernel
theorem dL_law_783 : decode cL_law 783 = .ok (.iconst 3, 1) := by decide +kernel
theorem dL_law_784 : decode cL_law 784 = .ok (.iadd, 1) := by decide +kernel
theorem dL_law_785 : decode cL_law 785 = .ok (.iaload, 1) := by decide +kernel
theorem dL_law_786 : decode cL_law 786 = .ok (.aload_n 0, 1) := by decide +kernel
theorem dL_law_787 : decode cL_law 787 = .ok (.iload_n 3, 1) := by decide +kernel
theorem dL_law_788 : decode cL_law 788 = .ok (.iconst 4, 1) := by decide +kernel
theorem dL_law_789 : decode cL_law 789 = .ok (.iadd, 1) := by decide +kernel
theorem dL_law_790 : decode cL_law 790 = .ok (.iaload, 1) := by decide +kernel
theorem dL_law_791 : decode cL_law 791 = .ok (.invokevirtual 91, 3) := by decide +kernel
theorem dL_law_794 : decode cL_law 794 = .ok (.aload_n 2, 1) := by decide +kernel
theorem dL_law_795 : decode cL_law 795 = .ok (.aload_n 0, 1) := by decide +kernel
theorem dL_law_796 : decode cL_law 796 = .ok (.iload_n 3, 1) := by decide +kernel
theorem dL_law_797 : decode cL_law 797 = .ok (.iconst 1, 1) := by decide +kernel
theorem dL_law_798 : decode cL_law 798 = .ok (.iadd, 1) := by decide +kernel
theorem dL_law_799 : decode cL_law 799 = .ok (.iaload, 1) := by decide +kernel
theorem dL_law_800 : decode cL_law 800 = .ok (.aload_n 0, 1) := by decide +kernel
theorem dL_law_801 : decode cL_law 801 = .ok (.iload_n 3, 1) := by decide +kernel
theorem dL_law_802 : decode cL_law 802 = .ok (.iconst 2, 1) := by decide +kernel
theorem dL_law_803 : decode cL_law 803 = .ok (.iadd, 1) := by decide +kernel
theorem dL_law_804 : decode cL_law 804 = .ok (.iaload, 1) := by decide +kernel
theorem dL_law_805 : decode cL_law 805 = .ok (.aload_n 0, 1) := by decide +kernel
theorem dL_law_806 : decode cL_law 806 = .ok (.iload_n 3, 1) := by decide +kernel
theorem dL_law_807 : decode cL_law 807 = .ok (.iconst 3, 1) := by decide +kernel
theorem dL_law_808 : decode cL_law 808 = .ok (.iadd, 1) := by decide +kernel
theorem dL_law_809 : decode cL_law 809 = .ok (.iaload, 1) := by decide +kernel
theorem dL_law_810 : decode cL_law 810 = .ok (.aload_n 0, 1) := by decide +kernel
theorem dL_law_811 : decode cL_law 811 = .ok (.iload_n 3, 1) := by decide +kernel
theorem dL_law_812 : decode cL_law 812 = .ok (.iconst 4, 1) := by decide +kernel
theorem dL_law_813 : decode cL_law 813 = .ok (.iadd, 1) := by decide +kernel
theorem dL_law_814 : decode cL_law 814 = .ok (.iaload, 1) := by decide +kernel
theorem dL_law_815 : decode cL_law 815 = .ok (.invokevirtual 94, 3) := by decide +kernel
theorem dL_law_818 : decode cL_law 818 = .ok (.if_icmp .eq 169, 3) := by decide +kernel
theorem dL_law_821 : decode cL_law 821 = .ok (.iconst 0, 1) := by decide +kernel
theorem dL_law_822 : decode cL_law 822 = .ok (.ireturn, 1) := by decide +kernel
theorem dL_law_823 : decode cL_law 823 = .ok (.aload_n 1, 1) := by decide +kernel
theorem dL_law_824 : decode cL_law 824 = .ok (.invokevirtual 95, 3) := by decide +kernel
theorem dL_law_827 : decode cL_law 827 = .ok (.aload_n 2, 1) := by decide +kernel
theorem dL_law_828 : decode cL_law 828 = .ok (.invokevirtual 98, 3) := by decide +kernel
theorem dL_law_831 : decode cL_law 831 = .ok (.if_icmp .eq 156, 3) := by decide +kernel
theorem dL_law_834 : decode cL_law 834 = .ok (.iconst 0, 1) := by decide +kernel
theorem dL_law_835 : decode cL_law 835 = .ok (.ireturn, 1) := by decide +kernel
theorem dL_law_836 : decode cL_law 836 = .ok (.aload_n 1, 1) := by decide +kernel
theorem dL_law_837 : decode cL_law 837 = .ok (.aload_n 0, 1) := by decide +kernel
theorem dL_law_838 : decode cL_law 838 = .ok (.iload_n 3, 1) := by decide +kernel
theorem dL_law_839 : decode cL_law 839 = .ok (.iconst 1, 1) := by decide +kernel
theorem dL_law_840 : decode cL_law 840 = .ok (.iadd, 1) := by decide +kernel
theorem dL_law_841 : decode cL_law 841 = .ok (.iaload, 1) := by decide +kernel
theorem dL_law_842 : decode cL_law 842 = .ok (.i2l, 1) := by decide +kernel
theorem dL_law_843 : decode cL_law 843 = .ok (.bipush 32, 2) := by decide +kernel
theorem dL_law_845 : decode cL_law 845 = .ok (.lshl, 1) := by decide +kernel
theorem dL_law_846 : decode cL_law 846 = .ok (.aload_n 0, 1) := by decide +kernel
theorem dL_law_847 : decode cL_law 847 = .ok (.iload_n 3, 1) := by decide +kernel
theorem dL_law_848 : decode cL_law 848 = .ok (.iconst 2, 1) := by decide +kernel
theorem dL_law_849 : decode cL_law 849 = .ok (.iadd, 1) := by decide +kernel
theorem dL_law_850 : decode cL_law 850 = .ok (.iaload, 1) := by decide +kernel
theorem dL_law_851 : decode cL_law 851 = .ok (.i2l, 1) := by decide +kernel
theorem dL_law_852 : decode cL_law 852 = .ok (.ldc2_w 99, 3) := by decide +kernel
theorem dL_law_855 : decode cL_law 855 = .ok (.land, 1) := by decide +kernel
theorem dL_law_856 : decode cL_law 856 = .ok (.lor, 1) := by decide +kernel
theorem dL_law_857 : decode cL_law 857 = .ok (.invokevirtual 101, 3) := by decide +kernel
theorem dL_law_860 : decode cL_law 860 = .ok (.aload_n 2, 1) := by decide +kernel
theorem dL_law_861 : decode cL_law 861 = .ok (.aload_n 0, 1) := by decide +kernel
theorem dL_law_862 : decode cL_law 862 = .ok (.iload_n 3, 1) := by decide +kernel
theorem dL_law_863 : decode cL_law 863 = .ok (.iconst 1, 1) := by decide +kernel
theorem dL_law_864 : decode cL_law 864 = .ok (.iadd, 1) := by decide +kernel
theorem dL_law_865 : decode cL_law 865 = .ok (.iaload, 1) := by decide +kernel
theorem dL_law_866 : decode cL_law 866 = .ok (.i2l, 1) := by decide +kernel
theorem dL_law_867 : decode cL_law 867 = .ok (.bipush 32, 2) := by decide +kernel
theorem dL_law_869 : decode cL_law 869 = .ok (.lshl, 1) := by decide +kernel
theorem dL_law_870 : decode cL_law 870 = .ok (.aload_n 0, 1) := by decide +kernel
theorem dL_law_871 : decode cL_law 871 = .ok (.iload_n 3, 1) := by decide +kernel
theorem dL_law_872 : decode cL_law 872 = .ok (.iconst 2, 1) := by decide +kernel
theorem dL_law_873 : decode cL_law 873 = .ok (.iadd, 1) := by decide +kernel
theorem dL_law_874 : decode cL_law 874 = .ok (.iaload, 1) := by decide +kernel
theorem dL_law_875 : decode cL_law 875 = .ok (.i2l, 1) := by decide +kernel
theorem dL_law_876 : decode cL_law 876 = .ok (.ldc2_w 99, 3) := by decide +kernel
theorem dL_law_879 : decode cL_law 879 = .ok (.land, 1) := by decide +kernel
theorem dL_law_880 : decode cL_law 880 = .ok (.lor, 1) := by decide +kernel
theorem dL_law_881 : decode cL_law 881 = .ok (.invokevirtual 105, 3) := by decide +kernel
theorem dL_law_884 : decode cL_law 884 = .ok (.if_icmp .eq 103, 3) := by decide +kernel
theorem dL_law_887 : decode cL_law 887 = .ok (.iconst 0, 1) := by decide +kernel
theorem dL_law_888 : decode cL_law 888 = .ok (.ireturn, 1) := by decide +kernel
theorem dL_law_889 : decode cL_law 889 = .ok (.aload_n 1, 1) := by decide +kernel
theorem dL_law_890 : decode cL_law 890 = .ok (.invokevirtual 106, 3) := by decide +kernel
theorem dL_law_893 : decode cL_law 893 = .ok (.aload_n 2, 1) := by decide +kernel
theorem dL_law_894 : decode cL_law 894 = .ok (.invokevirtual 109, 3) := by decide +kernel
theorem dL_law_897 : decode cL_law 897 = .ok (.if_icmp .eq 90, 3) := by decide +kernel
theorem dL_law_900 : decode cL_law 900 = .ok (.iconst 0, 1) := by decide +kernel
theorem dL_law_901 : decode cL_law 901 = .ok (.ireturn, 1) := by decide +kernel
theorem dL_law_902 : decode cL_law 902 = .ok (.aload_n 1, 1) := by decide +kernel
theorem dL_law_903 : decode cL_law 903 = .ok (.invokevirtual 110, 3) := by decide +kernel
theorem dL_law_906 : decode cL_law 906 = .ok (.aload_n 2, 1) := by decide +kernel
theorem dL_law_907 : decode cL_law 907 = .ok (.invokevirtual 113, 3) := by decide +kernel
theorem dL_law_910 : decode cL_law 910 = .ok (.if_icmp .eq 77, 3) := by decide +kernel
theorem dL_law_913 : decode cL_law 913 = .ok (.iconst 0, 1) := by decide +kernel
theorem dL_law_914 : decode cL_law 914 = .ok (.ireturn, 1) := by decide +kernel
theorem dL_law_915 : decode cL_law 915 = .ok (.aload_n 1, 1) := by decide +kernel
theorem dL_law_916 : decode cL_law 916 = .ok (.invokevirtual 114, 3) := by decide +kernel
theorem dL_law_919 : decode cL_law 919 = .ok (.aload_n 2, 1) := by decide +kernel
theorem dL_law_920 : decode cL_law 920 = .ok (.invokevirtual 117, 3) := by decide +kernel
theorem dL_law_923 : decode cL_law 923 = .ok (.if_icmp .eq 64, 3) := by decide +kernel
theorem dL_law_926 : decode cL_law 926 = .ok (.iconst 0, 1) := by decide +kernel
theorem dL_law_927 : decode cL_law 927 = .ok (.ireturn, 1) := by decide +kernel
theorem dL_law_928 : decode cL_law 928 = .ok (.aload_n 1, 1) := by decide +kernel
theorem dL_law_929 : decode cL_law 929 = .ok (.invokevirtual 118, 3) := by decide +kernel
theorem dL_law_932 : decode cL_law 932 = .ok (.aload_n 2, 1) := by decide +kernel
theorem dL_law_933 : decode cL_law 933 = .ok (.invokevirtual 121, 3) := by decide +kernel
theorem dL_law_936 : decode cL_law 936 = .ok (.if_icmp .eq 51, 3) := by decide +kernel
theorem dL_law_939 : decode cL_law 939 = .ok (.iconst 0, 1) := by decide +kernel
theorem dL_law_940 : decode cL_law 940 = .ok (.ireturn, 1) := by decide +kernel
theorem dL_law_941 : decode cL_law 941 = .ok (.aload_n 1, 1) := by decide +kernel
theorem dL_law_942 : decode cL_law 942 = .ok (.aload_n 0, 1) := by decide +kernel
theorem dL_law_943 : decode cL_law 943 = .ok (.iload_n 3, 1) := by decide +kernel
theorem dL_law_944 : decode cL_law 944 = .ok (.iconst 1, 1) := by decide +kernel
theorem dL_law_945 : decode cL_law 945 = .ok (.iadd, 1) := by decide +kernel
theorem dL_law_946 : decode cL_law 946 = .ok (.iaload, 1) := by decide +kernel
theorem dL_law_947 : decode cL_law 947 = .ok (.invokevirtual 122, 3) := by decide +kernel
theorem dL_law_950 : decode cL_law 950 = .ok (.aload_n 2, 1) := by decide +kernel
theorem dL_law_951 : decode cL_law 951 = .ok (.aload_n 0, 1) := by decide +kernel
theorem dL_law_952 : decode cL_law 952 = .ok (.iload_n 3, 1) := by decide +kernel
theorem dL_law_953 : decode cL_law 953 = .ok (.iconst 1, 1) := by decide +kernel
theorem dL_law_954 : decode cL_law 954 = .ok (.iadd, 1) := by decide +kernel
theorem dL_law_955 : decode cL_law 955 = .ok (.iaload, 1) := by decide +kernel
theorem dL_law_956 : decode cL_law 956 = .ok (.invokevirtual 125, 3) := by decide +kernel
theorem dL_law_959 : decode cL_law 959 = .ok (.if_icmp .eq 28, 3) := by decide +kernel
theorem dL_law_962 : decode cL_law 962 = .ok (.iconst 0, 1) := by decide +kernel
theorem dL_law_963 : decode cL_law 963 = .ok (.ireturn, 1) := by decide +kernel
theorem dL_law_964 : decode cL_law 964 = .ok (.aload_n 1, 1) := by decide +kernel
theorem dL_law_965 : decode cL_law 965 = .ok (.aload_n 0, 1) := by decide +kernel
theorem dL_law_966 : decode cL_law 966 = .ok (.iload_n 3, 1) := by decide +kernel
theorem dL_law_967 : decode cL_law 967 = .ok (.iconst 1, 1) := by decide +kernel
theorem dL_law_968 : decode cL_law 968 = .ok (.iadd, 1) := by decide +kernel
theorem dL_law_969 : decode cL_law 969 = .ok (.iaload, 1) := by decide +kernel
theorem dL_law_970 : decode cL_law 970 = .ok (.invokevirtual 126, 3) := by decide +kernel
theorem dL_law_973 : decode cL_law 973 = .ok (.aload_n 2, 1) := by decide +kernel
theorem dL_law_974 : decode cL_law 974 = .ok (.aload_n 0, 1) := by decide +kernel
theorem dL_law_975 : decode cL_law 975 = .ok (.iload_n 3, 1) := by decide +kernel
theorem dL_law_976 : decode cL_law 976 = .ok (.iconst 1, 1) := by decide +kernel
theorem dL_law_977 : decode cL_law 977 = .ok (.iadd, 1) := by decide +kernel
theorem dL_law_978 : decode cL_law 978 = .ok (.iaload, 1) := by decide +kernel
theorem dL_law_979 : decode cL_law 979 = .ok (.invokevirtual 129, 3) := by decide +kernel
theorem dL_law_982 : decode cL_law 982 = .ok (.if_icmp .eq 5, 3) := by decide +kernel
theorem dL_law_985 : decode cL_law 985 = .ok (.iconst 0, 1) := by decide +kernel
theorem dL_law_986 : decode cL_law 986 = .ok (.ireturn, 1) := by decide +kernel
theorem dL_law_987 : decode cL_law 987 = .ok (.iinc 3 6, 3) := by decide +kernel
theorem dL_law_990 : decode cL_law 990 = .ok (.goto (-972), 3) := by decide +kernel
theorem dL_law_993 : decode cL_law 993 = .ok (.iconst 1, 1) := by decide +kernel
theorem dL_law_994 : decode cL_law 994 = .ok (.ireturn, 1) := by decide +kernel
end
section
/-- the words of lw_tbl that a method may hand on -/
def Tg : List Cond := lw_tbl.filter goodWord
theorem tg {w : Cond} {i : Nat} (h : tables_1[i]? = some w) (g : goodWord w = true) : w ∈ Tg := List.mem_filter.mpr ⟨List.mem_append_right _ (List.mem_of_getElem? h), g⟩
theorem tgs {w : Cond} {i : Nat} (h : (k2_sels lw_privs)[i]? = some w) (g : goodWord w = true) : w ∈ Tg := List.mem_filter.mpr ⟨List.mem_append_left _ (List.mem_of_getElem? h), g⟩
theorem tg_good : Tg.all goodWord = true := List.all_eq_true.mpr fun _ h => (List.mem_filter.mp h).2
/-- the words on nest mates -/
def isNs : Cond → Bool
  | .fieldLinkNest .. => true
  | .methodLinkNest .. => true
  | _ => false
def Tn : List Cond := lw_tbl.filter isNs
theorem tn {w : Cond} {i : Nat} (h : tables_1[i]? = some w) (g : isNs w = true) : w ∈ Tn := List.mem_filter.mpr ⟨List.mem_append_right _ (List.mem_of_getElem? h), g⟩
theorem tw_0 : (Jvm.Cond.initialized "FibreLoopsLaw") ∈ Tg := tg (i := 0) (by decide +kernel) rfl
theorem tw_1 : (Jvm.Cond.initialized "FibreLoops") ∈ Tg := tg (i := 1) (by decide +kernel) rfl
theorem tw_2 : (Jvm.Cond.initialized "FibreLoops$State") ∈ Tg := tg (i := 2) (by decide +kernel) rfl
theorem tw_3 : (Jvm.Cond.initialized "java/lang/Math") ∈ Tg := tg (i := 3) (by decide +kernel) rfl
theorem tw_4 : (Jvm.Cond.initialized "java/lang/System") ∈ Tg := tg (i := 4) (by decide +kernel) rfl
theorem tw_5 : (Jvm.Cond.initialized "FibreLoops$Ring") ∈ Tg := tg (i := 5) (by decide +kernel) rfl
theorem tw_6 : (Jvm.Cond.initialized "FibreLoops$Device") ∈ Tg := tg (i := 6) (by decide +kernel) rfl
theorem tw_7 : (Jvm.Cond.initialized "FibreLoops$Join") ∈ Tg := tg (i := 7) (by decide +kernel) rfl
theorem tw_8 : (Jvm.Cond.initialized "FibreLoops$History") ∈ Tg := tg (i := 8) (by decide +kernel) rfl
theorem tw_9 : (Jvm.Cond.initialized "FibreLoops$Pad") ∈ Tg := tg (i := 9) (by decide +kernel) rfl
theorem tw_10 : (Jvm.Cond.initialized "FibreLoops$OrderReader") ∈ Tg := tg (i := 10) (by decide +kernel) rfl
theorem tw_11 : (Jvm.Cond.initialized "FibreLoopsModel") ∈ Tg := tg (i := 11) (by decide +kernel) rfl
theorem tw_12 : (Jvm.Cond.classLink "FibreLoopsLaw" (7 : Nat) "FibreLoops") ∈ Tg := tg (i := 12) (by decide +kernel) rfl
theorem tw_13 : (Jvm.Cond.instantiable "FibreLoops" (7 : Nat)) ∈ Tg := tg (i := 13) (by decide +kernel) rfl
theorem tw_14 : (Jvm.Cond.methodLink "FibreLoopsLaw" (9 : Nat) ({ cls := "FibreLoops", name := "<init>", desc := "()V" } : Jvm.MethodName)) ∈ Tg := tg (i := 14) (by decide +kernel) rfl
theorem tw_15 : (Jvm.Cond.instanceMethod ({ cls := "FibreLoops", name := "<init>", desc := "()V" } : Jvm.MethodName)) ∈ Tg := tg (i := 15) (by decide +kernel) rfl
theorem tw_16 : (Jvm.Cond.code ({ cls := "FibreLoops", name := "<init>", desc := "()V" } : Jvm.MethodName) prog_1_method_1_code (2 : Nat) (Option.none : Option Jvm.ClassFile.FieldType)) ∈ Tg := tg (i := 16) (by decide +kernel) rfl
theorem tw_17 : (Jvm.Cond.methodLink "FibreLoops" (1 : Nat) ({ cls := "java/lang/Object", name := "<init>", desc := "()V" } : Jvm.MethodName)) ∈ Tg := tg (i := 17) (by decide +kernel) rfl
theorem tw_18 : (Jvm.Cond.instanceMethod ({ cls := "java/lang/Object", name := "<init>", desc := "()V" } : Jvm.MethodName)) ∈ Tg := tg (i := 18) (by decide +kernel) rfl
theorem tw_19 : (Jvm.Cond.code ({ cls := "java/lang/Object", name := "<init>", desc := "()V" } : Jvm.MethodName) object_method_1_code (1 : Nat) (Option.none : Option Jvm.ClassFile.FieldType)) ∈ Tg := tg (i := 19) (by decide +kernel) rfl
theorem tw_20 : (Jvm.Cond.classLink "FibreLoops" (7 : Nat) "FibreLoops$State") ∈ Tg := tg (i := 20) (by decide +kernel) rfl
theorem tw_21 : (Jvm.Cond.instantiable "FibreLoops$State" (8 : Nat)) ∈ Tg := tg (i := 21) (by decide +kernel) rfl
theorem tw_22 : (Jvm.Cond.methodLinkNest "FibreLoops" (9 : Nat) ({ cls := "FibreLoops$State", name := "<init>", desc := "()V" } : Jvm.MethodName) "FibreLoops") ∈ Tn := tn (i := 22) (by decide +kernel) rfl
theorem tw_23 : (Jvm.Cond.instanceMethod ({ cls := "FibreLoops$State", name := "<init>", desc := "()V" } : Jvm.MethodName)) ∈ Tg := tg (i := 23) (by decide +kernel) rfl
theorem tw_24 : (Jvm.Cond.code ({ cls := "FibreLoops$State", name := "<init>", desc := "()V" } : Jvm.MethodName) prog_8_method_1_code (2 : Nat) (Option.none : Option Jvm.ClassFile.FieldType)) ∈ Tg := tg (i := 24) (by decide +kernel) rfl
theorem tw_25 : (Jvm.Cond.methodLink "FibreLoops$State" (3 : Nat) ({ cls := "java/lang/Object", name := "<init>", desc := "()V" } : Jvm.MethodName)) ∈ Tg := tg (i := 25) (by decide +kernel) rfl
theorem tw_26 : (Jvm.Cond.classLink "FibreLoops$State" (15 : Nat) "FibreLoops$Ring") ∈ Tg := tg (i := 26) (by decide +kernel) rfl
theorem tw_27 : (Jvm.Cond.arrayOver (Jvm.ClassFile.FieldType.object "FibreLoops$Ring")) ∈ lw_tbl := List.mem_append_right _ (List.mem_of_getElem? (i := 27) (by decide +kernel))
theorem tw_28 : (Jvm.Cond.classLink "FibreLoops$State" (21 : Nat) "FibreLoops$Device") ∈ Tg := tg (i := 28) (by decide +kernel) rfl
theorem tw_29 : (Jvm.Cond.arrayOver (Jvm.ClassFile.FieldType.object "FibreLoops$Device")) ∈ lw_tbl := List.mem_append_right _ (List.mem_of_getElem? (i := 29) (by decide +kernel))
theorem tw_30 : (Jvm.Cond.classLink "FibreLoops$State" (27 : Nat) "FibreLoops$Join") ∈ Tg := tg (i := 30) (by decide +kernel) rfl
theorem tw_31 : (Jvm.Cond.arrayOver (Jvm.ClassFile.FieldType.object "FibreLoops$Join")) ∈ lw_tbl := List.mem_append_right _ (List.mem_of_getElem? (i := 31) (by decide +kernel))
theorem tw_32 : (Jvm.Cond.fieldLinkNest "FibreLoops$State" (33 : Nat) "FibreLoops" "FIRST_SETTING" "[I" "FibreLoops") ∈ Tn := tn (i := 32) (by decide +kernel) rfl
theorem tw_33 : (Jvm.Cond.laysStatic "FibreLoops" "FIRST_SETTING" "[I") ∈ lw_tbl := List.mem_append_right _ (List.mem_of_getElem? (i := 33) (by decide +kernel))
theorem tw_34 : (Jvm.Cond.methodLinkNest "FibreLoops$State" (36 : Nat) ({ cls := "FibreLoops", name := "copyRow", desc := "([I[I)V" } : Jvm.MethodName) "FibreLoops") ∈ Tn := tn (i := 34) (by decide +kernel) rfl
theorem tw_35 : (Jvm.Cond.static ({ cls := "FibreLoops", name := "copyRow", desc := "([I[I)V" } : Jvm.MethodName)) ∈ Tg := tg (i := 35) (by decide +kernel) rfl
theorem tw_36 : (Jvm.Cond.code ({ cls := "FibreLoops", name := "copyRow", desc := "([I[I)V" } : Jvm.MethodName) prog_1_method_37_code (2 : Nat) (Option.none : Option Jvm.ClassFile.FieldType)) ∈ Tg := tg (i := 36) (by decide +kernel) rfl
theorem tw_37 : (Jvm.Cond.methodLink "FibreLoops" (281 : Nat) ({ cls := "java/lang/Math", name := "min", desc := "(II)I" } : Jvm.MethodName)) ∈ Tg := tg (i := 37) (by decide +kernel) rfl
theorem tw_38 : (Jvm.Cond.static ({ cls := "java/lang/Math", name := "min", desc := "(II)I" } : Jvm.MethodName)) ∈ Tg := tg (i := 38) (by decide +kernel) rfl
theorem tw_39 : (Jvm.Cond.code ({ cls := "java/lang/Math", name := "min", desc := "(II)I" } : Jvm.MethodName) prog_11_method_69_code (2 : Nat) (Option.some Jvm.ClassFile.FieldType.int)) ∈ Tg := tg (i := 39) (by decide +kernel) rfl
theorem tw_40 : (Jvm.Cond.methodLink "FibreLoops" (286 : Nat) ({ cls := "java/lang/System", name := "arraycopy", desc := "(Ljava/lang/Object;ILjava/lang/Object;II)V" } : Jvm.MethodName)) ∈ Tg := tg (i := 40) (by decide +kernel) rfl
theorem tw_41 : (Jvm.Cond.static ({ cls := "java/lang/System", name := "arraycopy", desc := "(Ljava/lang/Object;ILjava/lang/Object;II)V" } : Jvm.MethodName)) ∈ Tg := tg (i := 41) (by decide +kernel) rfl
theorem tw_42 : (Jvm.Cond.native ({ cls := "java/lang/System", name := "arraycopy", desc := "(Ljava/lang/Object;ILjava/lang/Object;II)V" } : Jvm.MethodName)) ∈ Tg := tg (i := 42) (by decide +kernel) rfl
theorem tw_43 : (Jvm.Cond.instantiable "FibreLoops$Ring" (5 : Nat)) ∈ Tg := tg (i := 43) (by decide +kernel) rfl
theorem tw_44 : (Jvm.Cond.methodLinkNest "FibreLoops$State" (40 : Nat) ({ cls := "FibreLoops$Ring", name := "<init>", desc := "()V" } : Jvm.MethodName) "FibreLoops") ∈ Tn := tn (i := 44) (by decide +kernel) rfl
theorem tw_45 : (Jvm.Cond.instanceMethod ({ cls := "FibreLoops$Ring", name := "<init>", desc := "()V" } : Jvm.MethodName)) ∈ Tg := tg (i := 45) (by decide +kernel) rfl
theorem tw_46 : (Jvm.Cond.code ({ cls := "FibreLoops$Ring", name := "<init>", desc := "()V" } : Jvm.MethodName) prog_7_method_1_code (1 : Nat) (Option.none : Option Jvm.ClassFile.FieldType)) ∈ Tg := tg (i := 46) (by decide +kernel) rfl
theorem tw_47 : (Jvm.Cond.methodLink "FibreLoops$Ring" (3 : Nat) ({ cls := "java/lang/Object", name := "<init>", desc := "()V" } : Jvm.MethodName)) ∈ Tg := tg (i := 47) (by decide +kernel) rfl
theorem tw_48 : (Jvm.Cond.fieldLink "FibreLoops$Ring" (24 : Nat) "FibreLoops$Ring" "places" "I") ∈ Tg := tg (i := 48) (by decide +kernel) rfl
theorem tw_49 : (Jvm.Cond.fieldLinkNest "FibreLoops" (105 : Nat) "FibreLoops$Ring" "places" "I" "FibreLoops") ∈ Tn := tn (i := 49) (by decide +kernel) rfl
theorem tw_50 : (Jvm.Cond.fieldLink "FibreLoops$Ring" (9 : Nat) "FibreLoops$Ring" "values" "[I") ∈ Tg := tg (i := 50) (by decide +kernel) rfl
theorem tw_51 : (Jvm.Cond.fieldLink "FibreLoops$Ring" (15 : Nat) "FibreLoops$Ring" "strengths" "[I") ∈ Tg := tg (i := 51) (by decide +kernel) rfl
theorem tw_52 : (Jvm.Cond.fieldLink "FibreLoops$Ring" (18 : Nat) "FibreLoops$Ring" "births" "[I") ∈ Tg := tg (i := 52) (by decide +kernel) rfl
theorem tw_53 : (Jvm.Cond.fieldLink "FibreLoops$Ring" (21 : Nat) "FibreLoops$Ring" "tallies" "[I") ∈ Tg := tg (i := 53) (by decide +kernel) rfl
theorem tw_54 : (Jvm.Cond.lays "FibreLoops$Ring" "FibreLoops$Ring" "places" "I") ∈ Tg := tg (i := 54) (by decide +kernel) rfl
theorem tw_56 : (Jvm.Cond.laysFinal "FibreLoops$Ring" "FibreLoops$Ring" "values" "[I") ∈ Tg := tg (i := 56) (by decide +kernel) rfl
theorem tw_58 : (Jvm.Cond.laysFinal "FibreLoops$Ring" "FibreLoops$Ring" "strengths" "[I") ∈ Tg := tg (i := 58) (by decide +kernel) rfl
theorem tw_60 : (Jvm.Cond.laysFinal "FibreLoops$Ring" "FibreLoops$Ring" "births" "[I") ∈ Tg := tg (i := 60) (by decide +kernel) rfl
theorem tw_62 : (Jvm.Cond.laysFinal "FibreLoops$Ring" "FibreLoops$Ring" "tallies" "[I") ∈ Tg := tg (i := 62) (by decide +kernel) rfl
theorem tw_65 : (Jvm.Cond.arrayClass Jvm.ClassFile.FieldType.int) ∈ Tg := tg (i := 65) (by decide +kernel) rfl
theorem tw_66 : (Jvm.Cond.instantiable "FibreLoops$Device" (9 : Nat)) ∈ Tg := tg (i := 66) (by decide +kernel) rfl
theorem tw_67 : (Jvm.Cond.methodLinkNest "FibreLoops$State" (41 : Nat) ({ cls := "FibreLoops$Device", name := "<init>", desc := "()V" } : Jvm.MethodName) "FibreLoops") ∈ Tn := tn (i := 67) (by decide +kernel) rfl
theorem tw_68 : (Jvm.Cond.instanceMethod ({ cls := "FibreLoops$Device", name := "<init>", desc := "()V" } : Jvm.MethodName)) ∈ Tg := tg (i := 68) (by decide +kernel) rfl
theorem tw_69 : (Jvm.Cond.code ({ cls := "FibreLoops$Device", name := "<init>", desc := "()V" } : Jvm.MethodName) prog_2_method_1_code (1 : Nat) (Option.none : Option Jvm.ClassFile.FieldType)) ∈ Tg := tg (i := 69) (by decide +kernel) rfl
theorem tw_70 : (Jvm.Cond.methodLink "FibreLoops$Device" (3 : Nat) ({ cls := "java/lang/Object", name := "<init>", desc := "()V" } : Jvm.MethodName)) ∈ Tg := tg (i := 70) (by decide +kernel) rfl
theorem tw_71 : (Jvm.Cond.fieldLink "FibreLoops$Device" (22 : Nat) "FibreLoops$Device" "kind" "I") ∈ Tg := tg (i := 71) (by decide +kernel) rfl
theorem tw_72 : (Jvm.Cond.fieldLinkNest "FibreLoops" (129 : Nat) "FibreLoops$Device" "kind" "I" "FibreLoops") ∈ Tn := tn (i := 72) (by decide +kernel) rfl
theorem tw_73 : (Jvm.Cond.fieldLinkNest "FibreLoops$State" (112 : Nat) "FibreLoops$Device" "kind" "I" "FibreLoops") ∈ Tn := tn (i := 73) (by decide +kernel) rfl
theorem tw_74 : (Jvm.Cond.fieldLink "FibreLoops$Device" (15 : Nat) "FibreLoops$Device" "ring" "I") ∈ Tg := tg (i := 74) (by decide +kernel) rfl
theorem tw_75 : (Jvm.Cond.fieldLinkNest "FibreLoops" (134 : Nat) "FibreLoops$Device" "ring" "I" "FibreLoops") ∈ Tn := tn (i := 75) (by decide +kernel) rfl
theorem tw_76 : (Jvm.Cond.fieldLinkNest "FibreLoops$State" (147 : Nat) "FibreLoops$Device" "ring" "I" "FibreLoops") ∈ Tn := tn (i := 76) (by decide +kernel) rfl
theorem tw_77 : (Jvm.Cond.fieldLink "FibreLoops$Device" (19 : Nat) "FibreLoops$Device" "place" "I") ∈ Tg := tg (i := 77) (by decide +kernel) rfl
theorem tw_78 : (Jvm.Cond.fieldLinkNest "FibreLoops" (137 : Nat) "FibreLoops$Device" "place" "I" "FibreLoops") ∈ Tn := tn (i := 78) (by decide +kernel) rfl
theorem tw_79 : (Jvm.Cond.fieldLink "FibreLoops$Device" (25 : Nat) "FibreLoops$Device" "one" "I") ∈ Tg := tg (i := 79) (by decide +kernel) rfl
theorem tw_80 : (Jvm.Cond.fieldLinkNest "FibreLoops" (140 : Nat) "FibreLoops$Device" "one" "I" "FibreLoops") ∈ Tn := tn (i := 80) (by decide +kernel) rfl
theorem tw_81 : (Jvm.Cond.fieldLink "FibreLoops$Device" (28 : Nat) "FibreLoops$Device" "two" "I") ∈ Tg := tg (i := 81) (by decide +kernel) rfl
theorem tw_82 : (Jvm.Cond.fieldLinkNest "FibreLoops" (143 : Nat) "FibreLoops$Device" "two" "I" "FibreLoops") ∈ Tn := tn (i := 82) (by decide +kernel) rfl
theorem tw_83 : (Jvm.Cond.fieldLink "FibreLoops$Device" (31 : Nat) "FibreLoops$Device" "store" "I") ∈ Tg := tg (i := 83) (by decide +kernel) rfl
theorem tw_84 : (Jvm.Cond.fieldLinkNest "FibreLoops" (146 : Nat) "FibreLoops$Device" "store" "I" "FibreLoops") ∈ Tn := tn (i := 84) (by decide +kernel) rfl
theorem tw_85 : (Jvm.Cond.fieldLink "FibreLoops$Device" (34 : Nat) "FibreLoops$Device" "acts" "I") ∈ Tg := tg (i := 85) (by decide +kernel) rfl
theorem tw_86 : (Jvm.Cond.fieldLinkNest "FibreLoops" (152 : Nat) "FibreLoops$Device" "acts" "I" "FibreLoops") ∈ Tn := tn (i := 86) (by decide +kernel) rfl
theorem tw_87 : (Jvm.Cond.fieldLink "FibreLoops$Device" (9 : Nat) "FibreLoops$Device" "row" "[I") ∈ Tg := tg (i := 87) (by decide +kernel) rfl
theorem tw_88 : (Jvm.Cond.fieldLink "FibreLoops$Device" (37 : Nat) "FibreLoops$Device" "kept" "I") ∈ Tg := tg (i := 88) (by decide +kernel) rfl
theorem tw_89 : (Jvm.Cond.fieldLinkNest "FibreLoops" (149 : Nat) "FibreLoops$Device" "kept" "I" "FibreLoops") ∈ Tn := tn (i := 89) (by decide +kernel) rfl
theorem tw_90 : (Jvm.Cond.fieldLinkNest "FibreLoops$State" (118 : Nat) "FibreLoops$Device" "kept" "I" "FibreLoops") ∈ Tn := tn (i := 90) (by decide +kernel) rfl
theorem tw_91 : (Jvm.Cond.lays "FibreLoops$Device" "FibreLoops$Device" "kind" "I") ∈ Tg := tg (i := 91) (by decide +kernel) rfl
theorem tw_93 : (Jvm.Cond.lays "FibreLoops$Device" "FibreLoops$Device" "ring" "I") ∈ Tg := tg (i := 93) (by decide +kernel) rfl
theorem tw_95 : (Jvm.Cond.lays "FibreLoops$Device" "FibreLoops$Device" "place" "I") ∈ Tg := tg (i := 95) (by decide +kernel) rfl
theorem tw_97 : (Jvm.Cond.lays "FibreLoops$Device" "FibreLoops$Device" "one" "I") ∈ Tg := tg (i := 97) (by decide +kernel) rfl
theorem tw_99 : (Jvm.Cond.lays "FibreLoops$Device" "FibreLoops$Device" "two" "I") ∈ Tg := tg (i := 99) (by decide +kernel) rfl
theorem tw_101 : (Jvm.Cond.lays "FibreLoops$Device" "FibreLoops$Device" "store" "I") ∈ Tg := tg (i := 101) (by decide +kernel) rfl
theorem tw_103 : (Jvm.Cond.lays "FibreLoops$Device" "FibreLoops$Device" "acts" "I") ∈ Tg := tg (i := 103) (by decide +kernel) rfl
theorem tw_105 : (Jvm.Cond.laysFinal "FibreLoops$Device" "FibreLoops$Device" "row" "[I") ∈ Tg := tg (i := 105) (by decide +kernel) rfl
theorem tw_107 : (Jvm.Cond.lays "FibreLoops$Device" "FibreLoops$Device" "kept" "I") ∈ Tg := tg (i := 107) (by decide +kernel) rfl
theorem tw_110 : (Jvm.Cond.instantiable "FibreLoops$Join" (6 : Nat)) ∈ Tg := tg (i := 110) (by decide +kernel) rfl
theorem tw_111 : (Jvm.Cond.methodLinkNest "FibreLoops$State" (42 : Nat) ({ cls := "FibreLoops$Join", name := "<init>", desc := "()V" } : Jvm.MethodName) "FibreLoops") ∈ Tn := tn (i := 111) (by decide +kernel) rfl
theorem tw_112 : (Jvm.Cond.instanceMethod ({ cls := "FibreLoops$Join", name := "<init>", desc := "()V" } : Jvm.MethodName)) ∈ Tg := tg (i := 112) (by decide +kernel) rfl
theorem tw_113 : (Jvm.Cond.code ({ cls := "FibreLoops$Join", name := "<init>", desc := "()V" } : Jvm.MethodName) prog_4_method_1_code (1 : Nat) (Option.none : Option Jvm.ClassFile.FieldType)) ∈ Tg := tg (i := 113) (by decide +kernel) rfl
theorem tw_114 : (Jvm.Cond.methodLink "FibreLoops$Join" (3 : Nat) ({ cls := "java/lang/Object", name := "<init>", desc := "()V" } : Jvm.MethodName)) ∈ Tg := tg (i := 114) (by decide +kernel) rfl
theorem tw_115 : (Jvm.Cond.fieldLink "FibreLoops$Join" (9 : Nat) "FibreLoops$Join" "nearRing" "I") ∈ Tg := tg (i := 115) (by decide +kernel) rfl
theorem tw_116 : (Jvm.Cond.fieldLinkNest "FibreLoops" (162 : Nat) "FibreLoops$Join" "nearRing" "I" "FibreLoops") ∈ Tn := tn (i := 116) (by decide +kernel) rfl
theorem tw_117 : (Jvm.Cond.fieldLinkNest "FibreLoops$State" (154 : Nat) "FibreLoops$Join" "nearRing" "I" "FibreLoops") ∈ Tn := tn (i := 117) (by decide +kernel) rfl
theorem tw_118 : (Jvm.Cond.fieldLink "FibreLoops$Join" (15 : Nat) "FibreLoops$Join" "nearPlace" "I") ∈ Tg := tg (i := 118) (by decide +kernel) rfl
theorem tw_119 : (Jvm.Cond.fieldLinkNest "FibreLoops" (167 : Nat) "FibreLoops$Join" "nearPlace" "I" "FibreLoops") ∈ Tn := tn (i := 119) (by decide +kernel) rfl
theorem tw_120 : (Jvm.Cond.fieldLink "FibreLoops$Join" (18 : Nat) "FibreLoops$Join" "farRing" "I") ∈ Tg := tg (i := 120) (by decide +kernel) rfl
theorem tw_121 : (Jvm.Cond.fieldLinkNest "FibreLoops" (170 : Nat) "FibreLoops$Join" "farRing" "I" "FibreLoops") ∈ Tn := tn (i := 121) (by decide +kernel) rfl
theorem tw_122 : (Jvm.Cond.fieldLinkNest "FibreLoops$State" (157 : Nat) "FibreLoops$Join" "farRing" "I" "FibreLoops") ∈ Tn := tn (i := 122) (by decide +kernel) rfl
theorem tw_123 : (Jvm.Cond.fieldLink "FibreLoops$Join" (21 : Nat) "FibreLoops$Join" "farPlace" "I") ∈ Tg := tg (i := 123) (by decide +kernel) rfl
theorem tw_124 : (Jvm.Cond.fieldLinkNest "FibreLoops" (173 : Nat) "FibreLoops$Join" "farPlace" "I" "FibreLoops") ∈ Tn := tn (i := 124) (by decide +kernel) rfl
theorem tw_125 : (Jvm.Cond.fieldLink "FibreLoops$Join" (24 : Nat) "FibreLoops$Join" "mode" "I") ∈ Tg := tg (i := 125) (by decide +kernel) rfl
theorem tw_126 : (Jvm.Cond.fieldLinkNest "FibreLoops$State" (105 : Nat) "FibreLoops$Join" "mode" "I" "FibreLoops") ∈ Tn := tn (i := 126) (by decide +kernel) rfl
theorem tw_127 : (Jvm.Cond.fieldLinkNest "FibreLoops" (176 : Nat) "FibreLoops$Join" "mode" "I" "FibreLoops") ∈ Tn := tn (i := 127) (by decide +kernel) rfl
theorem tw_128 : (Jvm.Cond.fieldLink "FibreLoops$Join" (27 : Nat) "FibreLoops$Join" "passed" "I") ∈ Tg := tg (i := 128) (by decide +kernel) rfl
theorem tw_129 : (Jvm.Cond.fieldLinkNest "FibreLoops" (179 : Nat) "FibreLoops$Join" "passed" "I" "FibreLoops") ∈ Tn := tn (i := 129) (by decide +kernel) rfl
theorem tw_130 : (Jvm.Cond.lays "FibreLoops$Join" "FibreLoops$Join" "nearRing" "I") ∈ Tg := tg (i := 130) (by decide +kernel) rfl
theorem tw_132 : (Jvm.Cond.lays "FibreLoops$Join" "FibreLoops$Join" "nearPlace" "I") ∈ Tg := tg (i := 132) (by decide +kernel) rfl
theorem tw_134 : (Jvm.Cond.lays "FibreLoops$Join" "FibreLoops$Join" "farRing" "I") ∈ Tg := tg (i := 134) (by decide +kernel) rfl
theorem tw_136 : (Jvm.Cond.lays "FibreLoops$Join" "FibreLoops$Join" "farPlace" "I") ∈ Tg := tg (i := 136) (by decide +kernel) rfl
theorem tw_138 : (Jvm.Cond.lays "FibreLoops$Join" "FibreLoops$Join" "mode" "I") ∈ Tg := tg (i := 138) (by decide +kernel) rfl
theorem tw_140 : (Jvm.Cond.lays "FibreLoops$Join" "FibreLoops$Join" "passed" "I") ∈ Tg := tg (i := 140) (by decide +kernel) rfl
theorem tw_143 : (Jvm.Cond.fieldLink "FibreLoops$State" (9 : Nat) "FibreLoops$State" "settings" "[I") ∈ Tg := tg (i := 143) (by decide +kernel) rfl
theorem tw_144 : (Jvm.Cond.fieldLink "FibreLoops$State" (17 : Nat) "FibreLoops$State" "rings" "[LFibreLoops$Ring;") ∈ Tg := tg (i := 144) (by decide +kernel) rfl
theorem tw_145 : (Jvm.Cond.fieldLink "FibreLoops$State" (23 : Nat) "FibreLoops$State" "devices" "[LFibreLoops$Device;") ∈ Tg := tg (i := 145) (by decide +kernel) rfl
theorem tw_146 : (Jvm.Cond.fieldLink "FibreLoops$State" (29 : Nat) "FibreLoops$State" "joins" "[LFibreLoops$Join;") ∈ Tg := tg (i := 146) (by decide +kernel) rfl
theorem tw_147 : (Jvm.Cond.fieldLink "FibreLoops$State" (43 : Nat) "FibreLoops$State" "tick" "I") ∈ Tg := tg (i := 147) (by decide +kernel) rfl
theorem tw_148 : (Jvm.Cond.fieldLinkNest "FibreLoops$Device" (64 : Nat) "FibreLoops$State" "tick" "I" "FibreLoops") ∈ Tn := tn (i := 148) (by decide +kernel) rfl
theorem tw_149 : (Jvm.Cond.fieldLinkNest "FibreLoops" (98 : Nat) "FibreLoops$State" "tick" "I" "FibreLoops") ∈ Tn := tn (i := 149) (by decide +kernel) rfl
theorem tw_150 : (Jvm.Cond.fieldLink "FibreLoops$State" (47 : Nat) "FibreLoops$State" "ringCount" "I") ∈ Tg := tg (i := 150) (by decide +kernel) rfl
theorem tw_151 : (Jvm.Cond.fieldLinkNest "FibreLoops" (190 : Nat) "FibreLoops$State" "ringCount" "I" "FibreLoops") ∈ Tn := tn (i := 151) (by decide +kernel) rfl
theorem tw_152 : (Jvm.Cond.fieldLink "FibreLoops$State" (50 : Nat) "FibreLoops$State" "deviceCount" "I") ∈ Tg := tg (i := 152) (by decide +kernel) rfl
theorem tw_153 : (Jvm.Cond.fieldLinkNest "FibreLoops" (193 : Nat) "FibreLoops$State" "deviceCount" "I" "FibreLoops") ∈ Tn := tn (i := 153) (by decide +kernel) rfl
theorem tw_154 : (Jvm.Cond.fieldLink "FibreLoops$State" (53 : Nat) "FibreLoops$State" "joinCount" "I") ∈ Tg := tg (i := 154) (by decide +kernel) rfl
theorem tw_155 : (Jvm.Cond.fieldLinkNest "FibreLoops" (196 : Nat) "FibreLoops$State" "joinCount" "I" "FibreLoops") ∈ Tn := tn (i := 155) (by decide +kernel) rfl
theorem tw_156 : (Jvm.Cond.laysFinal "FibreLoops$State" "FibreLoops$State" "settings" "[I") ∈ Tg := tg (i := 156) (by decide +kernel) rfl
theorem tw_158 : (Jvm.Cond.laysFinal "FibreLoops$State" "FibreLoops$State" "rings" "[LFibreLoops$Ring;") ∈ Tg := tg (i := 158) (by decide +kernel) rfl
theorem tw_160 : (Jvm.Cond.laysFinal "FibreLoops$State" "FibreLoops$State" "devices" "[LFibreLoops$Device;") ∈ Tg := tg (i := 160) (by decide +kernel) rfl
theorem tw_162 : (Jvm.Cond.laysFinal "FibreLoops$State" "FibreLoops$State" "joins" "[LFibreLoops$Join;") ∈ Tg := tg (i := 162) (by decide +kernel) rfl
theorem tw_164 : (Jvm.Cond.lays "FibreLoops$State" "FibreLoops$State" "tick" "I") ∈ Tg := tg (i := 164) (by decide +kernel) rfl
theorem tw_166 : (Jvm.Cond.lays "FibreLoops$State" "FibreLoops$State" "ringCount" "I") ∈ Tg := tg (i := 166) (by decide +kernel) rfl
theorem tw_168 : (Jvm.Cond.lays "FibreLoops$State" "FibreLoops$State" "deviceCount" "I") ∈ Tg := tg (i := 168) (by decide +kernel) rfl
theorem tw_170 : (Jvm.Cond.lays "FibreLoops$State" "FibreLoops$State" "joinCount" "I") ∈ Tg := tg (i := 170) (by decide +kernel) rfl
theorem tw_173 : (Jvm.Cond.classLink "FibreLoops" (19 : Nat) "FibreLoops$History") ∈ Tg := tg (i := 173) (by decide +kernel) rfl
theorem tw_174 : (Jvm.Cond.instantiable "FibreLoops$History" (2 : Nat)) ∈ Tg := tg (i := 174) (by decide +kernel) rfl
theorem tw_175 : (Jvm.Cond.methodLinkNest "FibreLoops" (21 : Nat) ({ cls := "FibreLoops$History", name := "<init>", desc := "()V" } : Jvm.MethodName) "FibreLoops") ∈ Tn := tn (i := 175) (by decide +kernel) rfl
theorem tw_176 : (Jvm.Cond.instanceMethod ({ cls := "FibreLoops$History", name := "<init>", desc := "()V" } : Jvm.MethodName)) ∈ Tg := tg (i := 176) (by decide +kernel) rfl
theorem tw_177 : (Jvm.Cond.code ({ cls := "FibreLoops$History", name := "<init>", desc := "()V" } : Jvm.MethodName) prog_3_method_1_code (2 : Nat) (Option.none : Option Jvm.ClassFile.FieldType)) ∈ Tg := tg (i := 177) (by decide +kernel) rfl
theorem tw_178 : (Jvm.Cond.methodLink "FibreLoops$History" (3 : Nat) ({ cls := "java/lang/Object", name := "<init>", desc := "()V" } : Jvm.MethodName)) ∈ Tg := tg (i := 178) (by decide +kernel) rfl
theorem tw_179 : (Jvm.Cond.classLink "FibreLoops$History" (9 : Nat) "FibreLoops$State") ∈ Tg := tg (i := 179) (by decide +kernel) rfl
theorem tw_180 : (Jvm.Cond.arrayOver (Jvm.ClassFile.FieldType.object "FibreLoops$State")) ∈ lw_tbl := List.mem_append_right _ (List.mem_of_getElem? (i := 180) (by decide +kernel))
theorem tw_181 : (Jvm.Cond.methodLinkNest "FibreLoops$History" (17 : Nat) ({ cls := "FibreLoops$State", name := "<init>", desc := "()V" } : Jvm.MethodName) "FibreLoops") ∈ Tn := tn (i := 181) (by decide +kernel) rfl
theorem tw_182 : (Jvm.Cond.fieldLink "FibreLoops$History" (11 : Nat) "FibreLoops$History" "states" "[LFibreLoops$State;") ∈ Tg := tg (i := 182) (by decide +kernel) rfl
theorem tw_183 : (Jvm.Cond.fieldLink "FibreLoops$History" (18 : Nat) "FibreLoops$History" "size" "I") ∈ Tg := tg (i := 183) (by decide +kernel) rfl
theorem tw_184 : (Jvm.Cond.fieldLinkNest "FibreLoops" (211 : Nat) "FibreLoops$History" "size" "I" "FibreLoops") ∈ Tn := tn (i := 184) (by decide +kernel) rfl
theorem tw_185 : (Jvm.Cond.laysFinal "FibreLoops$History" "FibreLoops$History" "states" "[LFibreLoops$State;") ∈ Tg := tg (i := 185) (by decide +kernel) rfl
theorem tw_187 : (Jvm.Cond.lays "FibreLoops$History" "FibreLoops$History" "size" "I") ∈ Tg := tg (i := 187) (by decide +kernel) rfl
theorem tw_190 : (Jvm.Cond.classLink "FibreLoops" (34 : Nat) "FibreLoops$Pad") ∈ Tg := tg (i := 190) (by decide +kernel) rfl
theorem tw_191 : (Jvm.Cond.instantiable "FibreLoops$Pad" (2 : Nat)) ∈ Tg := tg (i := 191) (by decide +kernel) rfl
theorem tw_192 : (Jvm.Cond.methodLinkNest "FibreLoops" (36 : Nat) ({ cls := "FibreLoops$Pad", name := "<init>", desc := "()V" } : Jvm.MethodName) "FibreLoops") ∈ Tn := tn (i := 192) (by decide +kernel) rfl
theorem tw_193 : (Jvm.Cond.instanceMethod ({ cls := "FibreLoops$Pad", name := "<init>", desc := "()V" } : Jvm.MethodName)) ∈ Tg := tg (i := 193) (by decide +kernel) rfl
theorem tw_194 : (Jvm.Cond.code ({ cls := "FibreLoops$Pad", name := "<init>", desc := "()V" } : Jvm.MethodName) prog_6_method_1_code (1 : Nat) (Option.none : Option Jvm.ClassFile.FieldType)) ∈ Tg := tg (i := 194) (by decide +kernel) rfl
theorem tw_195 : (Jvm.Cond.methodLink "FibreLoops$Pad" (3 : Nat) ({ cls := "java/lang/Object", name := "<init>", desc := "()V" } : Jvm.MethodName)) ∈ Tg := tg (i := 195) (by decide +kernel) rfl
theorem tw_196 : (Jvm.Cond.fieldLink "FibreLoops$Pad" (9 : Nat) "FibreLoops$Pad" "signs" "[C") ∈ Tg := tg (i := 196) (by decide +kernel) rfl
theorem tw_197 : (Jvm.Cond.fieldLink "FibreLoops$Pad" (15 : Nat) "FibreLoops$Pad" "length" "I") ∈ Tg := tg (i := 197) (by decide +kernel) rfl
theorem tw_198 : (Jvm.Cond.fieldLinkNest "FibreLoops$OrderReader" (33 : Nat) "FibreLoops$Pad" "length" "I" "FibreLoops") ∈ Tn := tn (i := 198) (by decide +kernel) rfl
theorem tw_199 : (Jvm.Cond.fieldLinkNest "FibreLoops" (208 : Nat) "FibreLoops$Pad" "length" "I" "FibreLoops") ∈ Tn := tn (i := 199) (by decide +kernel) rfl
theorem tw_200 : (Jvm.Cond.laysFinal "FibreLoops$Pad" "FibreLoops$Pad" "signs" "[C") ∈ Tg := tg (i := 200) (by decide +kernel) rfl
theorem tw_202 : (Jvm.Cond.lays "FibreLoops$Pad" "FibreLoops$Pad" "length" "I") ∈ Tg := tg (i := 202) (by decide +kernel) rfl
theorem tw_205 : (Jvm.Cond.arrayClass Jvm.ClassFile.FieldType.boolean) ∈ Tg := tg (i := 205) (by decide +kernel) rfl
theorem tw_206 : (Jvm.Cond.arrayClass Jvm.ClassFile.FieldType.char) ∈ Tg := tg (i := 206) (by decide +kernel) rfl
theorem tw_207 : (Jvm.Cond.classLink "FibreLoops" (41 : Nat) "FibreLoops$OrderReader") ∈ Tg := tg (i := 207) (by decide +kernel) rfl
theorem tw_208 : (Jvm.Cond.instantiable "FibreLoops$OrderReader" (5 : Nat)) ∈ Tg := tg (i := 208) (by decide +kernel) rfl
theorem tw_209 : (Jvm.Cond.methodLinkNest "FibreLoops" (43 : Nat) ({ cls := "FibreLoops$OrderReader", name := "<init>", desc := "(LFibreLoops$Pad;)V" } : Jvm.MethodName) "FibreLoops") ∈ Tn := tn (i := 209) (by decide +kernel) rfl
theorem tw_210 : (Jvm.Cond.instanceMethod ({ cls := "FibreLoops$OrderReader", name := "<init>", desc := "(LFibreLoops$Pad;)V" } : Jvm.MethodName)) ∈ Tg := tg (i := 210) (by decide +kernel) rfl
theorem tw_211 : (Jvm.Cond.code ({ cls := "FibreLoops$OrderReader", name := "<init>", desc := "(LFibreLoops$Pad;)V" } : Jvm.MethodName) prog_5_method_1_code (2 : Nat) (Option.none : Option Jvm.ClassFile.FieldType)) ∈ Tg := tg (i := 211) (by decide +kernel) rfl
theorem tw_212 : (Jvm.Cond.methodLink "FibreLoops$OrderReader" (3 : Nat) ({ cls := "java/lang/Object", name := "<init>", desc := "()V" } : Jvm.MethodName)) ∈ Tg := tg (i := 212) (by decide +kernel) rfl
theorem tw_213 : (Jvm.Cond.fieldLink "FibreLoops$OrderReader" (15 : Nat) "FibreLoops$OrderReader" "pad" "LFibreLoops$Pad;") ∈ Tg := tg (i := 213) (by decide +kernel) rfl
theorem tw_214 : (Jvm.Cond.fieldLink "FibreLoops$OrderReader" (19 : Nat) "FibreLoops$OrderReader" "next" "I") ∈ Tg := tg (i := 214) (by decide +kernel) rfl
theorem tw_215 : (Jvm.Cond.fieldLink "FibreLoops$OrderReader" (46 : Nat) "FibreLoops$OrderReader" "letter" "C") ∈ Tg := tg (i := 215) (by decide +kernel) rfl
theorem tw_216 : (Jvm.Cond.fieldLinkNest "FibreLoops" (261 : Nat) "FibreLoops$OrderReader" "letter" "C" "FibreLoops") ∈ Tn := tn (i := 216) (by decide +kernel) rfl
theorem tw_217 : (Jvm.Cond.fieldLink "FibreLoops$OrderReader" (9 : Nat) "FibreLoops$OrderReader" "numbers" "[I") ∈ Tg := tg (i := 217) (by decide +kernel) rfl
theorem tw_218 : (Jvm.Cond.fieldLink "FibreLoops$OrderReader" (23 : Nat) "FibreLoops$OrderReader" "numberCount" "I") ∈ Tg := tg (i := 218) (by decide +kernel) rfl
theorem tw_219 : (Jvm.Cond.fieldLinkNest "FibreLoops" (268 : Nat) "FibreLoops$OrderReader" "numberCount" "I" "FibreLoops") ∈ Tn := tn (i := 219) (by decide +kernel) rfl
theorem tw_220 : (Jvm.Cond.laysFinal "FibreLoops$OrderReader" "FibreLoops$OrderReader" "pad" "LFibreLoops$Pad;") ∈ Tg := tg (i := 220) (by decide +kernel) rfl
theorem tw_222 : (Jvm.Cond.lays "FibreLoops$OrderReader" "FibreLoops$OrderReader" "next" "I") ∈ Tg := tg (i := 222) (by decide +kernel) rfl
theorem tw_224 : (Jvm.Cond.lays "FibreLoops$OrderReader" "FibreLoops$OrderReader" "letter" "C") ∈ Tg := tg (i := 224) (by decide +kernel) rfl
theorem tw_226 : (Jvm.Cond.laysFinal "FibreLoops$OrderReader" "FibreLoops$OrderReader" "numbers" "[I") ∈ Tg := tg (i := 226) (by decide +kernel) rfl
theorem tw_228 : (Jvm.Cond.lays "FibreLoops$OrderReader" "FibreLoops$OrderReader" "numberCount" "I") ∈ Tg := tg (i := 228) (by decide +kernel) rfl
theorem tw_231 : (Jvm.Cond.fieldLink "FibreLoops" (10 : Nat) "FibreLoops" "now" "LFibreLoops$State;") ∈ Tg := tg (i := 231) (by decide +kernel) rfl
theorem tw_232 : (Jvm.Cond.fieldLink "FibreLoops" (16 : Nat) "FibreLoops" "trial" "LFibreLoops$State;") ∈ Tg := tg (i := 232) (by decide +kernel) rfl
theorem tw_233 : (Jvm.Cond.fieldLink "FibreLoops" (22 : Nat) "FibreLoops" "history" "LFibreLoops$History;") ∈ Tg := tg (i := 233) (by decide +kernel) rfl
theorem tw_234 : (Jvm.Cond.fieldLink "FibreLoops" (26 : Nat) "FibreLoops" "slots" "[LFibreLoops$State;") ∈ Tg := tg (i := 234) (by decide +kernel) rfl
theorem tw_235 : (Jvm.Cond.fieldLink "FibreLoops" (30 : Nat) "FibreLoops" "filled" "[Z") ∈ Tg := tg (i := 235) (by decide +kernel) rfl
theorem tw_236 : (Jvm.Cond.fieldLink "FibreLoops" (37 : Nat) "FibreLoops" "pad" "LFibreLoops$Pad;") ∈ Tg := tg (i := 236) (by decide +kernel) rfl
theorem tw_237 : (Jvm.Cond.fieldLink "FibreLoops" (46 : Nat) "FibreLoops" "orders" "LFibreLoops$OrderReader;") ∈ Tg := tg (i := 237) (by decide +kernel) rfl
theorem tw_238 : (Jvm.Cond.laysFinal "FibreLoops" "FibreLoops" "now" "LFibreLoops$State;") ∈ Tg := tg (i := 238) (by decide +kernel) rfl
theorem tw_240 : (Jvm.Cond.laysFinal "FibreLoops" "FibreLoops" "trial" "LFibreLoops$State;") ∈ Tg := tg (i := 240) (by decide +kernel) rfl
theorem tw_242 : (Jvm.Cond.laysFinal "FibreLoops" "FibreLoops" "history" "LFibreLoops$History;") ∈ Tg := tg (i := 242) (by decide +kernel) rfl
theorem tw_244 : (Jvm.Cond.laysFinal "FibreLoops" "FibreLoops" "slots" "[LFibreLoops$State;") ∈ Tg := tg (i := 244) (by decide +kernel) rfl
theorem tw_246 : (Jvm.Cond.laysFinal "FibreLoops" "FibreLoops" "filled" "[Z") ∈ Tg := tg (i := 246) (by decide +kernel) rfl
theorem tw_248 : (Jvm.Cond.laysFinal "FibreLoops" "FibreLoops" "pad" "LFibreLoops$Pad;") ∈ Tg := tg (i := 248) (by decide +kernel) rfl
theorem tw_250 : (Jvm.Cond.laysFinal "FibreLoops" "FibreLoops" "orders" "LFibreLoops$OrderReader;") ∈ Tg := tg (i := 250) (by decide +kernel) rfl
theorem tw_253 : (Jvm.Cond.methodLink "FibreLoopsLaw" (13 : Nat) ({ cls := "FibreLoops", name := "set", desc := "(II)I" } : Jvm.MethodName)) ∈ Tg := tg (i := 253) (by decide +kernel) rfl
theorem tw_254 : (Jvm.Cond.instanceMethod ({ cls := "FibreLoops", name := "set", desc := "(II)I" } : Jvm.MethodName)) ∈ Tg := tg (i := 254) (by decide +kernel) rfl
theorem tw_255 : (Jvm.Cond.selects "FibreLoops" ({ cls := "FibreLoops", name := "set", desc := "(II)I" } : Jvm.MethodName) ({ cls := "FibreLoops", name := "set", desc := "(II)I" } : Jvm.MethodName)) ∈ Tg := tg (i := 255) (by decide +kernel) rfl
theorem tw_256 : (Jvm.Cond.code ({ cls := "FibreLoops", name := "set", desc := "(II)I" } : Jvm.MethodName) prog_1_method_2_code (3 : Nat) (Option.some Jvm.ClassFile.FieldType.int)) ∈ Tg := tg (i := 256) (by decide +kernel) rfl
theorem tw_257 : (Jvm.Cond.methodLinkNest "FibreLoops" (50 : Nat) ({ cls := "FibreLoops$History", name := "holdBack", desc := "(LFibreLoops$State;)V" } : Jvm.MethodName) "FibreLoops") ∈ Tn := tn (i := 257) (by decide +kernel) rfl
theorem tw_259 : (Jvm.Cond.instanceMethod ({ cls := "FibreLoops$History", name := "holdBack", desc := "(LFibreLoops$State;)V" } : Jvm.MethodName)) ∈ Tg := tg (i := 259) (by decide +kernel) rfl
theorem tw_260 : (Jvm.Cond.code ({ cls := "FibreLoops$History", name := "holdBack", desc := "(LFibreLoops$State;)V" } : Jvm.MethodName) prog_3_method_2_code (2 : Nat) (Option.none : Option Jvm.ClassFile.FieldType)) ∈ Tg := tg (i := 260) (by decide +kernel) rfl
theorem tw_261 : (Jvm.Cond.methodLinkNest "FibreLoops$History" (22 : Nat) ({ cls := "FibreLoops$State", name := "copyFrom", desc := "(LFibreLoops$State;)V" } : Jvm.MethodName) "FibreLoops") ∈ Tn := tn (i := 261) (by decide +kernel) rfl
theorem tw_263 : (Jvm.Cond.instanceMethod ({ cls := "FibreLoops$State", name := "copyFrom", desc := "(LFibreLoops$State;)V" } : Jvm.MethodName)) ∈ Tg := tg (i := 263) (by decide +kernel) rfl
theorem tw_264 : (Jvm.Cond.code ({ cls := "FibreLoops$State", name := "copyFrom", desc := "(LFibreLoops$State;)V" } : Jvm.MethodName) prog_8_method_2_code (3 : Nat) (Option.none : Option Jvm.ClassFile.FieldType)) ∈ Tg := tg (i := 264) (by decide +kernel) rfl
theorem tw_265 : (Jvm.Cond.methodLinkNest "FibreLoops$State" (56 : Nat) ({ cls := "FibreLoops$Ring", name := "copyFrom", desc := "(LFibreLoops$Ring;)V" } : Jvm.MethodName) "FibreLoops") ∈ Tn := tn (i := 265) (by decide +kernel) rfl
theorem tw_267 : (Jvm.Cond.instanceMethod ({ cls := "FibreLoops$Ring", name := "copyFrom", desc := "(LFibreLoops$Ring;)V" } : Jvm.MethodName)) ∈ Tg := tg (i := 267) (by decide +kernel) rfl
theorem tw_268 : (Jvm.Cond.code ({ cls := "FibreLoops$Ring", name := "copyFrom", desc := "(LFibreLoops$Ring;)V" } : Jvm.MethodName) prog_7_method_3_code (2 : Nat) (Option.none : Option Jvm.ClassFile.FieldType)) ∈ Tg := tg (i := 268) (by decide +kernel) rfl
theorem tw_269 : (Jvm.Cond.methodLinkNest "FibreLoops$Ring" (28 : Nat) ({ cls := "FibreLoops", name := "copyRow", desc := "([I[I)V" } : Jvm.MethodName) "FibreLoops") ∈ Tn := tn (i := 269) (by decide +kernel) rfl
theorem tw_270 : (Jvm.Cond.methodLinkNest "FibreLoops$State" (60 : Nat) ({ cls := "FibreLoops$Device", name := "copyFrom", desc := "(LFibreLoops$Device;)V" } : Jvm.MethodName) "FibreLoops") ∈ Tn := tn (i := 270) (by decide +kernel) rfl
theorem tw_272 : (Jvm.Cond.instanceMethod ({ cls := "FibreLoops$Device", name := "copyFrom", desc := "(LFibreLoops$Device;)V" } : Jvm.MethodName)) ∈ Tg := tg (i := 272) (by decide +kernel) rfl
theorem tw_273 : (Jvm.Cond.code ({ cls := "FibreLoops$Device", name := "copyFrom", desc := "(LFibreLoops$Device;)V" } : Jvm.MethodName) prog_2_method_3_code (2 : Nat) (Option.none : Option Jvm.ClassFile.FieldType)) ∈ Tg := tg (i := 273) (by decide +kernel) rfl
theorem tw_274 : (Jvm.Cond.methodLinkNest "FibreLoops$Device" (40 : Nat) ({ cls := "FibreLoops", name := "copyRow", desc := "([I[I)V" } : Jvm.MethodName) "FibreLoops") ∈ Tn := tn (i := 274) (by decide +kernel) rfl
theorem tw_275 : (Jvm.Cond.methodLinkNest "FibreLoops$State" (63 : Nat) ({ cls := "FibreLoops$Join", name := "copyFrom", desc := "(LFibreLoops$Join;)V" } : Jvm.MethodName) "FibreLoops") ∈ Tn := tn (i := 275) (by decide +kernel) rfl
theorem tw_277 : (Jvm.Cond.instanceMethod ({ cls := "FibreLoops$Join", name := "copyFrom", desc := "(LFibreLoops$Join;)V" } : Jvm.MethodName)) ∈ Tg := tg (i := 277) (by decide +kernel) rfl
theorem tw_278 : (Jvm.Cond.code ({ cls := "FibreLoops$Join", name := "copyFrom", desc := "(LFibreLoops$Join;)V" } : Jvm.MethodName) prog_4_method_3_code (2 : Nat) (Option.none : Option Jvm.ClassFile.FieldType)) ∈ Tg := tg (i := 278) (by decide +kernel) rfl
theorem tw_279 : (Jvm.Cond.methodLinkNest "FibreLoops" (54 : Nat) ({ cls := "FibreLoops$State", name := "changeSetting", desc := "(II)I" } : Jvm.MethodName) "FibreLoops") ∈ Tn := tn (i := 279) (by decide +kernel) rfl
theorem tw_281 : (Jvm.Cond.instanceMethod ({ cls := "FibreLoops$State", name := "changeSetting", desc := "(II)I" } : Jvm.MethodName)) ∈ Tg := tg (i := 281) (by decide +kernel) rfl
theorem tw_282 : (Jvm.Cond.code ({ cls := "FibreLoops$State", name := "changeSetting", desc := "(II)I" } : Jvm.MethodName) prog_8_method_8_code (4 : Nat) (Option.some Jvm.ClassFile.FieldType.int)) ∈ Tg := tg (i := 282) (by decide +kernel) rfl
theorem tw_283 : (Jvm.Cond.methodLinkNest "FibreLoops$State" (74 : Nat) ({ cls := "FibreLoops", name := "isBetween", desc := "(III)Z" } : Jvm.MethodName) "FibreLoops") ∈ Tn := tn (i := 283) (by decide +kernel) rfl
theorem tw_284 : (Jvm.Cond.static ({ cls := "FibreLoops", name := "isBetween", desc := "(III)Z" } : Jvm.MethodName)) ∈ Tg := tg (i := 284) (by decide +kernel) rfl
theorem tw_285 : (Jvm.Cond.code ({ cls := "FibreLoops", name := "isBetween", desc := "(III)Z" } : Jvm.MethodName) prog_1_method_32_code (3 : Nat) (Option.some Jvm.ClassFile.FieldType.boolean)) ∈ Tg := tg (i := 285) (by decide +kernel) rfl
theorem tw_286 : (Jvm.Cond.fieldLinkNest "FibreLoops$State" (78 : Nat) "FibreLoops" "LOWEST_SETTING" "[I" "FibreLoops") ∈ Tn := tn (i := 286) (by decide +kernel) rfl
theorem tw_287 : (Jvm.Cond.laysStatic "FibreLoops" "LOWEST_SETTING" "[I") ∈ lw_tbl := List.mem_append_right _ (List.mem_of_getElem? (i := 287) (by decide +kernel))
theorem tw_288 : (Jvm.Cond.fieldLinkNest "FibreLoops$State" (81 : Nat) "FibreLoops" "HIGHEST_SETTING" "[I" "FibreLoops") ∈ Tn := tn (i := 288) (by decide +kernel) rfl
theorem tw_289 : (Jvm.Cond.laysStatic "FibreLoops" "HIGHEST_SETTING" "[I") ∈ lw_tbl := List.mem_append_right _ (List.mem_of_getElem? (i := 289) (by decide +kernel))
theorem tw_290 : (Jvm.Cond.methodLinkNest "FibreLoops" (58 : Nat) ({ cls := "FibreLoops$History", name := "keepIfDone", desc := "(I)I" } : Jvm.MethodName) "FibreLoops") ∈ Tn := tn (i := 290) (by decide +kernel) rfl
theorem tw_292 : (Jvm.Cond.instanceMethod ({ cls := "FibreLoops$History", name := "keepIfDone", desc := "(I)I" } : Jvm.MethodName)) ∈ Tg := tg (i := 292) (by decide +kernel) rfl
theorem tw_293 : (Jvm.Cond.code ({ cls := "FibreLoops$History", name := "keepIfDone", desc := "(I)I" } : Jvm.MethodName) prog_3_method_3_code (2 : Nat) (Option.some Jvm.ClassFile.FieldType.int)) ∈ Tg := tg (i := 293) (by decide +kernel) rfl
theorem tw_294 : (Jvm.Cond.methodLink "FibreLoops$History" (26 : Nat) ({ cls := "FibreLoops$History", name := "dropOldest", desc := "()V" } : Jvm.MethodName)) ∈ Tg := tg (i := 294) (by decide +kernel) rfl
theorem tw_296 : (Jvm.Cond.instanceMethod ({ cls := "FibreLoops$History", name := "dropOldest", desc := "()V" } : Jvm.MethodName)) ∈ Tg := tg (i := 296) (by decide +kernel) rfl
theorem tw_297 : (Jvm.Cond.code ({ cls := "FibreLoops$History", name := "dropOldest", desc := "()V" } : Jvm.MethodName) prog_3_method_4_code (3 : Nat) (Option.none : Option Jvm.ClassFile.FieldType)) ∈ Tg := tg (i := 297) (by decide +kernel) rfl
theorem tw_298 : (Jvm.Cond.methodLink "FibreLoopsLaw" (18 : Nat) ({ cls := "FibreLoops", name := "loop", desc := "(I)I" } : Jvm.MethodName)) ∈ Tg := tg (i := 298) (by decide +kernel) rfl
theorem tw_299 : (Jvm.Cond.instanceMethod ({ cls := "FibreLoops", name := "loop", desc := "(I)I" } : Jvm.MethodName)) ∈ Tg := tg (i := 299) (by decide +kernel) rfl
theorem tw_300 : (Jvm.Cond.selects "FibreLoops" ({ cls := "FibreLoops", name := "loop", desc := "(I)I" } : Jvm.MethodName) ({ cls := "FibreLoops", name := "loop", desc := "(I)I" } : Jvm.MethodName)) ∈ Tg := tg (i := 300) (by decide +kernel) rfl
theorem tw_301 : (Jvm.Cond.code ({ cls := "FibreLoops", name := "loop", desc := "(I)I" } : Jvm.MethodName) prog_1_method_3_code (2 : Nat) (Option.some Jvm.ClassFile.FieldType.int)) ∈ Tg := tg (i := 301) (by decide +kernel) rfl
theorem tw_302 : (Jvm.Cond.methodLinkNest "FibreLoops" (62 : Nat) ({ cls := "FibreLoops$State", name := "addRing", desc := "(I)I" } : Jvm.MethodName) "FibreLoops") ∈ Tn := tn (i := 302) (by decide +kernel) rfl
theorem tw_304 : (Jvm.Cond.instanceMethod ({ cls := "FibreLoops$State", name := "addRing", desc := "(I)I" } : Jvm.MethodName)) ∈ Tg := tg (i := 304) (by decide +kernel) rfl
theorem tw_305 : (Jvm.Cond.code ({ cls := "FibreLoops$State", name := "addRing", desc := "(I)I" } : Jvm.MethodName) prog_8_method_9_code (2 : Nat) (Option.some Jvm.ClassFile.FieldType.int)) ∈ Tg := tg (i := 305) (by decide +kernel) rfl
theorem tw_306 : (Jvm.Cond.methodLinkNest "FibreLoops$State" (84 : Nat) ({ cls := "FibreLoops$Ring", name := "begin", desc := "(I)V" } : Jvm.MethodName) "FibreLoops") ∈ Tn := tn (i := 306) (by decide +kernel) rfl
theorem tw_308 : (Jvm.Cond.instanceMethod ({ cls := "FibreLoops$Ring", name := "begin", desc := "(I)V" } : Jvm.MethodName)) ∈ Tg := tg (i := 308) (by decide +kernel) rfl
theorem tw_309 : (Jvm.Cond.code ({ cls := "FibreLoops$Ring", name := "begin", desc := "(I)V" } : Jvm.MethodName) prog_7_method_2_code (3 : Nat) (Option.none : Option Jvm.ClassFile.FieldType)) ∈ Tg := tg (i := 309) (by decide +kernel) rfl
theorem tw_310 : (Jvm.Cond.methodLink "FibreLoopsLaw" (23 : Nat) ({ cls := "FibreLoops", name := "device", desc := "(IIIII)I" } : Jvm.MethodName)) ∈ Tg := tg (i := 310) (by decide +kernel) rfl
theorem tw_311 : (Jvm.Cond.instanceMethod ({ cls := "FibreLoops", name := "device", desc := "(IIIII)I" } : Jvm.MethodName)) ∈ Tg := tg (i := 311) (by decide +kernel) rfl
theorem tw_312 : (Jvm.Cond.selects "FibreLoops" ({ cls := "FibreLoops", name := "device", desc := "(IIIII)I" } : Jvm.MethodName) ({ cls := "FibreLoops", name := "device", desc := "(IIIII)I" } : Jvm.MethodName)) ∈ Tg := tg (i := 312) (by decide +kernel) rfl
theorem tw_313 : (Jvm.Cond.code ({ cls := "FibreLoops", name := "device", desc := "(IIIII)I" } : Jvm.MethodName) prog_1_method_4_code (6 : Nat) (Option.some Jvm.ClassFile.FieldType.int)) ∈ Tg := tg (i := 313) (by decide +kernel) rfl
theorem tw_314 : (Jvm.Cond.methodLinkNest "FibreLoops" (65 : Nat) ({ cls := "FibreLoops$State", name := "addDevice", desc := "(IIIII)I" } : Jvm.MethodName) "FibreLoops") ∈ Tn := tn (i := 314) (by decide +kernel) rfl
theorem tw_316 : (Jvm.Cond.instanceMethod ({ cls := "FibreLoops$State", name := "addDevice", desc := "(IIIII)I" } : Jvm.MethodName)) ∈ Tg := tg (i := 316) (by decide +kernel) rfl
theorem tw_317 : (Jvm.Cond.code ({ cls := "FibreLoops$State", name := "addDevice", desc := "(IIIII)I" } : Jvm.MethodName) prog_8_method_10_code (6 : Nat) (Option.some Jvm.ClassFile.FieldType.int)) ∈ Tg := tg (i := 317) (by decide +kernel) rfl
theorem tw_318 : (Jvm.Cond.methodLink "FibreLoops$State" (88 : Nat) ({ cls := "FibreLoops$State", name := "ringWith", desc := "(II)LFibreLoops$Ring;" } : Jvm.MethodName)) ∈ Tg := tg (i := 318) (by decide +kernel) rfl
theorem tw_320 : (Jvm.Cond.instanceMethod ({ cls := "FibreLoops$State", name := "ringWith", desc := "(II)LFibreLoops$Ring;" } : Jvm.MethodName)) ∈ Tg := tg (i := 320) (by decide +kernel) rfl
theorem tw_321 : (Jvm.Cond.code ({ cls := "FibreLoops$State", name := "ringWith", desc := "(II)LFibreLoops$Ring;" } : Jvm.MethodName) prog_8_method_4_code (4 : Nat) (Option.some (Jvm.ClassFile.FieldType.object "FibreLoops$Ring"))) ∈ Tg := tg (i := 321) (by decide +kernel) rfl
theorem tw_322 : (Jvm.Cond.methodLink "FibreLoops$State" (66 : Nat) ({ cls := "FibreLoops$State", name := "ringOf", desc := "(I)LFibreLoops$Ring;" } : Jvm.MethodName)) ∈ Tg := tg (i := 322) (by decide +kernel) rfl
theorem tw_324 : (Jvm.Cond.instanceMethod ({ cls := "FibreLoops$State", name := "ringOf", desc := "(I)LFibreLoops$Ring;" } : Jvm.MethodName)) ∈ Tg := tg (i := 324) (by decide +kernel) rfl
theorem tw_325 : (Jvm.Cond.code ({ cls := "FibreLoops$State", name := "ringOf", desc := "(I)LFibreLoops$Ring;" } : Jvm.MethodName) prog_8_method_3_code (2 : Nat) (Option.some (Jvm.ClassFile.FieldType.object "FibreLoops$Ring"))) ∈ Tg := tg (i := 325) (by decide +kernel) rfl
theorem tw_326 : (Jvm.Cond.methodLinkNest "FibreLoops$State" (70 : Nat) ({ cls := "FibreLoops$Ring", name := "has", desc := "(I)Z" } : Jvm.MethodName) "FibreLoops") ∈ Tn := tn (i := 326) (by decide +kernel) rfl
theorem tw_328 : (Jvm.Cond.instanceMethod ({ cls := "FibreLoops$Ring", name := "has", desc := "(I)Z" } : Jvm.MethodName)) ∈ Tg := tg (i := 328) (by decide +kernel) rfl
theorem tw_329 : (Jvm.Cond.code ({ cls := "FibreLoops$Ring", name := "has", desc := "(I)Z" } : Jvm.MethodName) prog_7_method_4_code (2 : Nat) (Option.some Jvm.ClassFile.FieldType.boolean)) ∈ Tg := tg (i := 329) (by decide +kernel) rfl
theorem tw_330 : (Jvm.Cond.methodLinkNest "FibreLoops$State" (92 : Nat) ({ cls := "FibreLoops", name := "fits", desc := "(III)Z" } : Jvm.MethodName) "FibreLoops") ∈ Tn := tn (i := 330) (by decide +kernel) rfl
theorem tw_331 : (Jvm.Cond.static ({ cls := "FibreLoops", name := "fits", desc := "(III)Z" } : Jvm.MethodName)) ∈ Tg := tg (i := 331) (by decide +kernel) rfl
theorem tw_332 : (Jvm.Cond.code ({ cls := "FibreLoops", name := "fits", desc := "(III)Z" } : Jvm.MethodName) prog_1_method_34_code (3 : Nat) (Option.some Jvm.ClassFile.FieldType.boolean)) ∈ Tg := tg (i := 332) (by decide +kernel) rfl
theorem tw_333 : (Jvm.Cond.methodLink "FibreLoops" (186 : Nat) ({ cls := "FibreLoops", name := "isBetween", desc := "(III)Z" } : Jvm.MethodName)) ∈ Tg := tg (i := 333) (by decide +kernel) rfl
theorem tw_334 : (Jvm.Cond.methodLink "FibreLoops" (182 : Nat) ({ cls := "FibreLoops", name := "isValue", desc := "(I)Z" } : Jvm.MethodName)) ∈ Tg := tg (i := 334) (by decide +kernel) rfl
theorem tw_335 : (Jvm.Cond.static ({ cls := "FibreLoops", name := "isValue", desc := "(I)Z" } : Jvm.MethodName)) ∈ Tg := tg (i := 335) (by decide +kernel) rfl
theorem tw_336 : (Jvm.Cond.code ({ cls := "FibreLoops", name := "isValue", desc := "(I)Z" } : Jvm.MethodName) prog_1_method_33_code (1 : Nat) (Option.some Jvm.ClassFile.FieldType.boolean)) ∈ Tg := tg (i := 336) (by decide +kernel) rfl
theorem tw_337 : (Jvm.Cond.methodLinkNest "FibreLoops$State" (95 : Nat) ({ cls := "FibreLoops$Device", name := "begin", desc := "(IIIII)V" } : Jvm.MethodName) "FibreLoops") ∈ Tn := tn (i := 337) (by decide +kernel) rfl
theorem tw_339 : (Jvm.Cond.instanceMethod ({ cls := "FibreLoops$Device", name := "begin", desc := "(IIIII)V" } : Jvm.MethodName)) ∈ Tg := tg (i := 339) (by decide +kernel) rfl
theorem tw_340 : (Jvm.Cond.code ({ cls := "FibreLoops$Device", name := "begin", desc := "(IIIII)V" } : Jvm.MethodName) prog_2_method_2_code (6 : Nat) (Option.none : Option Jvm.ClassFile.FieldType)) ∈ Tg := tg (i := 340) (by decide +kernel) rfl
theorem tw_341 : (Jvm.Cond.methodLink "FibreLoopsLaw" (28 : Nat) ({ cls := "FibreLoops", name := "join", desc := "(IIII)I" } : Jvm.MethodName)) ∈ Tg := tg (i := 341) (by decide +kernel) rfl
theorem tw_342 : (Jvm.Cond.instanceMethod ({ cls := "FibreLoops", name := "join", desc := "(IIII)I" } : Jvm.MethodName)) ∈ Tg := tg (i := 342) (by decide +kernel) rfl
theorem tw_343 : (Jvm.Cond.selects "FibreLoops" ({ cls := "FibreLoops", name := "join", desc := "(IIII)I" } : Jvm.MethodName) ({ cls := "FibreLoops", name := "join", desc := "(IIII)I" } : Jvm.MethodName)) ∈ Tg := tg (i := 343) (by decide +kernel) rfl
theorem tw_344 : (Jvm.Cond.code ({ cls := "FibreLoops", name := "join", desc := "(IIII)I" } : Jvm.MethodName) prog_1_method_5_code (5 : Nat) (Option.some Jvm.ClassFile.FieldType.int)) ∈ Tg := tg (i := 344) (by decide +kernel) rfl
theorem tw_345 : (Jvm.Cond.methodLinkNest "FibreLoops" (69 : Nat) ({ cls := "FibreLoops$State", name := "addJoin", desc := "(IIII)I" } : Jvm.MethodName) "FibreLoops") ∈ Tn := tn (i := 345) (by decide +kernel) rfl
theorem tw_347 : (Jvm.Cond.instanceMethod ({ cls := "FibreLoops$State", name := "addJoin", desc := "(IIII)I" } : Jvm.MethodName)) ∈ Tg := tg (i := 347) (by decide +kernel) rfl
theorem tw_348 : (Jvm.Cond.code ({ cls := "FibreLoops$State", name := "addJoin", desc := "(IIII)I" } : Jvm.MethodName) prog_8_method_11_code (5 : Nat) (Option.some Jvm.ClassFile.FieldType.int)) ∈ Tg := tg (i := 348) (by decide +kernel) rfl
theorem tw_349 : (Jvm.Cond.methodLinkNest "FibreLoops$State" (98 : Nat) ({ cls := "FibreLoops$Join", name := "begin", desc := "(IIII)V" } : Jvm.MethodName) "FibreLoops") ∈ Tn := tn (i := 349) (by decide +kernel) rfl
theorem tw_351 : (Jvm.Cond.instanceMethod ({ cls := "FibreLoops$Join", name := "begin", desc := "(IIII)V" } : Jvm.MethodName)) ∈ Tg := tg (i := 351) (by decide +kernel) rfl
theorem tw_352 : (Jvm.Cond.code ({ cls := "FibreLoops$Join", name := "begin", desc := "(IIII)V" } : Jvm.MethodName) prog_4_method_2_code (5 : Nat) (Option.none : Option Jvm.ClassFile.FieldType)) ∈ Tg := tg (i := 352) (by decide +kernel) rfl
theorem tw_353 : (Jvm.Cond.methodLink "FibreLoopsLaw" (33 : Nat) ({ cls := "FibreLoops", name := "turn", desc := "(II)I" } : Jvm.MethodName)) ∈ Tg := tg (i := 353) (by decide +kernel) rfl
theorem tw_354 : (Jvm.Cond.instanceMethod ({ cls := "FibreLoops", name := "turn", desc := "(II)I" } : Jvm.MethodName)) ∈ Tg := tg (i := 354) (by decide +kernel) rfl
theorem tw_355 : (Jvm.Cond.selects "FibreLoops" ({ cls := "FibreLoops", name := "turn", desc := "(II)I" } : Jvm.MethodName) ({ cls := "FibreLoops", name := "turn", desc := "(II)I" } : Jvm.MethodName)) ∈ Tg := tg (i := 355) (by decide +kernel) rfl
theorem tw_356 : (Jvm.Cond.code ({ cls := "FibreLoops", name := "turn", desc := "(II)I" } : Jvm.MethodName) prog_1_method_6_code (3 : Nat) (Option.some Jvm.ClassFile.FieldType.int)) ∈ Tg := tg (i := 356) (by decide +kernel) rfl
theorem tw_357 : (Jvm.Cond.methodLinkNest "FibreLoops" (73 : Nat) ({ cls := "FibreLoops$State", name := "turnJoin", desc := "(II)I" } : Jvm.MethodName) "FibreLoops") ∈ Tn := tn (i := 357) (by decide +kernel) rfl
theorem tw_359 : (Jvm.Cond.instanceMethod ({ cls := "FibreLoops$State", name := "turnJoin", desc := "(II)I" } : Jvm.MethodName)) ∈ Tg := tg (i := 359) (by decide +kernel) rfl
theorem tw_360 : (Jvm.Cond.code ({ cls := "FibreLoops$State", name := "turnJoin", desc := "(II)I" } : Jvm.MethodName) prog_8_method_12_code (5 : Nat) (Option.some Jvm.ClassFile.FieldType.int)) ∈ Tg := tg (i := 360) (by decide +kernel) rfl
theorem tw_361 : (Jvm.Cond.methodLink "FibreLoops$State" (101 : Nat) ({ cls := "FibreLoops$State", name := "joinOf", desc := "(I)LFibreLoops$Join;" } : Jvm.MethodName)) ∈ Tg := tg (i := 361) (by decide +kernel) rfl
theorem tw_363 : (Jvm.Cond.instanceMethod ({ cls := "FibreLoops$State", name := "joinOf", desc := "(I)LFibreLoops$Join;" } : Jvm.MethodName)) ∈ Tg := tg (i := 363) (by decide +kernel) rfl
theorem tw_364 : (Jvm.Cond.code ({ cls := "FibreLoops$State", name := "joinOf", desc := "(I)LFibreLoops$Join;" } : Jvm.MethodName) prog_8_method_6_code (2 : Nat) (Option.some (Jvm.ClassFile.FieldType.object "FibreLoops$Join"))) ∈ Tg := tg (i := 364) (by decide +kernel) rfl
theorem tw_365 : (Jvm.Cond.methodLink "FibreLoopsLaw" (37 : Nat) ({ cls := "FibreLoops", name := "feed", desc := "(II)I" } : Jvm.MethodName)) ∈ Tg := tg (i := 365) (by decide +kernel) rfl
theorem tw_366 : (Jvm.Cond.instanceMethod ({ cls := "FibreLoops", name := "feed", desc := "(II)I" } : Jvm.MethodName)) ∈ Tg := tg (i := 366) (by decide +kernel) rfl
theorem tw_367 : (Jvm.Cond.selects "FibreLoops" ({ cls := "FibreLoops", name := "feed", desc := "(II)I" } : Jvm.MethodName) ({ cls := "FibreLoops", name := "feed", desc := "(II)I" } : Jvm.MethodName)) ∈ Tg := tg (i := 367) (by decide +kernel) rfl
theorem tw_368 : (Jvm.Cond.code ({ cls := "FibreLoops", name := "feed", desc := "(II)I" } : Jvm.MethodName) prog_1_method_7_code (3 : Nat) (Option.some Jvm.ClassFile.FieldType.int)) ∈ Tg := tg (i := 368) (by decide +kernel) rfl
theorem tw_369 : (Jvm.Cond.methodLinkNest "FibreLoops" (76 : Nat) ({ cls := "FibreLoops$State", name := "feedDevice", desc := "(II)I" } : Jvm.MethodName) "FibreLoops") ∈ Tn := tn (i := 369) (by decide +kernel) rfl
theorem tw_371 : (Jvm.Cond.instanceMethod ({ cls := "FibreLoops$State", name := "feedDevice", desc := "(II)I" } : Jvm.MethodName)) ∈ Tg := tg (i := 371) (by decide +kernel) rfl
theorem tw_372 : (Jvm.Cond.code ({ cls := "FibreLoops$State", name := "feedDevice", desc := "(II)I" } : Jvm.MethodName) prog_8_method_13_code (4 : Nat) (Option.some Jvm.ClassFile.FieldType.int)) ∈ Tg := tg (i := 372) (by decide +kernel) rfl
theorem tw_373 : (Jvm.Cond.methodLink "FibreLoops$State" (108 : Nat) ({ cls := "FibreLoops$State", name := "deviceOf", desc := "(I)LFibreLoops$Device;" } : Jvm.MethodName)) ∈ Tg := tg (i := 373) (by decide +kernel) rfl
theorem tw_375 : (Jvm.Cond.instanceMethod ({ cls := "FibreLoops$State", name := "deviceOf", desc := "(I)LFibreLoops$Device;" } : Jvm.MethodName)) ∈ Tg := tg (i := 375) (by decide +kernel) rfl
theorem tw_376 : (Jvm.Cond.code ({ cls := "FibreLoops$State", name := "deviceOf", desc := "(I)LFibreLoops$Device;" } : Jvm.MethodName) prog_8_method_5_code (2 : Nat) (Option.some (Jvm.ClassFile.FieldType.object "FibreLoops$Device"))) ∈ Tg := tg (i := 376) (by decide +kernel) rfl
theorem tw_377 : (Jvm.Cond.methodLinkNest "FibreLoops$State" (115 : Nat) ({ cls := "FibreLoops", name := "isValue", desc := "(I)Z" } : Jvm.MethodName) "FibreLoops") ∈ Tn := tn (i := 377) (by decide +kernel) rfl
theorem tw_378 : (Jvm.Cond.methodLinkNest "FibreLoops$State" (121 : Nat) ({ cls := "FibreLoops$Device", name := "keepAsLast", desc := "(I)V" } : Jvm.MethodName) "FibreLoops") ∈ Tn := tn (i := 378) (by decide +kernel) rfl
theorem tw_380 : (Jvm.Cond.instanceMethod ({ cls := "FibreLoops$Device", name := "keepAsLast", desc := "(I)V" } : Jvm.MethodName)) ∈ Tg := tg (i := 380) (by decide +kernel) rfl
theorem tw_381 : (Jvm.Cond.code ({ cls := "FibreLoops$Device", name := "keepAsLast", desc := "(I)V" } : Jvm.MethodName) prog_2_method_5_code (2 : Nat) (Option.none : Option Jvm.ClassFile.FieldType)) ∈ Tg := tg (i := 381) (by decide +kernel) rfl
theorem tw_382 : (Jvm.Cond.methodLink "FibreLoopsLaw" (41 : Nat) ({ cls := "FibreLoops", name := "light", desc := "(III)I" } : Jvm.MethodName)) ∈ Tg := tg (i := 382) (by decide +kernel) rfl
theorem tw_383 : (Jvm.Cond.instanceMethod ({ cls := "FibreLoops", name := "light", desc := "(III)I" } : Jvm.MethodName)) ∈ Tg := tg (i := 383) (by decide +kernel) rfl
theorem tw_384 : (Jvm.Cond.selects "FibreLoops" ({ cls := "FibreLoops", name := "light", desc := "(III)I" } : Jvm.MethodName) ({ cls := "FibreLoops", name := "light", desc := "(III)I" } : Jvm.MethodName)) ∈ Tg := tg (i := 384) (by decide +kernel) rfl
theorem tw_385 : (Jvm.Cond.code ({ cls := "FibreLoops", name := "light", desc := "(III)I" } : Jvm.MethodName) prog_1_method_8_code (4 : Nat) (Option.some Jvm.ClassFile.FieldType.int)) ∈ Tg := tg (i := 385) (by decide +kernel) rfl
theorem tw_386 : (Jvm.Cond.methodLinkNest "FibreLoops" (79 : Nat) ({ cls := "FibreLoops$State", name := "lightFlash", desc := "(III)I" } : Jvm.MethodName) "FibreLoops") ∈ Tn := tn (i := 386) (by decide +kernel) rfl
theorem tw_388 : (Jvm.Cond.instanceMethod ({ cls := "FibreLoops$State", name := "lightFlash", desc := "(III)I" } : Jvm.MethodName)) ∈ Tg := tg (i := 388) (by decide +kernel) rfl
theorem tw_389 : (Jvm.Cond.code ({ cls := "FibreLoops$State", name := "lightFlash", desc := "(III)I" } : Jvm.MethodName) prog_8_method_14_code (5 : Nat) (Option.some Jvm.ClassFile.FieldType.int)) ∈ Tg := tg (i := 389) (by decide +kernel) rfl
theorem tw_390 : (Jvm.Cond.methodLinkNest "FibreLoops$State" (124 : Nat) ({ cls := "FibreLoops$Ring", name := "strengthAt", desc := "(I)I" } : Jvm.MethodName) "FibreLoops") ∈ Tn := tn (i := 390) (by decide +kernel) rfl
theorem tw_392 : (Jvm.Cond.instanceMethod ({ cls := "FibreLoops$Ring", name := "strengthAt", desc := "(I)I" } : Jvm.MethodName)) ∈ Tg := tg (i := 392) (by decide +kernel) rfl
theorem tw_393 : (Jvm.Cond.code ({ cls := "FibreLoops$Ring", name := "strengthAt", desc := "(I)I" } : Jvm.MethodName) prog_7_method_5_code (2 : Nat) (Option.some Jvm.ClassFile.FieldType.int)) ∈ Tg := tg (i := 393) (by decide +kernel) rfl
theorem tw_394 : (Jvm.Cond.methodLink "FibreLoops$Ring" (32 : Nat) ({ cls := "FibreLoops$Ring", name := "has", desc := "(I)Z" } : Jvm.MethodName)) ∈ Tg := tg (i := 394) (by decide +kernel) rfl
theorem tw_395 : (Jvm.Cond.methodLink "FibreLoops$State" (128 : Nat) ({ cls := "FibreLoops$State", name := "setting", desc := "(I)I" } : Jvm.MethodName)) ∈ Tg := tg (i := 395) (by decide +kernel) rfl
theorem tw_397 : (Jvm.Cond.instanceMethod ({ cls := "FibreLoops$State", name := "setting", desc := "(I)I" } : Jvm.MethodName)) ∈ Tg := tg (i := 397) (by decide +kernel) rfl
theorem tw_398 : (Jvm.Cond.code ({ cls := "FibreLoops$State", name := "setting", desc := "(I)I" } : Jvm.MethodName) prog_8_method_7_code (2 : Nat) (Option.some Jvm.ClassFile.FieldType.int)) ∈ Tg := tg (i := 398) (by decide +kernel) rfl
theorem tw_399 : (Jvm.Cond.methodLinkNest "FibreLoops$State" (131 : Nat) ({ cls := "FibreLoops$Ring", name := "putIn", desc := "(IIII)V" } : Jvm.MethodName) "FibreLoops") ∈ Tn := tn (i := 399) (by decide +kernel) rfl
theorem tw_401 : (Jvm.Cond.instanceMethod ({ cls := "FibreLoops$Ring", name := "putIn", desc := "(IIII)V" } : Jvm.MethodName)) ∈ Tg := tg (i := 401) (by decide +kernel) rfl
theorem tw_402 : (Jvm.Cond.code ({ cls := "FibreLoops$Ring", name := "putIn", desc := "(IIII)V" } : Jvm.MethodName) prog_7_method_16_code (5 : Nat) (Option.none : Option Jvm.ClassFile.FieldType)) ∈ Tg := tg (i := 402) (by decide +kernel) rfl
theorem tw_403 : (Jvm.Cond.methodLinkNest "FibreLoops$State" (134 : Nat) ({ cls := "FibreLoops$Ring", name := "flashes", desc := "()I" } : Jvm.MethodName) "FibreLoops") ∈ Tn := tn (i := 403) (by decide +kernel) rfl
theorem tw_405 : (Jvm.Cond.instanceMethod ({ cls := "FibreLoops$Ring", name := "flashes", desc := "()I" } : Jvm.MethodName)) ∈ Tg := tg (i := 405) (by decide +kernel) rfl
theorem tw_406 : (Jvm.Cond.code ({ cls := "FibreLoops$Ring", name := "flashes", desc := "()I" } : Jvm.MethodName) prog_7_method_9_code (3 : Nat) (Option.some Jvm.ClassFile.FieldType.int)) ∈ Tg := tg (i := 406) (by decide +kernel) rfl
theorem tw_407 : (Jvm.Cond.methodLink "FibreLoopsLaw" (46 : Nat) ({ cls := "FibreLoops", name := "ticks", desc := "(I)I" } : Jvm.MethodName)) ∈ Tg := tg (i := 407) (by decide +kernel) rfl
theorem tw_408 : (Jvm.Cond.instanceMethod ({ cls := "FibreLoops", name := "ticks", desc := "(I)I" } : Jvm.MethodName)) ∈ Tg := tg (i := 408) (by decide +kernel) rfl
theorem tw_409 : (Jvm.Cond.selects "FibreLoops" ({ cls := "FibreLoops", name := "ticks", desc := "(I)I" } : Jvm.MethodName) ({ cls := "FibreLoops", name := "ticks", desc := "(I)I" } : Jvm.MethodName)) ∈ Tg := tg (i := 409) (by decide +kernel) rfl
theorem tw_410 : (Jvm.Cond.code ({ cls := "FibreLoops", name := "ticks", desc := "(I)I" } : Jvm.MethodName) prog_1_method_9_code (2 : Nat) (Option.some Jvm.ClassFile.FieldType.int)) ∈ Tg := tg (i := 410) (by decide +kernel) rfl
theorem tw_411 : (Jvm.Cond.methodLinkNest "FibreLoops" (83 : Nat) ({ cls := "FibreLoops$State", name := "passTicks", desc := "(I)I" } : Jvm.MethodName) "FibreLoops") ∈ Tn := tn (i := 411) (by decide +kernel) rfl
theorem tw_413 : (Jvm.Cond.instanceMethod ({ cls := "FibreLoops$State", name := "passTicks", desc := "(I)I" } : Jvm.MethodName)) ∈ Tg := tg (i := 413) (by decide +kernel) rfl
theorem tw_414 : (Jvm.Cond.code ({ cls := "FibreLoops$State", name := "passTicks", desc := "(I)I" } : Jvm.MethodName) prog_8_method_15_code (3 : Nat) (Option.some Jvm.ClassFile.FieldType.int)) ∈ Tg := tg (i := 414) (by decide +kernel) rfl
theorem tw_415 : (Jvm.Cond.methodLink "FibreLoops$State" (138 : Nat) ({ cls := "FibreLoops$State", name := "passOne", desc := "()V" } : Jvm.MethodName)) ∈ Tg := tg (i := 415) (by decide +kernel) rfl
theorem tw_417 : (Jvm.Cond.instanceMethod ({ cls := "FibreLoops$State", name := "passOne", desc := "()V" } : Jvm.MethodName)) ∈ Tg := tg (i := 417) (by decide +kernel) rfl
theorem tw_418 : (Jvm.Cond.code ({ cls := "FibreLoops$State", name := "passOne", desc := "()V" } : Jvm.MethodName) prog_8_method_17_code (4 : Nat) (Option.none : Option Jvm.ClassFile.FieldType)) ∈ Tg := tg (i := 418) (by decide +kernel) rfl
theorem tw_419 : (Jvm.Cond.methodLinkNest "FibreLoops$State" (144 : Nat) ({ cls := "FibreLoops$Ring", name := "moveOn", desc := "(I)V" } : Jvm.MethodName) "FibreLoops") ∈ Tn := tn (i := 419) (by decide +kernel) rfl
theorem tw_421 : (Jvm.Cond.instanceMethod ({ cls := "FibreLoops$Ring", name := "moveOn", desc := "(I)V" } : Jvm.MethodName)) ∈ Tg := tg (i := 421) (by decide +kernel) rfl
theorem tw_422 : (Jvm.Cond.code ({ cls := "FibreLoops$Ring", name := "moveOn", desc := "(I)V" } : Jvm.MethodName) prog_7_method_12_code (3 : Nat) (Option.none : Option Jvm.ClassFile.FieldType)) ∈ Tg := tg (i := 422) (by decide +kernel) rfl
theorem tw_423 : (Jvm.Cond.methodLinkNest "FibreLoops$Ring" (40 : Nat) ({ cls := "FibreLoops", name := "turnRow", desc := "([II)V" } : Jvm.MethodName) "FibreLoops") ∈ Tn := tn (i := 423) (by decide +kernel) rfl
theorem tw_424 : (Jvm.Cond.static ({ cls := "FibreLoops", name := "turnRow", desc := "([II)V" } : Jvm.MethodName)) ∈ Tg := tg (i := 424) (by decide +kernel) rfl
theorem tw_425 : (Jvm.Cond.code ({ cls := "FibreLoops", name := "turnRow", desc := "([II)V" } : Jvm.MethodName) prog_1_method_38_code (3 : Nat) (Option.none : Option Jvm.ClassFile.FieldType)) ∈ Tg := tg (i := 425) (by decide +kernel) rfl
theorem tw_426 : (Jvm.Cond.methodLink "FibreLoops$Ring" (44 : Nat) ({ cls := "FibreLoops$Ring", name := "fade", desc := "(II)V" } : Jvm.MethodName)) ∈ Tg := tg (i := 426) (by decide +kernel) rfl
theorem tw_428 : (Jvm.Cond.instanceMethod ({ cls := "FibreLoops$Ring", name := "fade", desc := "(II)V" } : Jvm.MethodName)) ∈ Tg := tg (i := 428) (by decide +kernel) rfl
theorem tw_429 : (Jvm.Cond.code ({ cls := "FibreLoops$Ring", name := "fade", desc := "(II)V" } : Jvm.MethodName) prog_7_method_13_code (3 : Nat) (Option.none : Option Jvm.ClassFile.FieldType)) ∈ Tg := tg (i := 429) (by decide +kernel) rfl
theorem tw_430 : (Jvm.Cond.methodLinkNest "FibreLoops$State" (150 : Nat) ({ cls := "FibreLoops$Device", name := "actOn", desc := "(LFibreLoops$Ring;LFibreLoops$State;)V" } : Jvm.MethodName) "FibreLoops") ∈ Tn := tn (i := 430) (by decide +kernel) rfl
theorem tw_432 : (Jvm.Cond.instanceMethod ({ cls := "FibreLoops$Device", name := "actOn", desc := "(LFibreLoops$Ring;LFibreLoops$State;)V" } : Jvm.MethodName)) ∈ Tg := tg (i := 432) (by decide +kernel) rfl
theorem tw_433 : (Jvm.Cond.code ({ cls := "FibreLoops$Device", name := "actOn", desc := "(LFibreLoops$Ring;LFibreLoops$State;)V" } : Jvm.MethodName) prog_2_method_7_code (3 : Nat) (Option.none : Option Jvm.ClassFile.FieldType)) ∈ Tg := tg (i := 433) (by decide +kernel) rfl
theorem tw_434 : (Jvm.Cond.methodLink "FibreLoops$Device" (50 : Nat) ({ cls := "FibreLoops$Device", name := "amplify", desc := "(LFibreLoops$Ring;)V" } : Jvm.MethodName)) ∈ Tg := tg (i := 434) (by decide +kernel) rfl
theorem tw_436 : (Jvm.Cond.instanceMethod ({ cls := "FibreLoops$Device", name := "amplify", desc := "(LFibreLoops$Ring;)V" } : Jvm.MethodName)) ∈ Tg := tg (i := 436) (by decide +kernel) rfl
theorem tw_437 : (Jvm.Cond.code ({ cls := "FibreLoops$Device", name := "amplify", desc := "(LFibreLoops$Ring;)V" } : Jvm.MethodName) prog_2_method_8_code (4 : Nat) (Option.none : Option Jvm.ClassFile.FieldType)) ∈ Tg := tg (i := 437) (by decide +kernel) rfl
theorem tw_438 : (Jvm.Cond.methodLinkNest "FibreLoops$Device" (77 : Nat) ({ cls := "FibreLoops$Ring", name := "strengthAt", desc := "(I)I" } : Jvm.MethodName) "FibreLoops") ∈ Tn := tn (i := 438) (by decide +kernel) rfl
theorem tw_439 : (Jvm.Cond.methodLink "FibreLoops$Device" (82 : Nat) ({ cls := "java/lang/Math", name := "min", desc := "(II)I" } : Jvm.MethodName)) ∈ Tg := tg (i := 439) (by decide +kernel) rfl
theorem tw_440 : (Jvm.Cond.methodLinkNest "FibreLoops$Device" (88 : Nat) ({ cls := "FibreLoops$Ring", name := "strengthen", desc := "(II)V" } : Jvm.MethodName) "FibreLoops") ∈ Tn := tn (i := 440) (by decide +kernel) rfl
theorem tw_442 : (Jvm.Cond.instanceMethod ({ cls := "FibreLoops$Ring", name := "strengthen", desc := "(II)V" } : Jvm.MethodName)) ∈ Tg := tg (i := 442) (by decide +kernel) rfl
theorem tw_443 : (Jvm.Cond.code ({ cls := "FibreLoops$Ring", name := "strengthen", desc := "(II)V" } : Jvm.MethodName) prog_7_method_14_code (3 : Nat) (Option.none : Option Jvm.ClassFile.FieldType)) ∈ Tg := tg (i := 443) (by decide +kernel) rfl
theorem tw_444 : (Jvm.Cond.methodLinkNest "FibreLoops$Device" (54 : Nat) ({ cls := "FibreLoops$State", name := "setting", desc := "(I)I" } : Jvm.MethodName) "FibreLoops") ∈ Tn := tn (i := 444) (by decide +kernel) rfl
theorem tw_445 : (Jvm.Cond.methodLink "FibreLoops$Device" (60 : Nat) ({ cls := "FibreLoops$Device", name := "note", desc := "(LFibreLoops$Ring;I)V" } : Jvm.MethodName)) ∈ Tg := tg (i := 445) (by decide +kernel) rfl
theorem tw_447 : (Jvm.Cond.instanceMethod ({ cls := "FibreLoops$Device", name := "note", desc := "(LFibreLoops$Ring;I)V" } : Jvm.MethodName)) ∈ Tg := tg (i := 447) (by decide +kernel) rfl
theorem tw_448 : (Jvm.Cond.code ({ cls := "FibreLoops$Device", name := "note", desc := "(LFibreLoops$Ring;I)V" } : Jvm.MethodName) prog_2_method_9_code (3 : Nat) (Option.none : Option Jvm.ClassFile.FieldType)) ∈ Tg := tg (i := 448) (by decide +kernel) rfl
theorem tw_449 : (Jvm.Cond.methodLinkNest "FibreLoops$Device" (92 : Nat) ({ cls := "FibreLoops", name := "turnRow", desc := "([II)V" } : Jvm.MethodName) "FibreLoops") ∈ Tn := tn (i := 449) (by decide +kernel) rfl
theorem tw_450 : (Jvm.Cond.methodLinkNest "FibreLoops$Device" (96 : Nat) ({ cls := "FibreLoops$Ring", name := "valueAt", desc := "(I)I" } : Jvm.MethodName) "FibreLoops") ∈ Tn := tn (i := 450) (by decide +kernel) rfl
theorem tw_452 : (Jvm.Cond.instanceMethod ({ cls := "FibreLoops$Ring", name := "valueAt", desc := "(I)I" } : Jvm.MethodName)) ∈ Tg := tg (i := 452) (by decide +kernel) rfl
theorem tw_453 : (Jvm.Cond.code ({ cls := "FibreLoops$Ring", name := "valueAt", desc := "(I)I" } : Jvm.MethodName) prog_7_method_6_code (2 : Nat) (Option.some Jvm.ClassFile.FieldType.int)) ∈ Tg := tg (i := 453) (by decide +kernel) rfl
theorem tw_454 : (Jvm.Cond.methodLinkNest "FibreLoops$Device" (99 : Nat) ({ cls := "FibreLoops$Ring", name := "fade", desc := "(II)V" } : Jvm.MethodName) "FibreLoops") ∈ Tn := tn (i := 454) (by decide +kernel) rfl
theorem tw_455 : (Jvm.Cond.methodLink "FibreLoops$Device" (67 : Nat) ({ cls := "FibreLoops$Device", name := "putNext", desc := "(LFibreLoops$Ring;II)V" } : Jvm.MethodName)) ∈ Tg := tg (i := 455) (by decide +kernel) rfl
theorem tw_457 : (Jvm.Cond.instanceMethod ({ cls := "FibreLoops$Device", name := "putNext", desc := "(LFibreLoops$Ring;II)V" } : Jvm.MethodName)) ∈ Tg := tg (i := 457) (by decide +kernel) rfl
theorem tw_458 : (Jvm.Cond.code ({ cls := "FibreLoops$Device", name := "putNext", desc := "(LFibreLoops$Ring;II)V" } : Jvm.MethodName) prog_2_method_10_code (4 : Nat) (Option.none : Option Jvm.ClassFile.FieldType)) ∈ Tg := tg (i := 458) (by decide +kernel) rfl
theorem tw_459 : (Jvm.Cond.methodLinkNest "FibreLoops$Device" (102 : Nat) ({ cls := "FibreLoops$Ring", name := "putIn", desc := "(IIII)V" } : Jvm.MethodName) "FibreLoops") ∈ Tn := tn (i := 459) (by decide +kernel) rfl
theorem tw_460 : (Jvm.Cond.methodLink "FibreLoops$Device" (106 : Nat) ({ cls := "FibreLoops$Device", name := "removeFirst", desc := "()V" } : Jvm.MethodName)) ∈ Tg := tg (i := 460) (by decide +kernel) rfl
theorem tw_462 : (Jvm.Cond.instanceMethod ({ cls := "FibreLoops$Device", name := "removeFirst", desc := "()V" } : Jvm.MethodName)) ∈ Tg := tg (i := 462) (by decide +kernel) rfl
theorem tw_463 : (Jvm.Cond.code ({ cls := "FibreLoops$Device", name := "removeFirst", desc := "()V" } : Jvm.MethodName) prog_2_method_6_code (1 : Nat) (Option.none : Option Jvm.ClassFile.FieldType)) ∈ Tg := tg (i := 463) (by decide +kernel) rfl
theorem tw_464 : (Jvm.Cond.methodLink "FibreLoops$Device" (44 : Nat) ({ cls := "java/lang/System", name := "arraycopy", desc := "(Ljava/lang/Object;ILjava/lang/Object;II)V" } : Jvm.MethodName)) ∈ Tg := tg (i := 464) (by decide +kernel) rfl
theorem tw_465 : (Jvm.Cond.methodLink "FibreLoops$Device" (71 : Nat) ({ cls := "FibreLoops$Device", name := "change", desc := "(LFibreLoops$Ring;)V" } : Jvm.MethodName)) ∈ Tg := tg (i := 465) (by decide +kernel) rfl
theorem tw_467 : (Jvm.Cond.instanceMethod ({ cls := "FibreLoops$Device", name := "change", desc := "(LFibreLoops$Ring;)V" } : Jvm.MethodName)) ∈ Tg := tg (i := 467) (by decide +kernel) rfl
theorem tw_468 : (Jvm.Cond.code ({ cls := "FibreLoops$Device", name := "change", desc := "(LFibreLoops$Ring;)V" } : Jvm.MethodName) prog_2_method_11_code (2 : Nat) (Option.none : Option Jvm.ClassFile.FieldType)) ∈ Tg := tg (i := 468) (by decide +kernel) rfl
theorem tw_469 : (Jvm.Cond.methodLinkNest "FibreLoops$Device" (109 : Nat) ({ cls := "FibreLoops$Ring", name := "changeValue", desc := "(II)V" } : Jvm.MethodName) "FibreLoops") ∈ Tn := tn (i := 469) (by decide +kernel) rfl
theorem tw_471 : (Jvm.Cond.instanceMethod ({ cls := "FibreLoops$Ring", name := "changeValue", desc := "(II)V" } : Jvm.MethodName)) ∈ Tg := tg (i := 471) (by decide +kernel) rfl
theorem tw_472 : (Jvm.Cond.code ({ cls := "FibreLoops$Ring", name := "changeValue", desc := "(II)V" } : Jvm.MethodName) prog_7_method_15_code (3 : Nat) (Option.none : Option Jvm.ClassFile.FieldType)) ∈ Tg := tg (i := 472) (by decide +kernel) rfl
theorem tw_473 : (Jvm.Cond.methodLink "FibreLoops$Device" (74 : Nat) ({ cls := "FibreLoops$Device", name := "dropValue", desc := "(LFibreLoops$Ring;)V" } : Jvm.MethodName)) ∈ Tg := tg (i := 473) (by decide +kernel) rfl
theorem tw_475 : (Jvm.Cond.instanceMethod ({ cls := "FibreLoops$Device", name := "dropValue", desc := "(LFibreLoops$Ring;)V" } : Jvm.MethodName)) ∈ Tg := tg (i := 475) (by decide +kernel) rfl
theorem tw_476 : (Jvm.Cond.code ({ cls := "FibreLoops$Device", name := "dropValue", desc := "(LFibreLoops$Ring;)V" } : Jvm.MethodName) prog_2_method_12_code (2 : Nat) (Option.none : Option Jvm.ClassFile.FieldType)) ∈ Tg := tg (i := 476) (by decide +kernel) rfl
theorem tw_477 : (Jvm.Cond.methodLinkNest "FibreLoops$Device" (112 : Nat) ({ cls := "FibreLoops$Ring", name := "drop", desc := "(I)V" } : Jvm.MethodName) "FibreLoops") ∈ Tn := tn (i := 477) (by decide +kernel) rfl
theorem tw_479 : (Jvm.Cond.instanceMethod ({ cls := "FibreLoops$Ring", name := "drop", desc := "(I)V" } : Jvm.MethodName)) ∈ Tg := tg (i := 479) (by decide +kernel) rfl
theorem tw_480 : (Jvm.Cond.code ({ cls := "FibreLoops$Ring", name := "drop", desc := "(I)V" } : Jvm.MethodName) prog_7_method_17_code (2 : Nat) (Option.none : Option Jvm.ClassFile.FieldType)) ∈ Tg := tg (i := 480) (by decide +kernel) rfl
theorem tw_481 : (Jvm.Cond.methodLinkNest "FibreLoops$State" (160 : Nat) ({ cls := "FibreLoops$Join", name := "actOn", desc := "(LFibreLoops$Ring;LFibreLoops$Ring;)V" } : Jvm.MethodName) "FibreLoops") ∈ Tn := tn (i := 481) (by decide +kernel) rfl
theorem tw_483 : (Jvm.Cond.instanceMethod ({ cls := "FibreLoops$Join", name := "actOn", desc := "(LFibreLoops$Ring;LFibreLoops$Ring;)V" } : Jvm.MethodName)) ∈ Tg := tg (i := 483) (by decide +kernel) rfl
theorem tw_484 : (Jvm.Cond.code ({ cls := "FibreLoops$Join", name := "actOn", desc := "(LFibreLoops$Ring;LFibreLoops$Ring;)V" } : Jvm.MethodName) prog_4_method_4_code (5 : Nat) (Option.none : Option Jvm.ClassFile.FieldType)) ∈ Tg := tg (i := 484) (by decide +kernel) rfl
theorem tw_485 : (Jvm.Cond.methodLinkNest "FibreLoops$Join" (30 : Nat) ({ cls := "FibreLoops$Ring", name := "strengthAt", desc := "(I)I" } : Jvm.MethodName) "FibreLoops") ∈ Tn := tn (i := 485) (by decide +kernel) rfl
theorem tw_486 : (Jvm.Cond.methodLinkNest "FibreLoops$Join" (36 : Nat) ({ cls := "FibreLoops$Ring", name := "exchange", desc := "(ILFibreLoops$Ring;I)V" } : Jvm.MethodName) "FibreLoops") ∈ Tn := tn (i := 486) (by decide +kernel) rfl
theorem tw_488 : (Jvm.Cond.instanceMethod ({ cls := "FibreLoops$Ring", name := "exchange", desc := "(ILFibreLoops$Ring;I)V" } : Jvm.MethodName)) ∈ Tg := tg (i := 488) (by decide +kernel) rfl
theorem tw_489 : (Jvm.Cond.code ({ cls := "FibreLoops$Ring", name := "exchange", desc := "(ILFibreLoops$Ring;I)V" } : Jvm.MethodName) prog_7_method_18_code (7 : Nat) (Option.none : Option Jvm.ClassFile.FieldType)) ∈ Tg := tg (i := 489) (by decide +kernel) rfl
theorem tw_490 : (Jvm.Cond.methodLinkNest "FibreLoops$Join" (40 : Nat) ({ cls := "FibreLoops$Ring", name := "tellCrossing", desc := "(LFibreLoops$Ring;)V" } : Jvm.MethodName) "FibreLoops") ∈ Tn := tn (i := 490) (by decide +kernel) rfl
theorem tw_492 : (Jvm.Cond.instanceMethod ({ cls := "FibreLoops$Ring", name := "tellCrossing", desc := "(LFibreLoops$Ring;)V" } : Jvm.MethodName)) ∈ Tg := tg (i := 492) (by decide +kernel) rfl
theorem tw_493 : (Jvm.Cond.code ({ cls := "FibreLoops$Ring", name := "tellCrossing", desc := "(LFibreLoops$Ring;)V" } : Jvm.MethodName) prog_7_method_19_code (2 : Nat) (Option.none : Option Jvm.ClassFile.FieldType)) ∈ Tg := tg (i := 493) (by decide +kernel) rfl
theorem tw_494 : (Jvm.Cond.methodLinkNest "FibreLoops$State" (163 : Nat) ({ cls := "FibreLoops$Device", name := "rest", desc := "(I)V" } : Jvm.MethodName) "FibreLoops") ∈ Tn := tn (i := 494) (by decide +kernel) rfl
theorem tw_496 : (Jvm.Cond.instanceMethod ({ cls := "FibreLoops$Device", name := "rest", desc := "(I)V" } : Jvm.MethodName)) ∈ Tg := tg (i := 496) (by decide +kernel) rfl
theorem tw_497 : (Jvm.Cond.code ({ cls := "FibreLoops$Device", name := "rest", desc := "(I)V" } : Jvm.MethodName) prog_2_method_13_code (2 : Nat) (Option.none : Option Jvm.ClassFile.FieldType)) ∈ Tg := tg (i := 497) (by decide +kernel) rfl
theorem tw_498 : (Jvm.Cond.methodLink "FibreLoopsLaw" (50 : Nat) ({ cls := "FibreLoops", name := "at", desc := "(III)I" } : Jvm.MethodName)) ∈ Tg := tg (i := 498) (by decide +kernel) rfl
theorem tw_499 : (Jvm.Cond.instanceMethod ({ cls := "FibreLoops", name := "at", desc := "(III)I" } : Jvm.MethodName)) ∈ Tg := tg (i := 499) (by decide +kernel) rfl
theorem tw_500 : (Jvm.Cond.selects "FibreLoops" ({ cls := "FibreLoops", name := "at", desc := "(III)I" } : Jvm.MethodName) ({ cls := "FibreLoops", name := "at", desc := "(III)I" } : Jvm.MethodName)) ∈ Tg := tg (i := 500) (by decide +kernel) rfl
theorem tw_501 : (Jvm.Cond.code ({ cls := "FibreLoops", name := "at", desc := "(III)I" } : Jvm.MethodName) prog_1_method_10_code (5 : Nat) (Option.some Jvm.ClassFile.FieldType.int)) ∈ Tg := tg (i := 501) (by decide +kernel) rfl
theorem tw_502 : (Jvm.Cond.methodLinkNest "FibreLoops" (86 : Nat) ({ cls := "FibreLoops$State", name := "ringWith", desc := "(II)LFibreLoops$Ring;" } : Jvm.MethodName) "FibreLoops") ∈ Tn := tn (i := 502) (by decide +kernel) rfl
theorem tw_503 : (Jvm.Cond.methodLinkNest "FibreLoops" (90 : Nat) ({ cls := "FibreLoops$Ring", name := "valueAt", desc := "(I)I" } : Jvm.MethodName) "FibreLoops") ∈ Tn := tn (i := 503) (by decide +kernel) rfl
theorem tw_504 : (Jvm.Cond.methodLinkNest "FibreLoops" (95 : Nat) ({ cls := "FibreLoops$Ring", name := "strengthAt", desc := "(I)I" } : Jvm.MethodName) "FibreLoops") ∈ Tn := tn (i := 504) (by decide +kernel) rfl
theorem tw_505 : (Jvm.Cond.methodLinkNest "FibreLoops" (102 : Nat) ({ cls := "FibreLoops$Ring", name := "birthAt", desc := "(I)I" } : Jvm.MethodName) "FibreLoops") ∈ Tn := tn (i := 505) (by decide +kernel) rfl
theorem tw_507 : (Jvm.Cond.instanceMethod ({ cls := "FibreLoops$Ring", name := "birthAt", desc := "(I)I" } : Jvm.MethodName)) ∈ Tg := tg (i := 507) (by decide +kernel) rfl
theorem tw_508 : (Jvm.Cond.code ({ cls := "FibreLoops$Ring", name := "birthAt", desc := "(I)I" } : Jvm.MethodName) prog_7_method_7_code (2 : Nat) (Option.some Jvm.ClassFile.FieldType.int)) ∈ Tg := tg (i := 508) (by decide +kernel) rfl
theorem tw_509 : (Jvm.Cond.methodLink "FibreLoopsLaw" (54 : Nat) ({ cls := "FibreLoops", name := "ofLoop", desc := "(II)I" } : Jvm.MethodName)) ∈ Tg := tg (i := 509) (by decide +kernel) rfl
theorem tw_510 : (Jvm.Cond.instanceMethod ({ cls := "FibreLoops", name := "ofLoop", desc := "(II)I" } : Jvm.MethodName)) ∈ Tg := tg (i := 510) (by decide +kernel) rfl
theorem tw_511 : (Jvm.Cond.selects "FibreLoops" ({ cls := "FibreLoops", name := "ofLoop", desc := "(II)I" } : Jvm.MethodName) ({ cls := "FibreLoops", name := "ofLoop", desc := "(II)I" } : Jvm.MethodName)) ∈ Tg := tg (i := 511) (by decide +kernel) rfl
theorem tw_512 : (Jvm.Cond.code ({ cls := "FibreLoops", name := "ofLoop", desc := "(II)I" } : Jvm.MethodName) prog_1_method_11_code (4 : Nat) (Option.some Jvm.ClassFile.FieldType.int)) ∈ Tg := tg (i := 512) (by decide +kernel) rfl
theorem tw_513 : (Jvm.Cond.methodLinkNest "FibreLoops" (108 : Nat) ({ cls := "FibreLoops$State", name := "ringOf", desc := "(I)LFibreLoops$Ring;" } : Jvm.MethodName) "FibreLoops") ∈ Tn := tn (i := 513) (by decide +kernel) rfl
theorem tw_514 : (Jvm.Cond.methodLinkNest "FibreLoops" (112 : Nat) ({ cls := "FibreLoops$Ring", name := "flashes", desc := "()I" } : Jvm.MethodName) "FibreLoops") ∈ Tn := tn (i := 514) (by decide +kernel) rfl
theorem tw_515 : (Jvm.Cond.methodLinkNest "FibreLoops" (116 : Nat) ({ cls := "FibreLoops$Ring", name := "strengthInAll", desc := "()I" } : Jvm.MethodName) "FibreLoops") ∈ Tn := tn (i := 515) (by decide +kernel) rfl
theorem tw_517 : (Jvm.Cond.instanceMethod ({ cls := "FibreLoops$Ring", name := "strengthInAll", desc := "()I" } : Jvm.MethodName)) ∈ Tg := tg (i := 517) (by decide +kernel) rfl
theorem tw_518 : (Jvm.Cond.code ({ cls := "FibreLoops$Ring", name := "strengthInAll", desc := "()I" } : Jvm.MethodName) prog_7_method_10_code (3 : Nat) (Option.some Jvm.ClassFile.FieldType.int)) ∈ Tg := tg (i := 518) (by decide +kernel) rfl
theorem tw_519 : (Jvm.Cond.methodLinkNest "FibreLoops" (119 : Nat) ({ cls := "FibreLoops$Ring", name := "faintest", desc := "()I" } : Jvm.MethodName) "FibreLoops") ∈ Tn := tn (i := 519) (by decide +kernel) rfl
theorem tw_521 : (Jvm.Cond.instanceMethod ({ cls := "FibreLoops$Ring", name := "faintest", desc := "()I" } : Jvm.MethodName)) ∈ Tg := tg (i := 521) (by decide +kernel) rfl
theorem tw_522 : (Jvm.Cond.code ({ cls := "FibreLoops$Ring", name := "faintest", desc := "()I" } : Jvm.MethodName) prog_7_method_11_code (4 : Nat) (Option.some Jvm.ClassFile.FieldType.int)) ∈ Tg := tg (i := 522) (by decide +kernel) rfl
theorem tw_523 : (Jvm.Cond.methodLinkNest "FibreLoops" (122 : Nat) ({ cls := "FibreLoops$Ring", name := "tally", desc := "(I)I" } : Jvm.MethodName) "FibreLoops") ∈ Tn := tn (i := 523) (by decide +kernel) rfl
theorem tw_525 : (Jvm.Cond.instanceMethod ({ cls := "FibreLoops$Ring", name := "tally", desc := "(I)I" } : Jvm.MethodName)) ∈ Tg := tg (i := 525) (by decide +kernel) rfl
theorem tw_526 : (Jvm.Cond.code ({ cls := "FibreLoops$Ring", name := "tally", desc := "(I)I" } : Jvm.MethodName) prog_7_method_8_code (2 : Nat) (Option.some Jvm.ClassFile.FieldType.int)) ∈ Tg := tg (i := 526) (by decide +kernel) rfl
theorem tw_527 : (Jvm.Cond.methodLinkNest "FibreLoops$Ring" (36 : Nat) ({ cls := "FibreLoops", name := "isBetween", desc := "(III)Z" } : Jvm.MethodName) "FibreLoops") ∈ Tn := tn (i := 527) (by decide +kernel) rfl
theorem tw_528 : (Jvm.Cond.methodLink "FibreLoopsLaw" (58 : Nat) ({ cls := "FibreLoops", name := "ofDevice", desc := "(II)I" } : Jvm.MethodName)) ∈ Tg := tg (i := 528) (by decide +kernel) rfl
theorem tw_529 : (Jvm.Cond.instanceMethod ({ cls := "FibreLoops", name := "ofDevice", desc := "(II)I" } : Jvm.MethodName)) ∈ Tg := tg (i := 529) (by decide +kernel) rfl
theorem tw_530 : (Jvm.Cond.selects "FibreLoops" ({ cls := "FibreLoops", name := "ofDevice", desc := "(II)I" } : Jvm.MethodName) ({ cls := "FibreLoops", name := "ofDevice", desc := "(II)I" } : Jvm.MethodName)) ∈ Tg := tg (i := 530) (by decide +kernel) rfl
theorem tw_531 : (Jvm.Cond.code ({ cls := "FibreLoops", name := "ofDevice", desc := "(II)I" } : Jvm.MethodName) prog_1_method_12_code (4 : Nat) (Option.some Jvm.ClassFile.FieldType.int)) ∈ Tg := tg (i := 531) (by decide +kernel) rfl
theorem tw_532 : (Jvm.Cond.methodLinkNest "FibreLoops" (125 : Nat) ({ cls := "FibreLoops$State", name := "deviceOf", desc := "(I)LFibreLoops$Device;" } : Jvm.MethodName) "FibreLoops") ∈ Tn := tn (i := 532) (by decide +kernel) rfl
theorem tw_533 : (Jvm.Cond.methodLink "FibreLoopsLaw" (62 : Nat) ({ cls := "FibreLoops", name := "noted", desc := "(II)I" } : Jvm.MethodName)) ∈ Tg := tg (i := 533) (by decide +kernel) rfl
theorem tw_534 : (Jvm.Cond.instanceMethod ({ cls := "FibreLoops", name := "noted", desc := "(II)I" } : Jvm.MethodName)) ∈ Tg := tg (i := 534) (by decide +kernel) rfl
theorem tw_535 : (Jvm.Cond.selects "FibreLoops" ({ cls := "FibreLoops", name := "noted", desc := "(II)I" } : Jvm.MethodName) ({ cls := "FibreLoops", name := "noted", desc := "(II)I" } : Jvm.MethodName)) ∈ Tg := tg (i := 535) (by decide +kernel) rfl
theorem tw_536 : (Jvm.Cond.code ({ cls := "FibreLoops", name := "noted", desc := "(II)I" } : Jvm.MethodName) prog_1_method_13_code (4 : Nat) (Option.some Jvm.ClassFile.FieldType.int)) ∈ Tg := tg (i := 536) (by decide +kernel) rfl
theorem tw_537 : (Jvm.Cond.methodLinkNest "FibreLoops" (155 : Nat) ({ cls := "FibreLoops$Device", name := "keptAt", desc := "(I)I" } : Jvm.MethodName) "FibreLoops") ∈ Tn := tn (i := 537) (by decide +kernel) rfl
theorem tw_539 : (Jvm.Cond.instanceMethod ({ cls := "FibreLoops$Device", name := "keptAt", desc := "(I)I" } : Jvm.MethodName)) ∈ Tg := tg (i := 539) (by decide +kernel) rfl
theorem tw_540 : (Jvm.Cond.code ({ cls := "FibreLoops$Device", name := "keptAt", desc := "(I)I" } : Jvm.MethodName) prog_2_method_4_code (2 : Nat) (Option.some Jvm.ClassFile.FieldType.int)) ∈ Tg := tg (i := 540) (by decide +kernel) rfl
theorem tw_541 : (Jvm.Cond.methodLink "FibreLoopsLaw" (66 : Nat) ({ cls := "FibreLoops", name := "ofJoin", desc := "(II)I" } : Jvm.MethodName)) ∈ Tg := tg (i := 541) (by decide +kernel) rfl
theorem tw_542 : (Jvm.Cond.instanceMethod ({ cls := "FibreLoops", name := "ofJoin", desc := "(II)I" } : Jvm.MethodName)) ∈ Tg := tg (i := 542) (by decide +kernel) rfl
theorem tw_543 : (Jvm.Cond.selects "FibreLoops" ({ cls := "FibreLoops", name := "ofJoin", desc := "(II)I" } : Jvm.MethodName) ({ cls := "FibreLoops", name := "ofJoin", desc := "(II)I" } : Jvm.MethodName)) ∈ Tg := tg (i := 543) (by decide +kernel) rfl
theorem tw_544 : (Jvm.Cond.code ({ cls := "FibreLoops", name := "ofJoin", desc := "(II)I" } : Jvm.MethodName) prog_1_method_14_code (4 : Nat) (Option.some Jvm.ClassFile.FieldType.int)) ∈ Tg := tg (i := 544) (by decide +kernel) rfl
theorem tw_545 : (Jvm.Cond.methodLinkNest "FibreLoops" (158 : Nat) ({ cls := "FibreLoops$State", name := "joinOf", desc := "(I)LFibreLoops$Join;" } : Jvm.MethodName) "FibreLoops") ∈ Tn := tn (i := 545) (by decide +kernel) rfl
theorem tw_546 : (Jvm.Cond.methodLink "FibreLoopsLaw" (70 : Nat) ({ cls := "FibreLoops", name := "find", desc := "(II)I" } : Jvm.MethodName)) ∈ Tg := tg (i := 546) (by decide +kernel) rfl
theorem tw_547 : (Jvm.Cond.instanceMethod ({ cls := "FibreLoops", name := "find", desc := "(II)I" } : Jvm.MethodName)) ∈ Tg := tg (i := 547) (by decide +kernel) rfl
theorem tw_548 : (Jvm.Cond.selects "FibreLoops" ({ cls := "FibreLoops", name := "find", desc := "(II)I" } : Jvm.MethodName) ({ cls := "FibreLoops", name := "find", desc := "(II)I" } : Jvm.MethodName)) ∈ Tg := tg (i := 548) (by decide +kernel) rfl
theorem tw_549 : (Jvm.Cond.code ({ cls := "FibreLoops", name := "find", desc := "(II)I" } : Jvm.MethodName) prog_1_method_15_code (9 : Nat) (Option.some Jvm.ClassFile.FieldType.int)) ∈ Tg := tg (i := 549) (by decide +kernel) rfl
theorem tw_550 : (Jvm.Cond.methodLink "FibreLoopsLaw" (74 : Nat) ({ cls := "FibreLoops", name := "count", desc := "(I)I" } : Jvm.MethodName)) ∈ Tg := tg (i := 550) (by decide +kernel) rfl
theorem tw_551 : (Jvm.Cond.instanceMethod ({ cls := "FibreLoops", name := "count", desc := "(I)I" } : Jvm.MethodName)) ∈ Tg := tg (i := 551) (by decide +kernel) rfl
theorem tw_552 : (Jvm.Cond.selects "FibreLoops" ({ cls := "FibreLoops", name := "count", desc := "(I)I" } : Jvm.MethodName) ({ cls := "FibreLoops", name := "count", desc := "(I)I" } : Jvm.MethodName)) ∈ Tg := tg (i := 552) (by decide +kernel) rfl
theorem tw_553 : (Jvm.Cond.code ({ cls := "FibreLoops", name := "count", desc := "(I)I" } : Jvm.MethodName) prog_1_method_16_code (2 : Nat) (Option.some Jvm.ClassFile.FieldType.int)) ∈ Tg := tg (i := 553) (by decide +kernel) rfl
theorem tw_554 : (Jvm.Cond.methodLinkNest "FibreLoops" (199 : Nat) ({ cls := "FibreLoops$State", name := "flashesInAll", desc := "()I" } : Jvm.MethodName) "FibreLoops") ∈ Tn := tn (i := 554) (by decide +kernel) rfl
theorem tw_556 : (Jvm.Cond.instanceMethod ({ cls := "FibreLoops$State", name := "flashesInAll", desc := "()I" } : Jvm.MethodName)) ∈ Tg := tg (i := 556) (by decide +kernel) rfl
theorem tw_557 : (Jvm.Cond.code ({ cls := "FibreLoops$State", name := "flashesInAll", desc := "()I" } : Jvm.MethodName) prog_8_method_18_code (3 : Nat) (Option.some Jvm.ClassFile.FieldType.int)) ∈ Tg := tg (i := 557) (by decide +kernel) rfl
theorem tw_558 : (Jvm.Cond.methodLinkNest "FibreLoops" (202 : Nat) ({ cls := "FibreLoops$State", name := "tallyInAll", desc := "(I)I" } : Jvm.MethodName) "FibreLoops") ∈ Tn := tn (i := 558) (by decide +kernel) rfl
theorem tw_560 : (Jvm.Cond.instanceMethod ({ cls := "FibreLoops$State", name := "tallyInAll", desc := "(I)I" } : Jvm.MethodName)) ∈ Tg := tg (i := 560) (by decide +kernel) rfl
theorem tw_561 : (Jvm.Cond.code ({ cls := "FibreLoops$State", name := "tallyInAll", desc := "(I)I" } : Jvm.MethodName) prog_8_method_19_code (4 : Nat) (Option.some Jvm.ClassFile.FieldType.int)) ∈ Tg := tg (i := 561) (by decide +kernel) rfl
theorem tw_562 : (Jvm.Cond.methodLinkNest "FibreLoops$State" (166 : Nat) ({ cls := "FibreLoops$Ring", name := "tally", desc := "(I)I" } : Jvm.MethodName) "FibreLoops") ∈ Tn := tn (i := 562) (by decide +kernel) rfl
theorem tw_563 : (Jvm.Cond.methodLinkNest "FibreLoops" (205 : Nat) ({ cls := "FibreLoops$State", name := "setting", desc := "(I)I" } : Jvm.MethodName) "FibreLoops") ∈ Tn := tn (i := 563) (by decide +kernel) rfl
theorem tw_564 : (Jvm.Cond.methodLink "FibreLoopsLaw" (78 : Nat) ({ cls := "FibreLoops", name := "valueIn", desc := "(III)I" } : Jvm.MethodName)) ∈ Tg := tg (i := 564) (by decide +kernel) rfl
theorem tw_565 : (Jvm.Cond.instanceMethod ({ cls := "FibreLoops", name := "valueIn", desc := "(III)I" } : Jvm.MethodName)) ∈ Tg := tg (i := 565) (by decide +kernel) rfl
theorem tw_566 : (Jvm.Cond.selects "FibreLoops" ({ cls := "FibreLoops", name := "valueIn", desc := "(III)I" } : Jvm.MethodName) ({ cls := "FibreLoops", name := "valueIn", desc := "(III)I" } : Jvm.MethodName)) ∈ Tg := tg (i := 566) (by decide +kernel) rfl
theorem tw_567 : (Jvm.Cond.code ({ cls := "FibreLoops", name := "valueIn", desc := "(III)I" } : Jvm.MethodName) prog_1_method_17_code (5 : Nat) (Option.some Jvm.ClassFile.FieldType.int)) ∈ Tg := tg (i := 567) (by decide +kernel) rfl
theorem tw_568 : (Jvm.Cond.methodLinkNest "FibreLoops" (214 : Nat) ({ cls := "FibreLoops$State", name := "copyFrom", desc := "(LFibreLoops$State;)V" } : Jvm.MethodName) "FibreLoops") ∈ Tn := tn (i := 568) (by decide +kernel) rfl
theorem tw_569 : (Jvm.Cond.methodLink "FibreLoopsLaw" (82 : Nat) ({ cls := "FibreLoops", name := "leftIn", desc := "(I)I" } : Jvm.MethodName)) ∈ Tg := tg (i := 569) (by decide +kernel) rfl
theorem tw_570 : (Jvm.Cond.instanceMethod ({ cls := "FibreLoops", name := "leftIn", desc := "(I)I" } : Jvm.MethodName)) ∈ Tg := tg (i := 570) (by decide +kernel) rfl
theorem tw_571 : (Jvm.Cond.selects "FibreLoops" ({ cls := "FibreLoops", name := "leftIn", desc := "(I)I" } : Jvm.MethodName) ({ cls := "FibreLoops", name := "leftIn", desc := "(I)I" } : Jvm.MethodName)) ∈ Tg := tg (i := 571) (by decide +kernel) rfl
theorem tw_572 : (Jvm.Cond.code ({ cls := "FibreLoops", name := "leftIn", desc := "(I)I" } : Jvm.MethodName) prog_1_method_18_code (2 : Nat) (Option.some Jvm.ClassFile.FieldType.int)) ∈ Tg := tg (i := 572) (by decide +kernel) rfl
theorem tw_573 : (Jvm.Cond.methodLink "FibreLoopsLaw" (86 : Nat) ({ cls := "FibreLoops", name := "firstLoss", desc := "()I" } : Jvm.MethodName)) ∈ Tg := tg (i := 573) (by decide +kernel) rfl
theorem tw_574 : (Jvm.Cond.instanceMethod ({ cls := "FibreLoops", name := "firstLoss", desc := "()I" } : Jvm.MethodName)) ∈ Tg := tg (i := 574) (by decide +kernel) rfl
theorem tw_575 : (Jvm.Cond.selects "FibreLoops" ({ cls := "FibreLoops", name := "firstLoss", desc := "()I" } : Jvm.MethodName) ({ cls := "FibreLoops", name := "firstLoss", desc := "()I" } : Jvm.MethodName)) ∈ Tg := tg (i := 575) (by decide +kernel) rfl
theorem tw_576 : (Jvm.Cond.code ({ cls := "FibreLoops", name := "firstLoss", desc := "()I" } : Jvm.MethodName) prog_1_method_19_code (1 : Nat) (Option.some Jvm.ClassFile.FieldType.int)) ∈ Tg := tg (i := 576) (by decide +kernel) rfl
theorem tw_577 : (Jvm.Cond.methodLinkNest "FibreLoops" (217 : Nat) ({ cls := "FibreLoops$State", name := "ticksToLoss", desc := "(I)I" } : Jvm.MethodName) "FibreLoops") ∈ Tn := tn (i := 577) (by decide +kernel) rfl
theorem tw_579 : (Jvm.Cond.instanceMethod ({ cls := "FibreLoops$State", name := "ticksToLoss", desc := "(I)I" } : Jvm.MethodName)) ∈ Tg := tg (i := 579) (by decide +kernel) rfl
theorem tw_580 : (Jvm.Cond.code ({ cls := "FibreLoops$State", name := "ticksToLoss", desc := "(I)I" } : Jvm.MethodName) prog_8_method_16_code (4 : Nat) (Option.some Jvm.ClassFile.FieldType.int)) ∈ Tg := tg (i := 580) (by decide +kernel) rfl
theorem tw_581 : (Jvm.Cond.methodLink "FibreLoops$State" (141 : Nat) ({ cls := "FibreLoops$State", name := "tallyInAll", desc := "(I)I" } : Jvm.MethodName)) ∈ Tg := tg (i := 581) (by decide +kernel) rfl
theorem tw_582 : (Jvm.Cond.methodLink "FibreLoopsLaw" (91 : Nat) ({ cls := "FibreLoops", name := "bestPlace", desc := "(IIII)I" } : Jvm.MethodName)) ∈ Tg := tg (i := 582) (by decide +kernel) rfl
theorem tw_583 : (Jvm.Cond.instanceMethod ({ cls := "FibreLoops", name := "bestPlace", desc := "(IIII)I" } : Jvm.MethodName)) ∈ Tg := tg (i := 583) (by decide +kernel) rfl
theorem tw_584 : (Jvm.Cond.selects "FibreLoops" ({ cls := "FibreLoops", name := "bestPlace", desc := "(IIII)I" } : Jvm.MethodName) ({ cls := "FibreLoops", name := "bestPlace", desc := "(IIII)I" } : Jvm.MethodName)) ∈ Tg := tg (i := 584) (by decide +kernel) rfl
theorem tw_585 : (Jvm.Cond.code ({ cls := "FibreLoops", name := "bestPlace", desc := "(IIII)I" } : Jvm.MethodName) prog_1_method_20_code (10 : Nat) (Option.some Jvm.ClassFile.FieldType.int)) ∈ Tg := tg (i := 585) (by decide +kernel) rfl
theorem tw_586 : (Jvm.Cond.methodLink "FibreLoops" (220 : Nat) ({ cls := "FibreLoops", name := "fits", desc := "(III)Z" } : Jvm.MethodName)) ∈ Tg := tg (i := 586) (by decide +kernel) rfl
theorem tw_587 : (Jvm.Cond.methodLink "FibreLoopsLaw" (95 : Nat) ({ cls := "FibreLoops", name := "bearable", desc := "()I" } : Jvm.MethodName)) ∈ Tg := tg (i := 587) (by decide +kernel) rfl
theorem tw_588 : (Jvm.Cond.instanceMethod ({ cls := "FibreLoops", name := "bearable", desc := "()I" } : Jvm.MethodName)) ∈ Tg := tg (i := 588) (by decide +kernel) rfl
theorem tw_589 : (Jvm.Cond.selects "FibreLoops" ({ cls := "FibreLoops", name := "bearable", desc := "()I" } : Jvm.MethodName) ({ cls := "FibreLoops", name := "bearable", desc := "()I" } : Jvm.MethodName)) ∈ Tg := tg (i := 589) (by decide +kernel) rfl
theorem tw_590 : (Jvm.Cond.code ({ cls := "FibreLoops", name := "bearable", desc := "()I" } : Jvm.MethodName) prog_1_method_21_code (2 : Nat) (Option.some Jvm.ClassFile.FieldType.int)) ∈ Tg := tg (i := 590) (by decide +kernel) rfl
theorem tw_591 : (Jvm.Cond.fieldLink "FibreLoops" (223 : Nat) "FibreLoops" "HIGHEST_SETTING" "[I") ∈ Tg := tg (i := 591) (by decide +kernel) rfl
theorem tw_592 : (Jvm.Cond.fieldLink "FibreLoops" (227 : Nat) "FibreLoops" "LOWEST_SETTING" "[I") ∈ Tg := tg (i := 592) (by decide +kernel) rfl
theorem tw_593 : (Jvm.Cond.methodLink "FibreLoopsLaw" (101 : Nat) ({ cls := "FibreLoops", name := "put", desc := "(J)I" } : Jvm.MethodName)) ∈ Tg := tg (i := 593) (by decide +kernel) rfl
theorem tw_594 : (Jvm.Cond.instanceMethod ({ cls := "FibreLoops", name := "put", desc := "(J)I" } : Jvm.MethodName)) ∈ Tg := tg (i := 594) (by decide +kernel) rfl
theorem tw_595 : (Jvm.Cond.selects "FibreLoops" ({ cls := "FibreLoops", name := "put", desc := "(J)I" } : Jvm.MethodName) ({ cls := "FibreLoops", name := "put", desc := "(J)I" } : Jvm.MethodName)) ∈ Tg := tg (i := 595) (by decide +kernel) rfl
theorem tw_596 : (Jvm.Cond.code ({ cls := "FibreLoops", name := "put", desc := "(J)I" } : Jvm.MethodName) prog_1_method_22_code (5 : Nat) (Option.some Jvm.ClassFile.FieldType.int)) ∈ Tg := tg (i := 596) (by decide +kernel) rfl
theorem tw_597 : (Jvm.Cond.methodLink "FibreLoops" (230 : Nat) ({ cls := "FibreLoops", name := "signsIn", desc := "(J)I" } : Jvm.MethodName)) ∈ Tg := tg (i := 597) (by decide +kernel) rfl
theorem tw_598 : (Jvm.Cond.static ({ cls := "FibreLoops", name := "signsIn", desc := "(J)I" } : Jvm.MethodName)) ∈ Tg := tg (i := 598) (by decide +kernel) rfl
theorem tw_599 : (Jvm.Cond.code ({ cls := "FibreLoops", name := "signsIn", desc := "(J)I" } : Jvm.MethodName) prog_1_method_36_code (3 : Nat) (Option.some Jvm.ClassFile.FieldType.int)) ∈ Tg := tg (i := 599) (by decide +kernel) rfl
theorem tw_600 : (Jvm.Cond.methodLink "FibreLoops" (234 : Nat) ({ cls := "FibreLoops", name := "signIn", desc := "(JI)C" } : Jvm.MethodName)) ∈ Tg := tg (i := 600) (by decide +kernel) rfl
theorem tw_601 : (Jvm.Cond.static ({ cls := "FibreLoops", name := "signIn", desc := "(JI)C" } : Jvm.MethodName)) ∈ Tg := tg (i := 601) (by decide +kernel) rfl
theorem tw_602 : (Jvm.Cond.code ({ cls := "FibreLoops", name := "signIn", desc := "(JI)C" } : Jvm.MethodName) prog_1_method_35_code (3 : Nat) (Option.some Jvm.ClassFile.FieldType.char)) ∈ Tg := tg (i := 602) (by decide +kernel) rfl
theorem tw_603 : (Jvm.Cond.constantLong "FibreLoops" (279 : Nat) (255 : Int64)) ∈ Tg := tg (i := 603) (by decide +kernel) rfl
theorem tw_604 : (Jvm.Cond.methodLinkNest "FibreLoops" (238 : Nat) ({ cls := "FibreLoops$Pad", name := "append", desc := "(C)V" } : Jvm.MethodName) "FibreLoops") ∈ Tn := tn (i := 604) (by decide +kernel) rfl
theorem tw_606 : (Jvm.Cond.instanceMethod ({ cls := "FibreLoops$Pad", name := "append", desc := "(C)V" } : Jvm.MethodName)) ∈ Tg := tg (i := 606) (by decide +kernel) rfl
theorem tw_607 : (Jvm.Cond.code ({ cls := "FibreLoops$Pad", name := "append", desc := "(C)V" } : Jvm.MethodName) prog_6_method_2_code (2 : Nat) (Option.none : Option Jvm.ClassFile.FieldType)) ∈ Tg := tg (i := 607) (by decide +kernel) rfl
theorem tw_608 : (Jvm.Cond.methodLink "FibreLoopsLaw" (106 : Nat) ({ cls := "FibreLoops", name := "wipe", desc := "()I" } : Jvm.MethodName)) ∈ Tg := tg (i := 608) (by decide +kernel) rfl
theorem tw_609 : (Jvm.Cond.instanceMethod ({ cls := "FibreLoops", name := "wipe", desc := "()I" } : Jvm.MethodName)) ∈ Tg := tg (i := 609) (by decide +kernel) rfl
theorem tw_610 : (Jvm.Cond.selects "FibreLoops" ({ cls := "FibreLoops", name := "wipe", desc := "()I" } : Jvm.MethodName) ({ cls := "FibreLoops", name := "wipe", desc := "()I" } : Jvm.MethodName)) ∈ Tg := tg (i := 610) (by decide +kernel) rfl
theorem tw_611 : (Jvm.Cond.code ({ cls := "FibreLoops", name := "wipe", desc := "()I" } : Jvm.MethodName) prog_1_method_23_code (2 : Nat) (Option.some Jvm.ClassFile.FieldType.int)) ∈ Tg := tg (i := 611) (by decide +kernel) rfl
theorem tw_612 : (Jvm.Cond.methodLinkNest "FibreLoops" (242 : Nat) ({ cls := "FibreLoops$Pad", name := "clear", desc := "()V" } : Jvm.MethodName) "FibreLoops") ∈ Tn := tn (i := 612) (by decide +kernel) rfl
theorem tw_614 : (Jvm.Cond.instanceMethod ({ cls := "FibreLoops$Pad", name := "clear", desc := "()V" } : Jvm.MethodName)) ∈ Tg := tg (i := 614) (by decide +kernel) rfl
theorem tw_615 : (Jvm.Cond.code ({ cls := "FibreLoops$Pad", name := "clear", desc := "()V" } : Jvm.MethodName) prog_6_method_3_code (1 : Nat) (Option.none : Option Jvm.ClassFile.FieldType)) ∈ Tg := tg (i := 615) (by decide +kernel) rfl
theorem tw_616 : (Jvm.Cond.methodLink "FibreLoopsLaw" (110 : Nat) ({ cls := "FibreLoops", name := "fault", desc := "()I" } : Jvm.MethodName)) ∈ Tg := tg (i := 616) (by decide +kernel) rfl
theorem tw_617 : (Jvm.Cond.instanceMethod ({ cls := "FibreLoops", name := "fault", desc := "()I" } : Jvm.MethodName)) ∈ Tg := tg (i := 617) (by decide +kernel) rfl
theorem tw_618 : (Jvm.Cond.selects "FibreLoops" ({ cls := "FibreLoops", name := "fault", desc := "()I" } : Jvm.MethodName) ({ cls := "FibreLoops", name := "fault", desc := "()I" } : Jvm.MethodName)) ∈ Tg := tg (i := 618) (by decide +kernel) rfl
theorem tw_619 : (Jvm.Cond.code ({ cls := "FibreLoops", name := "fault", desc := "()I" } : Jvm.MethodName) prog_1_method_24_code (1 : Nat) (Option.some Jvm.ClassFile.FieldType.int)) ∈ Tg := tg (i := 619) (by decide +kernel) rfl
theorem tw_620 : (Jvm.Cond.methodLinkNest "FibreLoops" (245 : Nat) ({ cls := "FibreLoops$OrderReader", name := "firstFault", desc := "()I" } : Jvm.MethodName) "FibreLoops") ∈ Tn := tn (i := 620) (by decide +kernel) rfl
theorem tw_622 : (Jvm.Cond.instanceMethod ({ cls := "FibreLoops$OrderReader", name := "firstFault", desc := "()I" } : Jvm.MethodName)) ∈ Tg := tg (i := 622) (by decide +kernel) rfl
theorem tw_623 : (Jvm.Cond.code ({ cls := "FibreLoops$OrderReader", name := "firstFault", desc := "()I" } : Jvm.MethodName) prog_5_method_4_code (2 : Nat) (Option.some Jvm.ClassFile.FieldType.int)) ∈ Tg := tg (i := 623) (by decide +kernel) rfl
theorem tw_624 : (Jvm.Cond.methodLink "FibreLoops$OrderReader" (26 : Nat) ({ cls := "FibreLoops$OrderReader", name := "goToStart", desc := "()V" } : Jvm.MethodName)) ∈ Tg := tg (i := 624) (by decide +kernel) rfl
theorem tw_626 : (Jvm.Cond.instanceMethod ({ cls := "FibreLoops$OrderReader", name := "goToStart", desc := "()V" } : Jvm.MethodName)) ∈ Tg := tg (i := 626) (by decide +kernel) rfl
theorem tw_627 : (Jvm.Cond.code ({ cls := "FibreLoops$OrderReader", name := "goToStart", desc := "()V" } : Jvm.MethodName) prog_5_method_2_code (1 : Nat) (Option.none : Option Jvm.ClassFile.FieldType)) ∈ Tg := tg (i := 627) (by decide +kernel) rfl
theorem tw_628 : (Jvm.Cond.methodLink "FibreLoops$OrderReader" (29 : Nat) ({ cls := "FibreLoops$OrderReader", name := "readOrder", desc := "()Z" } : Jvm.MethodName)) ∈ Tg := tg (i := 628) (by decide +kernel) rfl
theorem tw_630 : (Jvm.Cond.instanceMethod ({ cls := "FibreLoops$OrderReader", name := "readOrder", desc := "()Z" } : Jvm.MethodName)) ∈ Tg := tg (i := 630) (by decide +kernel) rfl
theorem tw_631 : (Jvm.Cond.code ({ cls := "FibreLoops$OrderReader", name := "readOrder", desc := "()Z" } : Jvm.MethodName) prog_5_method_6_code (1 : Nat) (Option.some Jvm.ClassFile.FieldType.boolean)) ∈ Tg := tg (i := 631) (by decide +kernel) rfl
theorem tw_632 : (Jvm.Cond.methodLinkNest "FibreLoops$OrderReader" (42 : Nat) ({ cls := "FibreLoops$Pad", name := "signAt", desc := "(I)C" } : Jvm.MethodName) "FibreLoops") ∈ Tn := tn (i := 632) (by decide +kernel) rfl
theorem tw_634 : (Jvm.Cond.instanceMethod ({ cls := "FibreLoops$Pad", name := "signAt", desc := "(I)C" } : Jvm.MethodName)) ∈ Tg := tg (i := 634) (by decide +kernel) rfl
theorem tw_635 : (Jvm.Cond.code ({ cls := "FibreLoops$Pad", name := "signAt", desc := "(I)C" } : Jvm.MethodName) prog_6_method_4_code (2 : Nat) (Option.some Jvm.ClassFile.FieldType.char)) ∈ Tg := tg (i := 635) (by decide +kernel) rfl
theorem tw_636 : (Jvm.Cond.methodLink "FibreLoops$OrderReader" (38 : Nat) ({ cls := "FibreLoops$OrderReader", name := "take", desc := "(C)Z" } : Jvm.MethodName)) ∈ Tg := tg (i := 636) (by decide +kernel) rfl
theorem tw_638 : (Jvm.Cond.instanceMethod ({ cls := "FibreLoops$OrderReader", name := "take", desc := "(C)Z" } : Jvm.MethodName)) ∈ Tg := tg (i := 638) (by decide +kernel) rfl
theorem tw_639 : (Jvm.Cond.code ({ cls := "FibreLoops$OrderReader", name := "take", desc := "(C)Z" } : Jvm.MethodName) prog_5_method_7_code (2 : Nat) (Option.some Jvm.ClassFile.FieldType.boolean)) ∈ Tg := tg (i := 639) (by decide +kernel) rfl
theorem tw_640 : (Jvm.Cond.methodLink "FibreLoops$OrderReader" (50 : Nat) ({ cls := "FibreLoops$OrderReader", name := "readNumber", desc := "()Z" } : Jvm.MethodName)) ∈ Tg := tg (i := 640) (by decide +kernel) rfl
theorem tw_642 : (Jvm.Cond.instanceMethod ({ cls := "FibreLoops$OrderReader", name := "readNumber", desc := "()Z" } : Jvm.MethodName)) ∈ Tg := tg (i := 642) (by decide +kernel) rfl
theorem tw_643 : (Jvm.Cond.code ({ cls := "FibreLoops$OrderReader", name := "readNumber", desc := "()Z" } : Jvm.MethodName) prog_5_method_10_code (3 : Nat) (Option.some Jvm.ClassFile.FieldType.boolean)) ∈ Tg := tg (i := 643) (by decide +kernel) rfl
theorem tw_644 : (Jvm.Cond.methodLink "FibreLoops$OrderReader" (63 : Nat) ({ cls := "FibreLoops$OrderReader", name := "digit", desc := "()I" } : Jvm.MethodName)) ∈ Tg := tg (i := 644) (by decide +kernel) rfl
theorem tw_646 : (Jvm.Cond.instanceMethod ({ cls := "FibreLoops$OrderReader", name := "digit", desc := "()I" } : Jvm.MethodName)) ∈ Tg := tg (i := 646) (by decide +kernel) rfl
theorem tw_647 : (Jvm.Cond.code ({ cls := "FibreLoops$OrderReader", name := "digit", desc := "()I" } : Jvm.MethodName) prog_5_method_9_code (2 : Nat) (Option.some Jvm.ClassFile.FieldType.int)) ∈ Tg := tg (i := 647) (by decide +kernel) rfl
theorem tw_648 : (Jvm.Cond.methodLinkNest "FibreLoops$OrderReader" (59 : Nat) ({ cls := "FibreLoops", name := "isBetween", desc := "(III)Z" } : Jvm.MethodName) "FibreLoops") ∈ Tn := tn (i := 648) (by decide +kernel) rfl
theorem tw_649 : (Jvm.Cond.methodLink "FibreLoops$OrderReader" (67 : Nat) ({ cls := "FibreLoops$OrderReader", name := "keep", desc := "(I)Z" } : Jvm.MethodName)) ∈ Tg := tg (i := 649) (by decide +kernel) rfl
theorem tw_651 : (Jvm.Cond.instanceMethod ({ cls := "FibreLoops$OrderReader", name := "keep", desc := "(I)Z" } : Jvm.MethodName)) ∈ Tg := tg (i := 651) (by decide +kernel) rfl
theorem tw_652 : (Jvm.Cond.code ({ cls := "FibreLoops$OrderReader", name := "keep", desc := "(I)Z" } : Jvm.MethodName) prog_5_method_12_code (2 : Nat) (Option.some Jvm.ClassFile.FieldType.boolean)) ∈ Tg := tg (i := 652) (by decide +kernel) rfl
theorem tw_653 : (Jvm.Cond.methodLink "FibreLoops$OrderReader" (53 : Nat) ({ cls := "FibreLoops$OrderReader", name := "readValues", desc := "()Z" } : Jvm.MethodName)) ∈ Tg := tg (i := 653) (by decide +kernel) rfl
theorem tw_655 : (Jvm.Cond.instanceMethod ({ cls := "FibreLoops$OrderReader", name := "readValues", desc := "()Z" } : Jvm.MethodName)) ∈ Tg := tg (i := 655) (by decide +kernel) rfl
theorem tw_656 : (Jvm.Cond.code ({ cls := "FibreLoops$OrderReader", name := "readValues", desc := "()Z" } : Jvm.MethodName) prog_5_method_8_code (2 : Nat) (Option.some Jvm.ClassFile.FieldType.boolean)) ∈ Tg := tg (i := 656) (by decide +kernel) rfl
theorem tw_657 : (Jvm.Cond.methodLink "FibreLoops$OrderReader" (56 : Nat) ({ cls := "FibreLoops$OrderReader", name := "readMode", desc := "()Z" } : Jvm.MethodName)) ∈ Tg := tg (i := 657) (by decide +kernel) rfl
theorem tw_659 : (Jvm.Cond.instanceMethod ({ cls := "FibreLoops$OrderReader", name := "readMode", desc := "()Z" } : Jvm.MethodName)) ∈ Tg := tg (i := 659) (by decide +kernel) rfl
theorem tw_660 : (Jvm.Cond.code ({ cls := "FibreLoops$OrderReader", name := "readMode", desc := "()Z" } : Jvm.MethodName) prog_5_method_11_code (2 : Nat) (Option.some Jvm.ClassFile.FieldType.boolean)) ∈ Tg := tg (i := 660) (by decide +kernel) rfl
theorem tw_661 : (Jvm.Cond.methodLink "FibreLoopsLaw" (114 : Nat) ({ cls := "FibreLoops", name := "carryOut", desc := "()I" } : Jvm.MethodName)) ∈ Tg := tg (i := 661) (by decide +kernel) rfl
theorem tw_662 : (Jvm.Cond.instanceMethod ({ cls := "FibreLoops", name := "carryOut", desc := "()I" } : Jvm.MethodName)) ∈ Tg := tg (i := 662) (by decide +kernel) rfl
theorem tw_663 : (Jvm.Cond.selects "FibreLoops" ({ cls := "FibreLoops", name := "carryOut", desc := "()I" } : Jvm.MethodName) ({ cls := "FibreLoops", name := "carryOut", desc := "()I" } : Jvm.MethodName)) ∈ Tg := tg (i := 663) (by decide +kernel) rfl
theorem tw_664 : (Jvm.Cond.code ({ cls := "FibreLoops", name := "carryOut", desc := "()I" } : Jvm.MethodName) prog_1_method_25_code (2 : Nat) (Option.some Jvm.ClassFile.FieldType.int)) ∈ Tg := tg (i := 664) (by decide +kernel) rfl
theorem tw_665 : (Jvm.Cond.methodLinkNest "FibreLoops" (248 : Nat) ({ cls := "FibreLoops$OrderReader", name := "goToStart", desc := "()V" } : Jvm.MethodName) "FibreLoops") ∈ Tn := tn (i := 665) (by decide +kernel) rfl
theorem tw_666 : (Jvm.Cond.methodLinkNest "FibreLoops" (251 : Nat) ({ cls := "FibreLoops$OrderReader", name := "readNext", desc := "()Z" } : Jvm.MethodName) "FibreLoops") ∈ Tn := tn (i := 666) (by decide +kernel) rfl
theorem tw_668 : (Jvm.Cond.instanceMethod ({ cls := "FibreLoops$OrderReader", name := "readNext", desc := "()Z" } : Jvm.MethodName)) ∈ Tg := tg (i := 668) (by decide +kernel) rfl
theorem tw_669 : (Jvm.Cond.code ({ cls := "FibreLoops$OrderReader", name := "readNext", desc := "()Z" } : Jvm.MethodName) prog_5_method_5_code (1 : Nat) (Option.some Jvm.ClassFile.FieldType.boolean)) ∈ Tg := tg (i := 669) (by decide +kernel) rfl
theorem tw_670 : (Jvm.Cond.methodLink "FibreLoops" (255 : Nat) ({ cls := "FibreLoops", name := "carryOrder", desc := "()Z" } : Jvm.MethodName)) ∈ Tg := tg (i := 670) (by decide +kernel) rfl
theorem tw_672 : (Jvm.Cond.instanceMethod ({ cls := "FibreLoops", name := "carryOrder", desc := "()Z" } : Jvm.MethodName)) ∈ Tg := tg (i := 672) (by decide +kernel) rfl
theorem tw_673 : (Jvm.Cond.code ({ cls := "FibreLoops", name := "carryOrder", desc := "()Z" } : Jvm.MethodName) prog_1_method_26_code (2 : Nat) (Option.some Jvm.ClassFile.FieldType.boolean)) ∈ Tg := tg (i := 673) (by decide +kernel) rfl
theorem tw_674 : (Jvm.Cond.methodLinkNest "FibreLoops" (258 : Nat) ({ cls := "FibreLoops$OrderReader", name := "number", desc := "(I)I" } : Jvm.MethodName) "FibreLoops") ∈ Tn := tn (i := 674) (by decide +kernel) rfl
theorem tw_676 : (Jvm.Cond.instanceMethod ({ cls := "FibreLoops$OrderReader", name := "number", desc := "(I)I" } : Jvm.MethodName)) ∈ Tg := tg (i := 676) (by decide +kernel) rfl
theorem tw_677 : (Jvm.Cond.code ({ cls := "FibreLoops$OrderReader", name := "number", desc := "(I)I" } : Jvm.MethodName) prog_5_method_3_code (2 : Nat) (Option.some Jvm.ClassFile.FieldType.int)) ∈ Tg := tg (i := 677) (by decide +kernel) rfl
theorem tw_678 : (Jvm.Cond.methodLink "FibreLoops" (265 : Nat) ({ cls := "FibreLoops", name := "feedAll", desc := "(I)Z" } : Jvm.MethodName)) ∈ Tg := tg (i := 678) (by decide +kernel) rfl
theorem tw_680 : (Jvm.Cond.instanceMethod ({ cls := "FibreLoops", name := "feedAll", desc := "(I)Z" } : Jvm.MethodName)) ∈ Tg := tg (i := 680) (by decide +kernel) rfl
theorem tw_681 : (Jvm.Cond.code ({ cls := "FibreLoops", name := "feedAll", desc := "(I)Z" } : Jvm.MethodName) prog_1_method_27_code (3 : Nat) (Option.some Jvm.ClassFile.FieldType.boolean)) ∈ Tg := tg (i := 681) (by decide +kernel) rfl
theorem tw_682 : (Jvm.Cond.methodLink "FibreLoopsLaw" (118 : Nat) ({ cls := "FibreLoops", name := "undo", desc := "()I" } : Jvm.MethodName)) ∈ Tg := tg (i := 682) (by decide +kernel) rfl
theorem tw_683 : (Jvm.Cond.instanceMethod ({ cls := "FibreLoops", name := "undo", desc := "()I" } : Jvm.MethodName)) ∈ Tg := tg (i := 683) (by decide +kernel) rfl
theorem tw_684 : (Jvm.Cond.selects "FibreLoops" ({ cls := "FibreLoops", name := "undo", desc := "()I" } : Jvm.MethodName) ({ cls := "FibreLoops", name := "undo", desc := "()I" } : Jvm.MethodName)) ∈ Tg := tg (i := 684) (by decide +kernel) rfl
theorem tw_685 : (Jvm.Cond.code ({ cls := "FibreLoops", name := "undo", desc := "()I" } : Jvm.MethodName) prog_1_method_28_code (2 : Nat) (Option.some Jvm.ClassFile.FieldType.int)) ∈ Tg := tg (i := 685) (by decide +kernel) rfl
theorem tw_686 : (Jvm.Cond.methodLinkNest "FibreLoops" (271 : Nat) ({ cls := "FibreLoops$History", name := "takeLatest", desc := "()LFibreLoops$State;" } : Jvm.MethodName) "FibreLoops") ∈ Tn := tn (i := 686) (by decide +kernel) rfl
theorem tw_688 : (Jvm.Cond.instanceMethod ({ cls := "FibreLoops$History", name := "takeLatest", desc := "()LFibreLoops$State;" } : Jvm.MethodName)) ∈ Tg := tg (i := 688) (by decide +kernel) rfl
theorem tw_689 : (Jvm.Cond.code ({ cls := "FibreLoops$History", name := "takeLatest", desc := "()LFibreLoops$State;" } : Jvm.MethodName) prog_3_method_5_code (1 : Nat) (Option.some (Jvm.ClassFile.FieldType.object "FibreLoops$State"))) ∈ Tg := tg (i := 689) (by decide +kernel) rfl
theorem tw_690 : (Jvm.Cond.methodLink "FibreLoopsLaw" (122 : Nat) ({ cls := "FibreLoops", name := "save", desc := "(I)I" } : Jvm.MethodName)) ∈ Tg := tg (i := 690) (by decide +kernel) rfl
theorem tw_691 : (Jvm.Cond.instanceMethod ({ cls := "FibreLoops", name := "save", desc := "(I)I" } : Jvm.MethodName)) ∈ Tg := tg (i := 691) (by decide +kernel) rfl
theorem tw_692 : (Jvm.Cond.selects "FibreLoops" ({ cls := "FibreLoops", name := "save", desc := "(I)I" } : Jvm.MethodName) ({ cls := "FibreLoops", name := "save", desc := "(I)I" } : Jvm.MethodName)) ∈ Tg := tg (i := 692) (by decide +kernel) rfl
theorem tw_693 : (Jvm.Cond.code ({ cls := "FibreLoops", name := "save", desc := "(I)I" } : Jvm.MethodName) prog_1_method_29_code (3 : Nat) (Option.some Jvm.ClassFile.FieldType.int)) ∈ Tg := tg (i := 693) (by decide +kernel) rfl
theorem tw_694 : (Jvm.Cond.methodLink "FibreLoops" (275 : Nat) ({ cls := "FibreLoops", name := "slotOf", desc := "(I)LFibreLoops$State;" } : Jvm.MethodName)) ∈ Tg := tg (i := 694) (by decide +kernel) rfl
theorem tw_696 : (Jvm.Cond.instanceMethod ({ cls := "FibreLoops", name := "slotOf", desc := "(I)LFibreLoops$State;" } : Jvm.MethodName)) ∈ Tg := tg (i := 696) (by decide +kernel) rfl
theorem tw_697 : (Jvm.Cond.code ({ cls := "FibreLoops", name := "slotOf", desc := "(I)LFibreLoops$State;" } : Jvm.MethodName) prog_1_method_31_code (2 : Nat) (Option.some (Jvm.ClassFile.FieldType.object "FibreLoops$State"))) ∈ Tg := tg (i := 697) (by decide +kernel) rfl
theorem tw_698 : (Jvm.Cond.methodLink "FibreLoopsLaw" (126 : Nat) ({ cls := "FibreLoops", name := "restore", desc := "(I)I" } : Jvm.MethodName)) ∈ Tg := tg (i := 698) (by decide +kernel) rfl
theorem tw_699 : (Jvm.Cond.instanceMethod ({ cls := "FibreLoops", name := "restore", desc := "(I)I" } : Jvm.MethodName)) ∈ Tg := tg (i := 699) (by decide +kernel) rfl
theorem tw_700 : (Jvm.Cond.selects "FibreLoops" ({ cls := "FibreLoops", name := "restore", desc := "(I)I" } : Jvm.MethodName) ({ cls := "FibreLoops", name := "restore", desc := "(I)I" } : Jvm.MethodName)) ∈ Tg := tg (i := 700) (by decide +kernel) rfl
theorem tw_701 : (Jvm.Cond.code ({ cls := "FibreLoops", name := "restore", desc := "(I)I" } : Jvm.MethodName) prog_1_method_30_code (3 : Nat) (Option.some Jvm.ClassFile.FieldType.int)) ∈ Tg := tg (i := 701) (by decide +kernel) rfl
theorem tw_702 : (Jvm.Cond.classLink "FibreLoopsLaw" (10 : Nat) "FibreLoopsModel") ∈ Tg := tg (i := 702) (by decide +kernel) rfl
theorem tw_703 : (Jvm.Cond.instantiable "FibreLoopsModel" (16 : Nat)) ∈ Tg := tg (i := 703) (by decide +kernel) rfl
theorem tw_704 : (Jvm.Cond.methodLink "FibreLoopsLaw" (12 : Nat) ({ cls := "FibreLoopsModel", name := "<init>", desc := "()V" } : Jvm.MethodName)) ∈ Tg := tg (i := 704) (by decide +kernel) rfl
theorem tw_705 : (Jvm.Cond.instanceMethod ({ cls := "FibreLoopsModel", name := "<init>", desc := "()V" } : Jvm.MethodName)) ∈ Tg := tg (i := 705) (by decide +kernel) rfl
theorem tw_706 : (Jvm.Cond.code ({ cls := "FibreLoopsModel", name := "<init>", desc := "()V" } : Jvm.MethodName) prog_10_method_1_code (2 : Nat) (Option.none : Option Jvm.ClassFile.FieldType)) ∈ Tg := tg (i := 706) (by decide +kernel) rfl
theorem tw_707 : (Jvm.Cond.methodLink "FibreLoopsModel" (1 : Nat) ({ cls := "java/lang/Object", name := "<init>", desc := "()V" } : Jvm.MethodName)) ∈ Tg := tg (i := 707) (by decide +kernel) rfl
theorem tw_708 : (Jvm.Cond.fieldLink "FibreLoopsModel" (7 : Nat) "FibreLoopsModel" "at" "[I") ∈ Tg := tg (i := 708) (by decide +kernel) rfl
theorem tw_709 : (Jvm.Cond.fieldLink "FibreLoopsModel" (13 : Nat) "FibreLoopsModel" "past" "[I") ∈ Tg := tg (i := 709) (by decide +kernel) rfl
theorem tw_710 : (Jvm.Cond.fieldLink "FibreLoopsModel" (54 : Nat) "FibreLoopsModel" "pastFirst" "I") ∈ Tg := tg (i := 710) (by decide +kernel) rfl
theorem tw_711 : (Jvm.Cond.fieldLink "FibreLoopsModel" (50 : Nat) "FibreLoopsModel" "pastMany" "I") ∈ Tg := tg (i := 711) (by decide +kernel) rfl
theorem tw_712 : (Jvm.Cond.fieldLink "FibreLoopsModel" (16 : Nat) "FibreLoopsModel" "slots" "[I") ∈ Tg := tg (i := 712) (by decide +kernel) rfl
theorem tw_713 : (Jvm.Cond.fieldLink "FibreLoopsModel" (19 : Nat) "FibreLoopsModel" "isSaved" "[Z") ∈ Tg := tg (i := 713) (by decide +kernel) rfl
theorem tw_714 : (Jvm.Cond.fieldLink "FibreLoopsModel" (23 : Nat) "FibreLoopsModel" "aside" "[I") ∈ Tg := tg (i := 714) (by decide +kernel) rfl
theorem tw_715 : (Jvm.Cond.fieldLink "FibreLoopsModel" (26 : Nat) "FibreLoopsModel" "pad" "[I") ∈ Tg := tg (i := 715) (by decide +kernel) rfl
theorem tw_716 : (Jvm.Cond.fieldLink "FibreLoopsModel" (178 : Nat) "FibreLoopsModel" "padMany" "I") ∈ Tg := tg (i := 716) (by decide +kernel) rfl
theorem tw_717 : (Jvm.Cond.fieldLink "FibreLoopsModel" (192 : Nat) "FibreLoopsModel" "spot" "I") ∈ Tg := tg (i := 717) (by decide +kernel) rfl
theorem tw_718 : (Jvm.Cond.fieldLink "FibreLoopsModel" (195 : Nat) "FibreLoopsModel" "isWrong" "Z") ∈ Tg := tg (i := 718) (by decide +kernel) rfl
theorem tw_719 : (Jvm.Cond.fieldLink "FibreLoopsModel" (206 : Nat) "FibreLoopsModel" "orders" "I") ∈ Tg := tg (i := 719) (by decide +kernel) rfl
theorem tw_720 : (Jvm.Cond.fieldLink "FibreLoopsModel" (203 : Nat) "FibreLoopsModel" "read" "I") ∈ Tg := tg (i := 720) (by decide +kernel) rfl
theorem tw_721 : (Jvm.Cond.fieldLink "FibreLoopsModel" (29 : Nat) "FibreLoopsModel" "sort" "[I") ∈ Tg := tg (i := 721) (by decide +kernel) rfl
theorem tw_722 : (Jvm.Cond.fieldLink "FibreLoopsModel" (32 : Nat) "FibreLoopsModel" "begins" "[I") ∈ Tg := tg (i := 722) (by decide +kernel) rfl
theorem tw_723 : (Jvm.Cond.fieldLink "FibreLoopsModel" (35 : Nat) "FibreLoopsModel" "numbers" "[I") ∈ Tg := tg (i := 723) (by decide +kernel) rfl
theorem tw_724 : (Jvm.Cond.laysFinal "FibreLoopsModel" "FibreLoopsModel" "at" "[I") ∈ Tg := tg (i := 724) (by decide +kernel) rfl
theorem tw_726 : (Jvm.Cond.laysFinal "FibreLoopsModel" "FibreLoopsModel" "past" "[I") ∈ Tg := tg (i := 726) (by decide +kernel) rfl
theorem tw_728 : (Jvm.Cond.lays "FibreLoopsModel" "FibreLoopsModel" "pastFirst" "I") ∈ Tg := tg (i := 728) (by decide +kernel) rfl
theorem tw_730 : (Jvm.Cond.lays "FibreLoopsModel" "FibreLoopsModel" "pastMany" "I") ∈ Tg := tg (i := 730) (by decide +kernel) rfl
theorem tw_732 : (Jvm.Cond.laysFinal "FibreLoopsModel" "FibreLoopsModel" "slots" "[I") ∈ Tg := tg (i := 732) (by decide +kernel) rfl
theorem tw_734 : (Jvm.Cond.laysFinal "FibreLoopsModel" "FibreLoopsModel" "isSaved" "[Z") ∈ Tg := tg (i := 734) (by decide +kernel) rfl
theorem tw_736 : (Jvm.Cond.laysFinal "FibreLoopsModel" "FibreLoopsModel" "aside" "[I") ∈ Tg := tg (i := 736) (by decide +kernel) rfl
theorem tw_738 : (Jvm.Cond.laysFinal "FibreLoopsModel" "FibreLoopsModel" "pad" "[I") ∈ Tg := tg (i := 738) (by decide +kernel) rfl
theorem tw_740 : (Jvm.Cond.lays "FibreLoopsModel" "FibreLoopsModel" "padMany" "I") ∈ Tg := tg (i := 740) (by decide +kernel) rfl
theorem tw_742 : (Jvm.Cond.lays "FibreLoopsModel" "FibreLoopsModel" "spot" "I") ∈ Tg := tg (i := 742) (by decide +kernel) rfl
theorem tw_744 : (Jvm.Cond.lays "FibreLoopsModel" "FibreLoopsModel" "isWrong" "Z") ∈ Tg := tg (i := 744) (by decide +kernel) rfl
theorem tw_746 : (Jvm.Cond.lays "FibreLoopsModel" "FibreLoopsModel" "orders" "I") ∈ Tg := tg (i := 746) (by decide +kernel) rfl
theorem tw_748 : (Jvm.Cond.lays "FibreLoopsModel" "FibreLoopsModel" "read" "I") ∈ Tg := tg (i := 748) (by decide +kernel) rfl
theorem tw_750 : (Jvm.Cond.laysFinal "FibreLoopsModel" "FibreLoopsModel" "sort" "[I") ∈ Tg := tg (i := 750) (by decide +kernel) rfl
theorem tw_752 : (Jvm.Cond.laysFinal "FibreLoopsModel" "FibreLoopsModel" "begins" "[I") ∈ Tg := tg (i := 752) (by decide +kernel) rfl
theorem tw_754 : (Jvm.Cond.laysFinal "FibreLoopsModel" "FibreLoopsModel" "numbers" "[I") ∈ Tg := tg (i := 754) (by decide +kernel) rfl
theorem tw_757 : (Jvm.Cond.methodLink "FibreLoopsLaw" (17 : Nat) ({ cls := "FibreLoopsModel", name := "set", desc := "(II)I" } : Jvm.MethodName)) ∈ Tg := tg (i := 757) (by decide +kernel) rfl
theorem tw_758 : (Jvm.Cond.instanceMethod ({ cls := "FibreLoopsModel", name := "set", desc := "(II)I" } : Jvm.MethodName)) ∈ Tg := tg (i := 758) (by decide +kernel) rfl
theorem tw_759 : (Jvm.Cond.selects "FibreLoopsModel" ({ cls := "FibreLoopsModel", name := "set", desc := "(II)I" } : Jvm.MethodName) ({ cls := "FibreLoopsModel", name := "set", desc := "(II)I" } : Jvm.MethodName)) ∈ Tg := tg (i := 759) (by decide +kernel) rfl
theorem tw_760 : (Jvm.Cond.code ({ cls := "FibreLoopsModel", name := "set", desc := "(II)I" } : Jvm.MethodName) prog_10_method_35_code (4 : Nat) (Option.some Jvm.ClassFile.FieldType.int)) ∈ Tg := tg (i := 760) (by decide +kernel) rfl
theorem tw_761 : (Jvm.Cond.methodLink "FibreLoopsModel" (38 : Nat) ({ cls := "FibreLoopsModel", name := "in", desc := "(III)Z" } : Jvm.MethodName)) ∈ Tg := tg (i := 761) (by decide +kernel) rfl
theorem tw_762 : (Jvm.Cond.static ({ cls := "FibreLoopsModel", name := "in", desc := "(III)Z" } : Jvm.MethodName)) ∈ Tg := tg (i := 762) (by decide +kernel) rfl
theorem tw_763 : (Jvm.Cond.code ({ cls := "FibreLoopsModel", name := "in", desc := "(III)Z" } : Jvm.MethodName) prog_10_method_3_code (3 : Nat) (Option.some Jvm.ClassFile.FieldType.boolean)) ∈ Tg := tg (i := 763) (by decide +kernel) rfl
theorem tw_764 : (Jvm.Cond.methodLink "FibreLoopsModel" (123 : Nat) ({ cls := "FibreLoopsModel", name := "highest", desc := "(I)I" } : Jvm.MethodName)) ∈ Tg := tg (i := 764) (by decide +kernel) rfl
theorem tw_765 : (Jvm.Cond.static ({ cls := "FibreLoopsModel", name := "highest", desc := "(I)I" } : Jvm.MethodName)) ∈ Tg := tg (i := 765) (by decide +kernel) rfl
theorem tw_766 : (Jvm.Cond.code ({ cls := "FibreLoopsModel", name := "highest", desc := "(I)I" } : Jvm.MethodName) prog_10_method_34_code (1 : Nat) (Option.some Jvm.ClassFile.FieldType.int)) ∈ Tg := tg (i := 766) (by decide +kernel) rfl
theorem tw_767 : (Jvm.Cond.methodLink "FibreLoopsModel" (57 : Nat) ({ cls := "FibreLoopsModel", name := "keep", desc := "()V" } : Jvm.MethodName)) ∈ Tg := tg (i := 767) (by decide +kernel) rfl
theorem tw_769 : (Jvm.Cond.instanceMethod ({ cls := "FibreLoopsModel", name := "keep", desc := "()V" } : Jvm.MethodName)) ∈ Tg := tg (i := 769) (by decide +kernel) rfl
theorem tw_770 : (Jvm.Cond.code ({ cls := "FibreLoopsModel", name := "keep", desc := "()V" } : Jvm.MethodName) prog_10_method_14_code (3 : Nat) (Option.none : Option Jvm.ClassFile.FieldType)) ∈ Tg := tg (i := 770) (by decide +kernel) rfl
theorem tw_771 : (Jvm.Cond.methodLink "FibreLoopsLaw" (22 : Nat) ({ cls := "FibreLoopsModel", name := "loop", desc := "(I)I" } : Jvm.MethodName)) ∈ Tg := tg (i := 771) (by decide +kernel) rfl
theorem tw_772 : (Jvm.Cond.instanceMethod ({ cls := "FibreLoopsModel", name := "loop", desc := "(I)I" } : Jvm.MethodName)) ∈ Tg := tg (i := 772) (by decide +kernel) rfl
theorem tw_773 : (Jvm.Cond.selects "FibreLoopsModel" ({ cls := "FibreLoopsModel", name := "loop", desc := "(I)I" } : Jvm.MethodName) ({ cls := "FibreLoopsModel", name := "loop", desc := "(I)I" } : Jvm.MethodName)) ∈ Tg := tg (i := 773) (by decide +kernel) rfl
theorem tw_774 : (Jvm.Cond.code ({ cls := "FibreLoopsModel", name := "loop", desc := "(I)I" } : Jvm.MethodName) prog_10_method_36_code (2 : Nat) (Option.some Jvm.ClassFile.FieldType.int)) ∈ Tg := tg (i := 774) (by decide +kernel) rfl
theorem tw_775 : (Jvm.Cond.methodLink "FibreLoopsLaw" (27 : Nat) ({ cls := "FibreLoopsModel", name := "device", desc := "(IIIII)I" } : Jvm.MethodName)) ∈ Tg := tg (i := 775) (by decide +kernel) rfl
theorem tw_776 : (Jvm.Cond.instanceMethod ({ cls := "FibreLoopsModel", name := "device", desc := "(IIIII)I" } : Jvm.MethodName)) ∈ Tg := tg (i := 776) (by decide +kernel) rfl
theorem tw_777 : (Jvm.Cond.selects "FibreLoopsModel" ({ cls := "FibreLoopsModel", name := "device", desc := "(IIIII)I" } : Jvm.MethodName) ({ cls := "FibreLoopsModel", name := "device", desc := "(IIIII)I" } : Jvm.MethodName)) ∈ Tg := tg (i := 777) (by decide +kernel) rfl
theorem tw_778 : (Jvm.Cond.code ({ cls := "FibreLoopsModel", name := "device", desc := "(IIIII)I" } : Jvm.MethodName) prog_10_method_39_code (6 : Nat) (Option.some Jvm.ClassFile.FieldType.int)) ∈ Tg := tg (i := 778) (by decide +kernel) rfl
theorem tw_779 : (Jvm.Cond.methodLink "FibreLoopsModel" (130 : Nat) ({ cls := "FibreLoopsModel", name := "isPlace", desc := "(II)Z" } : Jvm.MethodName)) ∈ Tg := tg (i := 779) (by decide +kernel) rfl
theorem tw_781 : (Jvm.Cond.instanceMethod ({ cls := "FibreLoopsModel", name := "isPlace", desc := "(II)Z" } : Jvm.MethodName)) ∈ Tg := tg (i := 781) (by decide +kernel) rfl
theorem tw_782 : (Jvm.Cond.code ({ cls := "FibreLoopsModel", name := "isPlace", desc := "(II)Z" } : Jvm.MethodName) prog_10_method_11_code (3 : Nat) (Option.some Jvm.ClassFile.FieldType.boolean)) ∈ Tg := tg (i := 782) (by decide +kernel) rfl
theorem tw_783 : (Jvm.Cond.methodLink "FibreLoopsModel" (42 : Nat) ({ cls := "FibreLoopsModel", name := "isLoop", desc := "(I)Z" } : Jvm.MethodName)) ∈ Tg := tg (i := 783) (by decide +kernel) rfl
theorem tw_785 : (Jvm.Cond.instanceMethod ({ cls := "FibreLoopsModel", name := "isLoop", desc := "(I)Z" } : Jvm.MethodName)) ∈ Tg := tg (i := 785) (by decide +kernel) rfl
theorem tw_786 : (Jvm.Cond.code ({ cls := "FibreLoopsModel", name := "isLoop", desc := "(I)Z" } : Jvm.MethodName) prog_10_method_10_code (2 : Nat) (Option.some Jvm.ClassFile.FieldType.boolean)) ∈ Tg := tg (i := 786) (by decide +kernel) rfl
theorem tw_787 : (Jvm.Cond.methodLink "FibreLoopsModel" (46 : Nat) ({ cls := "FibreLoopsModel", name := "ofL", desc := "(II)I" } : Jvm.MethodName)) ∈ Tg := tg (i := 787) (by decide +kernel) rfl
theorem tw_789 : (Jvm.Cond.instanceMethod ({ cls := "FibreLoopsModel", name := "ofL", desc := "(II)I" } : Jvm.MethodName)) ∈ Tg := tg (i := 789) (by decide +kernel) rfl
theorem tw_790 : (Jvm.Cond.code ({ cls := "FibreLoopsModel", name := "ofL", desc := "(II)I" } : Jvm.MethodName) prog_10_method_4_code (3 : Nat) (Option.some Jvm.ClassFile.FieldType.int)) ∈ Tg := tg (i := 790) (by decide +kernel) rfl
theorem tw_791 : (Jvm.Cond.methodLink "FibreLoopsModel" (134 : Nat) ({ cls := "FibreLoopsModel", name := "areNumbers", desc := "(III)Z" } : Jvm.MethodName)) ∈ Tg := tg (i := 791) (by decide +kernel) rfl
theorem tw_792 : (Jvm.Cond.static ({ cls := "FibreLoopsModel", name := "areNumbers", desc := "(III)Z" } : Jvm.MethodName)) ∈ Tg := tg (i := 792) (by decide +kernel) rfl
theorem tw_793 : (Jvm.Cond.code ({ cls := "FibreLoopsModel", name := "areNumbers", desc := "(III)Z" } : Jvm.MethodName) prog_10_method_37_code (3 : Nat) (Option.some Jvm.ClassFile.FieldType.boolean)) ∈ Tg := tg (i := 793) (by decide +kernel) rfl
theorem tw_794 : (Jvm.Cond.methodLink "FibreLoopsModel" (127 : Nat) ({ cls := "FibreLoopsModel", name := "isValue", desc := "(I)Z" } : Jvm.MethodName)) ∈ Tg := tg (i := 794) (by decide +kernel) rfl
theorem tw_795 : (Jvm.Cond.static ({ cls := "FibreLoopsModel", name := "isValue", desc := "(I)Z" } : Jvm.MethodName)) ∈ Tg := tg (i := 795) (by decide +kernel) rfl
theorem tw_796 : (Jvm.Cond.code ({ cls := "FibreLoopsModel", name := "isValue", desc := "(I)Z" } : Jvm.MethodName) prog_10_method_13_code (1 : Nat) (Option.some Jvm.ClassFile.FieldType.boolean)) ∈ Tg := tg (i := 796) (by decide +kernel) rfl
theorem tw_797 : (Jvm.Cond.methodLink "FibreLoopsModel" (137 : Nat) ({ cls := "FibreLoopsModel", name := "make", desc := "(IIIII)V" } : Jvm.MethodName)) ∈ Tg := tg (i := 797) (by decide +kernel) rfl
theorem tw_799 : (Jvm.Cond.instanceMethod ({ cls := "FibreLoopsModel", name := "make", desc := "(IIIII)V" } : Jvm.MethodName)) ∈ Tg := tg (i := 799) (by decide +kernel) rfl
theorem tw_800 : (Jvm.Cond.code ({ cls := "FibreLoopsModel", name := "make", desc := "(IIIII)V" } : Jvm.MethodName) prog_10_method_38_code (7 : Nat) (Option.none : Option Jvm.ClassFile.FieldType)) ∈ Tg := tg (i := 800) (by decide +kernel) rfl
theorem tw_801 : (Jvm.Cond.methodLink "FibreLoopsModel" (81 : Nat) ({ cls := "FibreLoopsModel", name := "layD", desc := "(III)V" } : Jvm.MethodName)) ∈ Tg := tg (i := 801) (by decide +kernel) rfl
theorem tw_803 : (Jvm.Cond.instanceMethod ({ cls := "FibreLoopsModel", name := "layD", desc := "(III)V" } : Jvm.MethodName)) ∈ Tg := tg (i := 803) (by decide +kernel) rfl
theorem tw_804 : (Jvm.Cond.code ({ cls := "FibreLoopsModel", name := "layD", desc := "(III)V" } : Jvm.MethodName) prog_10_method_7_code (4 : Nat) (Option.none : Option Jvm.ClassFile.FieldType)) ∈ Tg := tg (i := 804) (by decide +kernel) rfl
theorem tw_805 : (Jvm.Cond.methodLink "FibreLoopsLaw" (32 : Nat) ({ cls := "FibreLoopsModel", name := "join", desc := "(IIII)I" } : Jvm.MethodName)) ∈ Tg := tg (i := 805) (by decide +kernel) rfl
theorem tw_806 : (Jvm.Cond.instanceMethod ({ cls := "FibreLoopsModel", name := "join", desc := "(IIII)I" } : Jvm.MethodName)) ∈ Tg := tg (i := 806) (by decide +kernel) rfl
theorem tw_807 : (Jvm.Cond.selects "FibreLoopsModel" ({ cls := "FibreLoopsModel", name := "join", desc := "(IIII)I" } : Jvm.MethodName) ({ cls := "FibreLoopsModel", name := "join", desc := "(IIII)I" } : Jvm.MethodName)) ∈ Tg := tg (i := 807) (by decide +kernel) rfl
theorem tw_808 : (Jvm.Cond.code ({ cls := "FibreLoopsModel", name := "join", desc := "(IIII)I" } : Jvm.MethodName) prog_10_method_40_code (6 : Nat) (Option.some Jvm.ClassFile.FieldType.int)) ∈ Tg := tg (i := 808) (by decide +kernel) rfl
theorem tw_809 : (Jvm.Cond.methodLink "FibreLoopsLaw" (36 : Nat) ({ cls := "FibreLoopsModel", name := "turn", desc := "(II)I" } : Jvm.MethodName)) ∈ Tg := tg (i := 809) (by decide +kernel) rfl
theorem tw_810 : (Jvm.Cond.instanceMethod ({ cls := "FibreLoopsModel", name := "turn", desc := "(II)I" } : Jvm.MethodName)) ∈ Tg := tg (i := 810) (by decide +kernel) rfl
theorem tw_811 : (Jvm.Cond.selects "FibreLoopsModel" ({ cls := "FibreLoopsModel", name := "turn", desc := "(II)I" } : Jvm.MethodName) ({ cls := "FibreLoopsModel", name := "turn", desc := "(II)I" } : Jvm.MethodName)) ∈ Tg := tg (i := 811) (by decide +kernel) rfl
theorem tw_812 : (Jvm.Cond.code ({ cls := "FibreLoopsModel", name := "turn", desc := "(II)I" } : Jvm.MethodName) prog_10_method_42_code (3 : Nat) (Option.some Jvm.ClassFile.FieldType.int)) ∈ Tg := tg (i := 812) (by decide +kernel) rfl
theorem tw_813 : (Jvm.Cond.methodLink "FibreLoopsModel" (145 : Nat) ({ cls := "FibreLoopsModel", name := "tryTurn", desc := "(IIZ)I" } : Jvm.MethodName)) ∈ Tg := tg (i := 813) (by decide +kernel) rfl
theorem tw_815 : (Jvm.Cond.instanceMethod ({ cls := "FibreLoopsModel", name := "tryTurn", desc := "(IIZ)I" } : Jvm.MethodName)) ∈ Tg := tg (i := 815) (by decide +kernel) rfl
theorem tw_816 : (Jvm.Cond.code ({ cls := "FibreLoopsModel", name := "tryTurn", desc := "(IIZ)I" } : Jvm.MethodName) prog_10_method_41_code (5 : Nat) (Option.some Jvm.ClassFile.FieldType.int)) ∈ Tg := tg (i := 816) (by decide +kernel) rfl
theorem tw_817 : (Jvm.Cond.methodLink "FibreLoopsModel" (141 : Nat) ({ cls := "FibreLoopsModel", name := "keepIf", desc := "(Z)V" } : Jvm.MethodName)) ∈ Tg := tg (i := 817) (by decide +kernel) rfl
theorem tw_819 : (Jvm.Cond.instanceMethod ({ cls := "FibreLoopsModel", name := "keepIf", desc := "(Z)V" } : Jvm.MethodName)) ∈ Tg := tg (i := 819) (by decide +kernel) rfl
theorem tw_820 : (Jvm.Cond.code ({ cls := "FibreLoopsModel", name := "keepIf", desc := "(Z)V" } : Jvm.MethodName) prog_10_method_15_code (2 : Nat) (Option.none : Option Jvm.ClassFile.FieldType)) ∈ Tg := tg (i := 820) (by decide +kernel) rfl
theorem tw_821 : (Jvm.Cond.methodLink "FibreLoopsModel" (99 : Nat) ({ cls := "FibreLoopsModel", name := "ofJ", desc := "(II)I" } : Jvm.MethodName)) ∈ Tg := tg (i := 821) (by decide +kernel) rfl
theorem tw_823 : (Jvm.Cond.instanceMethod ({ cls := "FibreLoopsModel", name := "ofJ", desc := "(II)I" } : Jvm.MethodName)) ∈ Tg := tg (i := 823) (by decide +kernel) rfl
theorem tw_824 : (Jvm.Cond.code ({ cls := "FibreLoopsModel", name := "ofJ", desc := "(II)I" } : Jvm.MethodName) prog_10_method_8_code (3 : Nat) (Option.some Jvm.ClassFile.FieldType.int)) ∈ Tg := tg (i := 824) (by decide +kernel) rfl
theorem tw_825 : (Jvm.Cond.methodLink "FibreLoopsLaw" (40 : Nat) ({ cls := "FibreLoopsModel", name := "feed", desc := "(II)I" } : Jvm.MethodName)) ∈ Tg := tg (i := 825) (by decide +kernel) rfl
theorem tw_826 : (Jvm.Cond.instanceMethod ({ cls := "FibreLoopsModel", name := "feed", desc := "(II)I" } : Jvm.MethodName)) ∈ Tg := tg (i := 826) (by decide +kernel) rfl
theorem tw_827 : (Jvm.Cond.selects "FibreLoopsModel" ({ cls := "FibreLoopsModel", name := "feed", desc := "(II)I" } : Jvm.MethodName) ({ cls := "FibreLoopsModel", name := "feed", desc := "(II)I" } : Jvm.MethodName)) ∈ Tg := tg (i := 827) (by decide +kernel) rfl
theorem tw_828 : (Jvm.Cond.code ({ cls := "FibreLoopsModel", name := "feed", desc := "(II)I" } : Jvm.MethodName) prog_10_method_44_code (3 : Nat) (Option.some Jvm.ClassFile.FieldType.int)) ∈ Tg := tg (i := 828) (by decide +kernel) rfl
theorem tw_829 : (Jvm.Cond.methodLink "FibreLoopsModel" (152 : Nat) ({ cls := "FibreLoopsModel", name := "tryFeed", desc := "(IIZ)I" } : Jvm.MethodName)) ∈ Tg := tg (i := 829) (by decide +kernel) rfl
theorem tw_831 : (Jvm.Cond.instanceMethod ({ cls := "FibreLoopsModel", name := "tryFeed", desc := "(IIZ)I" } : Jvm.MethodName)) ∈ Tg := tg (i := 831) (by decide +kernel) rfl
theorem tw_832 : (Jvm.Cond.code ({ cls := "FibreLoopsModel", name := "tryFeed", desc := "(IIZ)I" } : Jvm.MethodName) prog_10_method_43_code (4 : Nat) (Option.some Jvm.ClassFile.FieldType.int)) ∈ Tg := tg (i := 832) (by decide +kernel) rfl
theorem tw_833 : (Jvm.Cond.methodLink "FibreLoopsModel" (149 : Nat) ({ cls := "FibreLoopsModel", name := "isDevice", desc := "(I)Z" } : Jvm.MethodName)) ∈ Tg := tg (i := 833) (by decide +kernel) rfl
theorem tw_835 : (Jvm.Cond.instanceMethod ({ cls := "FibreLoopsModel", name := "isDevice", desc := "(I)Z" } : Jvm.MethodName)) ∈ Tg := tg (i := 835) (by decide +kernel) rfl
theorem tw_836 : (Jvm.Cond.code ({ cls := "FibreLoopsModel", name := "isDevice", desc := "(I)Z" } : Jvm.MethodName) prog_10_method_12_code (2 : Nat) (Option.some Jvm.ClassFile.FieldType.boolean)) ∈ Tg := tg (i := 836) (by decide +kernel) rfl
theorem tw_837 : (Jvm.Cond.methodLink "FibreLoopsModel" (78 : Nat) ({ cls := "FibreLoopsModel", name := "ofD", desc := "(II)I" } : Jvm.MethodName)) ∈ Tg := tg (i := 837) (by decide +kernel) rfl
theorem tw_839 : (Jvm.Cond.instanceMethod ({ cls := "FibreLoopsModel", name := "ofD", desc := "(II)I" } : Jvm.MethodName)) ∈ Tg := tg (i := 839) (by decide +kernel) rfl
theorem tw_840 : (Jvm.Cond.code ({ cls := "FibreLoopsModel", name := "ofD", desc := "(II)I" } : Jvm.MethodName) prog_10_method_6_code (3 : Nat) (Option.some Jvm.ClassFile.FieldType.int)) ∈ Tg := tg (i := 840) (by decide +kernel) rfl
theorem tw_841 : (Jvm.Cond.methodLink "FibreLoopsLaw" (45 : Nat) ({ cls := "FibreLoopsModel", name := "light", desc := "(III)I" } : Jvm.MethodName)) ∈ Tg := tg (i := 841) (by decide +kernel) rfl
theorem tw_842 : (Jvm.Cond.instanceMethod ({ cls := "FibreLoopsModel", name := "light", desc := "(III)I" } : Jvm.MethodName)) ∈ Tg := tg (i := 842) (by decide +kernel) rfl
theorem tw_843 : (Jvm.Cond.selects "FibreLoopsModel" ({ cls := "FibreLoopsModel", name := "light", desc := "(III)I" } : Jvm.MethodName) ({ cls := "FibreLoopsModel", name := "light", desc := "(III)I" } : Jvm.MethodName)) ∈ Tg := tg (i := 843) (by decide +kernel) rfl
theorem tw_844 : (Jvm.Cond.code ({ cls := "FibreLoopsModel", name := "light", desc := "(III)I" } : Jvm.MethodName) prog_10_method_47_code (4 : Nat) (Option.some Jvm.ClassFile.FieldType.int)) ∈ Tg := tg (i := 844) (by decide +kernel) rfl
theorem tw_845 : (Jvm.Cond.methodLink "FibreLoopsModel" (158 : Nat) ({ cls := "FibreLoopsModel", name := "tryLight", desc := "(IIIZ)I" } : Jvm.MethodName)) ∈ Tg := tg (i := 845) (by decide +kernel) rfl
theorem tw_847 : (Jvm.Cond.instanceMethod ({ cls := "FibreLoopsModel", name := "tryLight", desc := "(IIIZ)I" } : Jvm.MethodName)) ∈ Tg := tg (i := 847) (by decide +kernel) rfl
theorem tw_848 : (Jvm.Cond.code ({ cls := "FibreLoopsModel", name := "tryLight", desc := "(IIIZ)I" } : Jvm.MethodName) prog_10_method_46_code (5 : Nat) (Option.some Jvm.ClassFile.FieldType.int)) ∈ Tg := tg (i := 848) (by decide +kernel) rfl
theorem tw_849 : (Jvm.Cond.methodLink "FibreLoopsModel" (68 : Nat) ({ cls := "FibreLoopsModel", name := "cell", desc := "(II)I" } : Jvm.MethodName)) ∈ Tg := tg (i := 849) (by decide +kernel) rfl
theorem tw_850 : (Jvm.Cond.static ({ cls := "FibreLoopsModel", name := "cell", desc := "(II)I" } : Jvm.MethodName)) ∈ Tg := tg (i := 850) (by decide +kernel) rfl
theorem tw_851 : (Jvm.Cond.code ({ cls := "FibreLoopsModel", name := "cell", desc := "(II)I" } : Jvm.MethodName) prog_10_method_9_code (2 : Nat) (Option.some Jvm.ClassFile.FieldType.int)) ∈ Tg := tg (i := 851) (by decide +kernel) rfl
theorem tw_852 : (Jvm.Cond.methodLink "FibreLoopsModel" (87 : Nat) ({ cls := "FibreLoopsModel", name := "shine", desc := "(III)V" } : Jvm.MethodName)) ∈ Tg := tg (i := 852) (by decide +kernel) rfl
theorem tw_854 : (Jvm.Cond.instanceMethod ({ cls := "FibreLoopsModel", name := "shine", desc := "(III)V" } : Jvm.MethodName)) ∈ Tg := tg (i := 854) (by decide +kernel) rfl
theorem tw_855 : (Jvm.Cond.code ({ cls := "FibreLoopsModel", name := "shine", desc := "(III)V" } : Jvm.MethodName) prog_10_method_19_code (4 : Nat) (Option.none : Option Jvm.ClassFile.FieldType)) ∈ Tg := tg (i := 855) (by decide +kernel) rfl
theorem tw_856 : (Jvm.Cond.methodLink "FibreLoopsModel" (60 : Nat) ({ cls := "FibreLoopsModel", name := "moreL", desc := "(II)V" } : Jvm.MethodName)) ∈ Tg := tg (i := 856) (by decide +kernel) rfl
theorem tw_858 : (Jvm.Cond.instanceMethod ({ cls := "FibreLoopsModel", name := "moreL", desc := "(II)V" } : Jvm.MethodName)) ∈ Tg := tg (i := 858) (by decide +kernel) rfl
theorem tw_859 : (Jvm.Cond.code ({ cls := "FibreLoopsModel", name := "moreL", desc := "(II)V" } : Jvm.MethodName) prog_10_method_5_code (3 : Nat) (Option.none : Option Jvm.ClassFile.FieldType)) ∈ Tg := tg (i := 859) (by decide +kernel) rfl
theorem tw_860 : (Jvm.Cond.methodLink "FibreLoopsModel" (155 : Nat) ({ cls := "FibreLoopsModel", name := "flashes", desc := "(I)I" } : Jvm.MethodName)) ∈ Tg := tg (i := 860) (by decide +kernel) rfl
theorem tw_862 : (Jvm.Cond.instanceMethod ({ cls := "FibreLoopsModel", name := "flashes", desc := "(I)I" } : Jvm.MethodName)) ∈ Tg := tg (i := 862) (by decide +kernel) rfl
theorem tw_863 : (Jvm.Cond.code ({ cls := "FibreLoopsModel", name := "flashes", desc := "(I)I" } : Jvm.MethodName) prog_10_method_45_code (4 : Nat) (Option.some Jvm.ClassFile.FieldType.int)) ∈ Tg := tg (i := 863) (by decide +kernel) rfl
theorem tw_864 : (Jvm.Cond.methodLink "FibreLoopsLaw" (49 : Nat) ({ cls := "FibreLoopsModel", name := "ticks", desc := "(I)I" } : Jvm.MethodName)) ∈ Tg := tg (i := 864) (by decide +kernel) rfl
theorem tw_865 : (Jvm.Cond.instanceMethod ({ cls := "FibreLoopsModel", name := "ticks", desc := "(I)I" } : Jvm.MethodName)) ∈ Tg := tg (i := 865) (by decide +kernel) rfl
theorem tw_866 : (Jvm.Cond.selects "FibreLoopsModel" ({ cls := "FibreLoopsModel", name := "ticks", desc := "(I)I" } : Jvm.MethodName) ({ cls := "FibreLoopsModel", name := "ticks", desc := "(I)I" } : Jvm.MethodName)) ∈ Tg := tg (i := 866) (by decide +kernel) rfl
theorem tw_867 : (Jvm.Cond.code ({ cls := "FibreLoopsModel", name := "ticks", desc := "(I)I" } : Jvm.MethodName) prog_10_method_49_code (2 : Nat) (Option.some Jvm.ClassFile.FieldType.int)) ∈ Tg := tg (i := 867) (by decide +kernel) rfl
theorem tw_868 : (Jvm.Cond.methodLink "FibreLoopsModel" (165 : Nat) ({ cls := "FibreLoopsModel", name := "tryTicks", desc := "(IZ)I" } : Jvm.MethodName)) ∈ Tg := tg (i := 868) (by decide +kernel) rfl
theorem tw_870 : (Jvm.Cond.instanceMethod ({ cls := "FibreLoopsModel", name := "tryTicks", desc := "(IZ)I" } : Jvm.MethodName)) ∈ Tg := tg (i := 870) (by decide +kernel) rfl
theorem tw_871 : (Jvm.Cond.code ({ cls := "FibreLoopsModel", name := "tryTicks", desc := "(IZ)I" } : Jvm.MethodName) prog_10_method_48_code (3 : Nat) (Option.some Jvm.ClassFile.FieldType.int)) ∈ Tg := tg (i := 871) (by decide +kernel) rfl
theorem tw_872 : (Jvm.Cond.methodLink "FibreLoopsModel" (162 : Nat) ({ cls := "FibreLoopsModel", name := "passAll", desc := "(I)V" } : Jvm.MethodName)) ∈ Tg := tg (i := 872) (by decide +kernel) rfl
theorem tw_874 : (Jvm.Cond.instanceMethod ({ cls := "FibreLoopsModel", name := "passAll", desc := "(I)V" } : Jvm.MethodName)) ∈ Tg := tg (i := 874) (by decide +kernel) rfl
theorem tw_875 : (Jvm.Cond.code ({ cls := "FibreLoopsModel", name := "passAll", desc := "(I)V" } : Jvm.MethodName) prog_10_method_33_code (3 : Nat) (Option.none : Option Jvm.ClassFile.FieldType)) ∈ Tg := tg (i := 875) (by decide +kernel) rfl
theorem tw_876 : (Jvm.Cond.methodLink "FibreLoopsModel" (120 : Nat) ({ cls := "FibreLoopsModel", name := "pass", desc := "()V" } : Jvm.MethodName)) ∈ Tg := tg (i := 876) (by decide +kernel) rfl
theorem tw_878 : (Jvm.Cond.instanceMethod ({ cls := "FibreLoopsModel", name := "pass", desc := "()V" } : Jvm.MethodName)) ∈ Tg := tg (i := 878) (by decide +kernel) rfl
theorem tw_879 : (Jvm.Cond.code ({ cls := "FibreLoopsModel", name := "pass", desc := "()V" } : Jvm.MethodName) prog_10_method_32_code (2 : Nat) (Option.none : Option Jvm.ClassFile.FieldType)) ∈ Tg := tg (i := 879) (by decide +kernel) rfl
theorem tw_880 : (Jvm.Cond.methodLink "FibreLoopsModel" (105 : Nat) ({ cls := "FibreLoopsModel", name := "turnOn", desc := "(I)V" } : Jvm.MethodName)) ∈ Tg := tg (i := 880) (by decide +kernel) rfl
theorem tw_882 : (Jvm.Cond.instanceMethod ({ cls := "FibreLoopsModel", name := "turnOn", desc := "(I)V" } : Jvm.MethodName)) ∈ Tg := tg (i := 882) (by decide +kernel) rfl
theorem tw_883 : (Jvm.Cond.code ({ cls := "FibreLoopsModel", name := "turnOn", desc := "(I)V" } : Jvm.MethodName) prog_10_method_21_code (7 : Nat) (Option.none : Option Jvm.ClassFile.FieldType)) ∈ Tg := tg (i := 883) (by decide +kernel) rfl
theorem tw_884 : (Jvm.Cond.methodLink "FibreLoopsModel" (71 : Nat) ({ cls := "FibreLoopsModel", name := "moveTo", desc := "(II)V" } : Jvm.MethodName)) ∈ Tg := tg (i := 884) (by decide +kernel) rfl
theorem tw_886 : (Jvm.Cond.instanceMethod ({ cls := "FibreLoopsModel", name := "moveTo", desc := "(II)V" } : Jvm.MethodName)) ∈ Tg := tg (i := 886) (by decide +kernel) rfl
theorem tw_887 : (Jvm.Cond.code ({ cls := "FibreLoopsModel", name := "moveTo", desc := "(II)V" } : Jvm.MethodName) prog_10_method_20_code (4 : Nat) (Option.none : Option Jvm.ClassFile.FieldType)) ∈ Tg := tg (i := 887) (by decide +kernel) rfl
theorem tw_888 : (Jvm.Cond.methodLink "FibreLoopsModel" (64 : Nat) ({ cls := "FibreLoopsModel", name := "clear", desc := "(I)V" } : Jvm.MethodName)) ∈ Tg := tg (i := 888) (by decide +kernel) rfl
theorem tw_890 : (Jvm.Cond.instanceMethod ({ cls := "FibreLoopsModel", name := "clear", desc := "(I)V" } : Jvm.MethodName)) ∈ Tg := tg (i := 890) (by decide +kernel) rfl
theorem tw_891 : (Jvm.Cond.code ({ cls := "FibreLoopsModel", name := "clear", desc := "(I)V" } : Jvm.MethodName) prog_10_method_18_code (2 : Nat) (Option.none : Option Jvm.ClassFile.FieldType)) ∈ Tg := tg (i := 891) (by decide +kernel) rfl
theorem tw_892 : (Jvm.Cond.methodLink "FibreLoopsModel" (108 : Nat) ({ cls := "FibreLoopsModel", name := "fadeAll", desc := "(I)V" } : Jvm.MethodName)) ∈ Tg := tg (i := 892) (by decide +kernel) rfl
theorem tw_894 : (Jvm.Cond.instanceMethod ({ cls := "FibreLoopsModel", name := "fadeAll", desc := "(I)V" } : Jvm.MethodName)) ∈ Tg := tg (i := 894) (by decide +kernel) rfl
theorem tw_895 : (Jvm.Cond.code ({ cls := "FibreLoopsModel", name := "fadeAll", desc := "(I)V" } : Jvm.MethodName) prog_10_method_23_code (4 : Nat) (Option.none : Option Jvm.ClassFile.FieldType)) ∈ Tg := tg (i := 895) (by decide +kernel) rfl
theorem tw_896 : (Jvm.Cond.methodLink "FibreLoopsModel" (74 : Nat) ({ cls := "FibreLoopsModel", name := "fade", desc := "(III)V" } : Jvm.MethodName)) ∈ Tg := tg (i := 896) (by decide +kernel) rfl
theorem tw_898 : (Jvm.Cond.instanceMethod ({ cls := "FibreLoopsModel", name := "fade", desc := "(III)V" } : Jvm.MethodName)) ∈ Tg := tg (i := 898) (by decide +kernel) rfl
theorem tw_899 : (Jvm.Cond.code ({ cls := "FibreLoopsModel", name := "fade", desc := "(III)V" } : Jvm.MethodName) prog_10_method_22_code (4 : Nat) (Option.none : Option Jvm.ClassFile.FieldType)) ∈ Tg := tg (i := 899) (by decide +kernel) rfl
theorem tw_900 : (Jvm.Cond.methodLink "FibreLoopsModel" (111 : Nat) ({ cls := "FibreLoopsModel", name := "act", desc := "(I)V" } : Jvm.MethodName)) ∈ Tg := tg (i := 900) (by decide +kernel) rfl
theorem tw_902 : (Jvm.Cond.instanceMethod ({ cls := "FibreLoopsModel", name := "act", desc := "(I)V" } : Jvm.MethodName)) ∈ Tg := tg (i := 902) (by decide +kernel) rfl
theorem tw_903 : (Jvm.Cond.code ({ cls := "FibreLoopsModel", name := "act", desc := "(I)V" } : Jvm.MethodName) prog_10_method_28_code (4 : Nat) (Option.none : Option Jvm.ClassFile.FieldType)) ∈ Tg := tg (i := 903) (by decide +kernel) rfl
theorem tw_904 : (Jvm.Cond.methodLink "FibreLoopsModel" (90 : Nat) ({ cls := "FibreLoopsModel", name := "amplify", desc := "(II)V" } : Jvm.MethodName)) ∈ Tg := tg (i := 904) (by decide +kernel) rfl
theorem tw_906 : (Jvm.Cond.instanceMethod ({ cls := "FibreLoopsModel", name := "amplify", desc := "(II)V" } : Jvm.MethodName)) ∈ Tg := tg (i := 906) (by decide +kernel) rfl
theorem tw_907 : (Jvm.Cond.code ({ cls := "FibreLoopsModel", name := "amplify", desc := "(II)V" } : Jvm.MethodName) prog_10_method_25_code (4 : Nat) (Option.none : Option Jvm.ClassFile.FieldType)) ∈ Tg := tg (i := 907) (by decide +kernel) rfl
theorem tw_908 : (Jvm.Cond.methodLink "FibreLoopsModel" (84 : Nat) ({ cls := "FibreLoopsModel", name := "did", desc := "(I)V" } : Jvm.MethodName)) ∈ Tg := tg (i := 908) (by decide +kernel) rfl
theorem tw_910 : (Jvm.Cond.instanceMethod ({ cls := "FibreLoopsModel", name := "did", desc := "(I)V" } : Jvm.MethodName)) ∈ Tg := tg (i := 910) (by decide +kernel) rfl
theorem tw_911 : (Jvm.Cond.code ({ cls := "FibreLoopsModel", name := "did", desc := "(I)V" } : Jvm.MethodName) prog_10_method_24_code (2 : Nat) (Option.none : Option Jvm.ClassFile.FieldType)) ∈ Tg := tg (i := 911) (by decide +kernel) rfl
theorem tw_912 : (Jvm.Cond.methodLink "FibreLoopsModel" (93 : Nat) ({ cls := "FibreLoopsModel", name := "note", desc := "(II)V" } : Jvm.MethodName)) ∈ Tg := tg (i := 912) (by decide +kernel) rfl
theorem tw_914 : (Jvm.Cond.instanceMethod ({ cls := "FibreLoopsModel", name := "note", desc := "(II)V" } : Jvm.MethodName)) ∈ Tg := tg (i := 914) (by decide +kernel) rfl
theorem tw_915 : (Jvm.Cond.code ({ cls := "FibreLoopsModel", name := "note", desc := "(II)V" } : Jvm.MethodName) prog_10_method_26_code (4 : Nat) (Option.none : Option Jvm.ClassFile.FieldType)) ∈ Tg := tg (i := 915) (by decide +kernel) rfl
theorem tw_916 : (Jvm.Cond.methodLink "FibreLoopsModel" (96 : Nat) ({ cls := "FibreLoopsModel", name := "putIn", desc := "(II)V" } : Jvm.MethodName)) ∈ Tg := tg (i := 916) (by decide +kernel) rfl
theorem tw_918 : (Jvm.Cond.instanceMethod ({ cls := "FibreLoopsModel", name := "putIn", desc := "(II)V" } : Jvm.MethodName)) ∈ Tg := tg (i := 918) (by decide +kernel) rfl
theorem tw_919 : (Jvm.Cond.code ({ cls := "FibreLoopsModel", name := "putIn", desc := "(II)V" } : Jvm.MethodName) prog_10_method_27_code (4 : Nat) (Option.none : Option Jvm.ClassFile.FieldType)) ∈ Tg := tg (i := 919) (by decide +kernel) rfl
theorem tw_920 : (Jvm.Cond.methodLink "FibreLoopsModel" (114 : Nat) ({ cls := "FibreLoopsModel", name := "cross", desc := "(I)V" } : Jvm.MethodName)) ∈ Tg := tg (i := 920) (by decide +kernel) rfl
theorem tw_922 : (Jvm.Cond.instanceMethod ({ cls := "FibreLoopsModel", name := "cross", desc := "(I)V" } : Jvm.MethodName)) ∈ Tg := tg (i := 922) (by decide +kernel) rfl
theorem tw_923 : (Jvm.Cond.code ({ cls := "FibreLoopsModel", name := "cross", desc := "(I)V" } : Jvm.MethodName) prog_10_method_30_code (9 : Nat) (Option.none : Option Jvm.ClassFile.FieldType)) ∈ Tg := tg (i := 923) (by decide +kernel) rfl
theorem tw_924 : (Jvm.Cond.methodLink "FibreLoopsModel" (102 : Nat) ({ cls := "FibreLoopsModel", name := "crossed", desc := "(III)V" } : Jvm.MethodName)) ∈ Tg := tg (i := 924) (by decide +kernel) rfl
theorem tw_926 : (Jvm.Cond.instanceMethod ({ cls := "FibreLoopsModel", name := "crossed", desc := "(III)V" } : Jvm.MethodName)) ∈ Tg := tg (i := 926) (by decide +kernel) rfl
theorem tw_927 : (Jvm.Cond.code ({ cls := "FibreLoopsModel", name := "crossed", desc := "(III)V" } : Jvm.MethodName) prog_10_method_29_code (4 : Nat) (Option.none : Option Jvm.ClassFile.FieldType)) ∈ Tg := tg (i := 927) (by decide +kernel) rfl
theorem tw_928 : (Jvm.Cond.methodLink "FibreLoopsModel" (117 : Nat) ({ cls := "FibreLoopsModel", name := "recover", desc := "(I)V" } : Jvm.MethodName)) ∈ Tg := tg (i := 928) (by decide +kernel) rfl
theorem tw_930 : (Jvm.Cond.instanceMethod ({ cls := "FibreLoopsModel", name := "recover", desc := "(I)V" } : Jvm.MethodName)) ∈ Tg := tg (i := 930) (by decide +kernel) rfl
theorem tw_931 : (Jvm.Cond.code ({ cls := "FibreLoopsModel", name := "recover", desc := "(I)V" } : Jvm.MethodName) prog_10_method_31_code (3 : Nat) (Option.none : Option Jvm.ClassFile.FieldType)) ∈ Tg := tg (i := 931) (by decide +kernel) rfl
theorem tw_932 : (Jvm.Cond.methodLink "FibreLoopsLaw" (53 : Nat) ({ cls := "FibreLoopsModel", name := "at", desc := "(III)I" } : Jvm.MethodName)) ∈ Tg := tg (i := 932) (by decide +kernel) rfl
theorem tw_933 : (Jvm.Cond.instanceMethod ({ cls := "FibreLoopsModel", name := "at", desc := "(III)I" } : Jvm.MethodName)) ∈ Tg := tg (i := 933) (by decide +kernel) rfl
theorem tw_934 : (Jvm.Cond.selects "FibreLoopsModel" ({ cls := "FibreLoopsModel", name := "at", desc := "(III)I" } : Jvm.MethodName) ({ cls := "FibreLoopsModel", name := "at", desc := "(III)I" } : Jvm.MethodName)) ∈ Tg := tg (i := 934) (by decide +kernel) rfl
theorem tw_935 : (Jvm.Cond.code ({ cls := "FibreLoopsModel", name := "at", desc := "(III)I" } : Jvm.MethodName) prog_10_method_50_code (5 : Nat) (Option.some Jvm.ClassFile.FieldType.int)) ∈ Tg := tg (i := 935) (by decide +kernel) rfl
theorem tw_936 : (Jvm.Cond.methodLink "FibreLoopsLaw" (57 : Nat) ({ cls := "FibreLoopsModel", name := "ofLoop", desc := "(II)I" } : Jvm.MethodName)) ∈ Tg := tg (i := 936) (by decide +kernel) rfl
theorem tw_937 : (Jvm.Cond.instanceMethod ({ cls := "FibreLoopsModel", name := "ofLoop", desc := "(II)I" } : Jvm.MethodName)) ∈ Tg := tg (i := 937) (by decide +kernel) rfl
theorem tw_938 : (Jvm.Cond.selects "FibreLoopsModel" ({ cls := "FibreLoopsModel", name := "ofLoop", desc := "(II)I" } : Jvm.MethodName) ({ cls := "FibreLoopsModel", name := "ofLoop", desc := "(II)I" } : Jvm.MethodName)) ∈ Tg := tg (i := 938) (by decide +kernel) rfl
theorem tw_939 : (Jvm.Cond.code ({ cls := "FibreLoopsModel", name := "ofLoop", desc := "(II)I" } : Jvm.MethodName) prog_10_method_53_code (3 : Nat) (Option.some Jvm.ClassFile.FieldType.int)) ∈ Tg := tg (i := 939) (by decide +kernel) rfl
theorem tw_940 : (Jvm.Cond.methodLink "FibreLoopsModel" (169 : Nat) ({ cls := "FibreLoopsModel", name := "strengths", desc := "(I)I" } : Jvm.MethodName)) ∈ Tg := tg (i := 940) (by decide +kernel) rfl
theorem tw_942 : (Jvm.Cond.instanceMethod ({ cls := "FibreLoopsModel", name := "strengths", desc := "(I)I" } : Jvm.MethodName)) ∈ Tg := tg (i := 942) (by decide +kernel) rfl
theorem tw_943 : (Jvm.Cond.code ({ cls := "FibreLoopsModel", name := "strengths", desc := "(I)I" } : Jvm.MethodName) prog_10_method_51_code (4 : Nat) (Option.some Jvm.ClassFile.FieldType.int)) ∈ Tg := tg (i := 943) (by decide +kernel) rfl
theorem tw_944 : (Jvm.Cond.methodLink "FibreLoopsModel" (172 : Nat) ({ cls := "FibreLoopsModel", name := "faintest", desc := "(I)I" } : Jvm.MethodName)) ∈ Tg := tg (i := 944) (by decide +kernel) rfl
theorem tw_946 : (Jvm.Cond.instanceMethod ({ cls := "FibreLoopsModel", name := "faintest", desc := "(I)I" } : Jvm.MethodName)) ∈ Tg := tg (i := 946) (by decide +kernel) rfl
theorem tw_947 : (Jvm.Cond.code ({ cls := "FibreLoopsModel", name := "faintest", desc := "(I)I" } : Jvm.MethodName) prog_10_method_52_code (5 : Nat) (Option.some Jvm.ClassFile.FieldType.int)) ∈ Tg := tg (i := 947) (by decide +kernel) rfl
theorem tw_948 : (Jvm.Cond.methodLink "FibreLoopsLaw" (61 : Nat) ({ cls := "FibreLoopsModel", name := "ofDevice", desc := "(II)I" } : Jvm.MethodName)) ∈ Tg := tg (i := 948) (by decide +kernel) rfl
theorem tw_949 : (Jvm.Cond.instanceMethod ({ cls := "FibreLoopsModel", name := "ofDevice", desc := "(II)I" } : Jvm.MethodName)) ∈ Tg := tg (i := 949) (by decide +kernel) rfl
theorem tw_950 : (Jvm.Cond.selects "FibreLoopsModel" ({ cls := "FibreLoopsModel", name := "ofDevice", desc := "(II)I" } : Jvm.MethodName) ({ cls := "FibreLoopsModel", name := "ofDevice", desc := "(II)I" } : Jvm.MethodName)) ∈ Tg := tg (i := 950) (by decide +kernel) rfl
theorem tw_951 : (Jvm.Cond.code ({ cls := "FibreLoopsModel", name := "ofDevice", desc := "(II)I" } : Jvm.MethodName) prog_10_method_54_code (3 : Nat) (Option.some Jvm.ClassFile.FieldType.int)) ∈ Tg := tg (i := 951) (by decide +kernel) rfl
theorem tw_952 : (Jvm.Cond.methodLink "FibreLoopsLaw" (65 : Nat) ({ cls := "FibreLoopsModel", name := "noted", desc := "(II)I" } : Jvm.MethodName)) ∈ Tg := tg (i := 952) (by decide +kernel) rfl
theorem tw_953 : (Jvm.Cond.instanceMethod ({ cls := "FibreLoopsModel", name := "noted", desc := "(II)I" } : Jvm.MethodName)) ∈ Tg := tg (i := 953) (by decide +kernel) rfl
theorem tw_954 : (Jvm.Cond.selects "FibreLoopsModel" ({ cls := "FibreLoopsModel", name := "noted", desc := "(II)I" } : Jvm.MethodName) ({ cls := "FibreLoopsModel", name := "noted", desc := "(II)I" } : Jvm.MethodName)) ∈ Tg := tg (i := 954) (by decide +kernel) rfl
theorem tw_955 : (Jvm.Cond.code ({ cls := "FibreLoopsModel", name := "noted", desc := "(II)I" } : Jvm.MethodName) prog_10_method_55_code (3 : Nat) (Option.some Jvm.ClassFile.FieldType.int)) ∈ Tg := tg (i := 955) (by decide +kernel) rfl
theorem tw_956 : (Jvm.Cond.methodLink "FibreLoopsLaw" (69 : Nat) ({ cls := "FibreLoopsModel", name := "ofJoin", desc := "(II)I" } : Jvm.MethodName)) ∈ Tg := tg (i := 956) (by decide +kernel) rfl
theorem tw_957 : (Jvm.Cond.instanceMethod ({ cls := "FibreLoopsModel", name := "ofJoin", desc := "(II)I" } : Jvm.MethodName)) ∈ Tg := tg (i := 957) (by decide +kernel) rfl
theorem tw_958 : (Jvm.Cond.selects "FibreLoopsModel" ({ cls := "FibreLoopsModel", name := "ofJoin", desc := "(II)I" } : Jvm.MethodName) ({ cls := "FibreLoopsModel", name := "ofJoin", desc := "(II)I" } : Jvm.MethodName)) ∈ Tg := tg (i := 958) (by decide +kernel) rfl
theorem tw_959 : (Jvm.Cond.code ({ cls := "FibreLoopsModel", name := "ofJoin", desc := "(II)I" } : Jvm.MethodName) prog_10_method_56_code (3 : Nat) (Option.some Jvm.ClassFile.FieldType.int)) ∈ Tg := tg (i := 959) (by decide +kernel) rfl
theorem tw_960 : (Jvm.Cond.methodLink "FibreLoopsLaw" (73 : Nat) ({ cls := "FibreLoopsModel", name := "find", desc := "(II)I" } : Jvm.MethodName)) ∈ Tg := tg (i := 960) (by decide +kernel) rfl
theorem tw_961 : (Jvm.Cond.instanceMethod ({ cls := "FibreLoopsModel", name := "find", desc := "(II)I" } : Jvm.MethodName)) ∈ Tg := tg (i := 961) (by decide +kernel) rfl
theorem tw_962 : (Jvm.Cond.selects "FibreLoopsModel" ({ cls := "FibreLoopsModel", name := "find", desc := "(II)I" } : Jvm.MethodName) ({ cls := "FibreLoopsModel", name := "find", desc := "(II)I" } : Jvm.MethodName)) ∈ Tg := tg (i := 962) (by decide +kernel) rfl
theorem tw_963 : (Jvm.Cond.code ({ cls := "FibreLoopsModel", name := "find", desc := "(II)I" } : Jvm.MethodName) prog_10_method_57_code (7 : Nat) (Option.some Jvm.ClassFile.FieldType.int)) ∈ Tg := tg (i := 963) (by decide +kernel) rfl
theorem tw_964 : (Jvm.Cond.methodLink "FibreLoopsLaw" (77 : Nat) ({ cls := "FibreLoopsModel", name := "count", desc := "(I)I" } : Jvm.MethodName)) ∈ Tg := tg (i := 964) (by decide +kernel) rfl
theorem tw_965 : (Jvm.Cond.instanceMethod ({ cls := "FibreLoopsModel", name := "count", desc := "(I)I" } : Jvm.MethodName)) ∈ Tg := tg (i := 965) (by decide +kernel) rfl
theorem tw_966 : (Jvm.Cond.selects "FibreLoopsModel" ({ cls := "FibreLoopsModel", name := "count", desc := "(I)I" } : Jvm.MethodName) ({ cls := "FibreLoopsModel", name := "count", desc := "(I)I" } : Jvm.MethodName)) ∈ Tg := tg (i := 966) (by decide +kernel) rfl
theorem tw_967 : (Jvm.Cond.code ({ cls := "FibreLoopsModel", name := "count", desc := "(I)I" } : Jvm.MethodName) prog_10_method_59_code (2 : Nat) (Option.some Jvm.ClassFile.FieldType.int)) ∈ Tg := tg (i := 967) (by decide +kernel) rfl
theorem tw_968 : (Jvm.Cond.methodLink "FibreLoopsModel" (175 : Nat) ({ cls := "FibreLoopsModel", name := "sum", desc := "(I)I" } : Jvm.MethodName)) ∈ Tg := tg (i := 968) (by decide +kernel) rfl
theorem tw_970 : (Jvm.Cond.instanceMethod ({ cls := "FibreLoopsModel", name := "sum", desc := "(I)I" } : Jvm.MethodName)) ∈ Tg := tg (i := 970) (by decide +kernel) rfl
theorem tw_971 : (Jvm.Cond.code ({ cls := "FibreLoopsModel", name := "sum", desc := "(I)I" } : Jvm.MethodName) prog_10_method_58_code (4 : Nat) (Option.some Jvm.ClassFile.FieldType.int)) ∈ Tg := tg (i := 971) (by decide +kernel) rfl
theorem tw_972 : (Jvm.Cond.methodLink "FibreLoopsLaw" (81 : Nat) ({ cls := "FibreLoopsModel", name := "valueIn", desc := "(III)I" } : Jvm.MethodName)) ∈ Tg := tg (i := 972) (by decide +kernel) rfl
theorem tw_973 : (Jvm.Cond.instanceMethod ({ cls := "FibreLoopsModel", name := "valueIn", desc := "(III)I" } : Jvm.MethodName)) ∈ Tg := tg (i := 973) (by decide +kernel) rfl
theorem tw_974 : (Jvm.Cond.selects "FibreLoopsModel" ({ cls := "FibreLoopsModel", name := "valueIn", desc := "(III)I" } : Jvm.MethodName) ({ cls := "FibreLoopsModel", name := "valueIn", desc := "(III)I" } : Jvm.MethodName)) ∈ Tg := tg (i := 974) (by decide +kernel) rfl
theorem tw_975 : (Jvm.Cond.code ({ cls := "FibreLoopsModel", name := "valueIn", desc := "(III)I" } : Jvm.MethodName) prog_10_method_60_code (5 : Nat) (Option.some Jvm.ClassFile.FieldType.int)) ∈ Tg := tg (i := 975) (by decide +kernel) rfl
theorem tw_976 : (Jvm.Cond.methodLink "FibreLoopsModel" (181 : Nat) ({ cls := "FibreLoopsModel", name := "layAside", desc := "()V" } : Jvm.MethodName)) ∈ Tg := tg (i := 976) (by decide +kernel) rfl
theorem tw_978 : (Jvm.Cond.instanceMethod ({ cls := "FibreLoopsModel", name := "layAside", desc := "()V" } : Jvm.MethodName)) ∈ Tg := tg (i := 978) (by decide +kernel) rfl
theorem tw_979 : (Jvm.Cond.code ({ cls := "FibreLoopsModel", name := "layAside", desc := "()V" } : Jvm.MethodName) prog_10_method_16_code (2 : Nat) (Option.none : Option Jvm.ClassFile.FieldType)) ∈ Tg := tg (i := 979) (by decide +kernel) rfl
theorem tw_980 : (Jvm.Cond.methodLink "FibreLoopsModel" (184 : Nat) ({ cls := "FibreLoopsModel", name := "layBack", desc := "()V" } : Jvm.MethodName)) ∈ Tg := tg (i := 980) (by decide +kernel) rfl
theorem tw_982 : (Jvm.Cond.instanceMethod ({ cls := "FibreLoopsModel", name := "layBack", desc := "()V" } : Jvm.MethodName)) ∈ Tg := tg (i := 982) (by decide +kernel) rfl
theorem tw_983 : (Jvm.Cond.code ({ cls := "FibreLoopsModel", name := "layBack", desc := "()V" } : Jvm.MethodName) prog_10_method_17_code (2 : Nat) (Option.none : Option Jvm.ClassFile.FieldType)) ∈ Tg := tg (i := 983) (by decide +kernel) rfl
theorem tw_984 : (Jvm.Cond.methodLink "FibreLoopsLaw" (85 : Nat) ({ cls := "FibreLoopsModel", name := "leftIn", desc := "(I)I" } : Jvm.MethodName)) ∈ Tg := tg (i := 984) (by decide +kernel) rfl
theorem tw_985 : (Jvm.Cond.instanceMethod ({ cls := "FibreLoopsModel", name := "leftIn", desc := "(I)I" } : Jvm.MethodName)) ∈ Tg := tg (i := 985) (by decide +kernel) rfl
theorem tw_986 : (Jvm.Cond.selects "FibreLoopsModel" ({ cls := "FibreLoopsModel", name := "leftIn", desc := "(I)I" } : Jvm.MethodName) ({ cls := "FibreLoopsModel", name := "leftIn", desc := "(I)I" } : Jvm.MethodName)) ∈ Tg := tg (i := 986) (by decide +kernel) rfl
theorem tw_987 : (Jvm.Cond.code ({ cls := "FibreLoopsModel", name := "leftIn", desc := "(I)I" } : Jvm.MethodName) prog_10_method_61_code (3 : Nat) (Option.some Jvm.ClassFile.FieldType.int)) ∈ Tg := tg (i := 987) (by decide +kernel) rfl
theorem tw_988 : (Jvm.Cond.methodLink "FibreLoopsLaw" (90 : Nat) ({ cls := "FibreLoopsModel", name := "firstLoss", desc := "()I" } : Jvm.MethodName)) ∈ Tg := tg (i := 988) (by decide +kernel) rfl
theorem tw_989 : (Jvm.Cond.instanceMethod ({ cls := "FibreLoopsModel", name := "firstLoss", desc := "()I" } : Jvm.MethodName)) ∈ Tg := tg (i := 989) (by decide +kernel) rfl
theorem tw_990 : (Jvm.Cond.selects "FibreLoopsModel" ({ cls := "FibreLoopsModel", name := "firstLoss", desc := "()I" } : Jvm.MethodName) ({ cls := "FibreLoopsModel", name := "firstLoss", desc := "()I" } : Jvm.MethodName)) ∈ Tg := tg (i := 990) (by decide +kernel) rfl
theorem tw_991 : (Jvm.Cond.code ({ cls := "FibreLoopsModel", name := "firstLoss", desc := "()I" } : Jvm.MethodName) prog_10_method_63_code (2 : Nat) (Option.some Jvm.ClassFile.FieldType.int)) ∈ Tg := tg (i := 991) (by decide +kernel) rfl
theorem tw_992 : (Jvm.Cond.methodLink "FibreLoopsModel" (187 : Nat) ({ cls := "FibreLoopsModel", name := "lossWithin", desc := "(I)I" } : Jvm.MethodName)) ∈ Tg := tg (i := 992) (by decide +kernel) rfl
theorem tw_994 : (Jvm.Cond.instanceMethod ({ cls := "FibreLoopsModel", name := "lossWithin", desc := "(I)I" } : Jvm.MethodName)) ∈ Tg := tg (i := 994) (by decide +kernel) rfl
theorem tw_995 : (Jvm.Cond.code ({ cls := "FibreLoopsModel", name := "lossWithin", desc := "(I)I" } : Jvm.MethodName) prog_10_method_62_code (4 : Nat) (Option.some Jvm.ClassFile.FieldType.int)) ∈ Tg := tg (i := 995) (by decide +kernel) rfl
theorem tw_996 : (Jvm.Cond.methodLink "FibreLoopsLaw" (94 : Nat) ({ cls := "FibreLoopsModel", name := "bestPlace", desc := "(IIII)I" } : Jvm.MethodName)) ∈ Tg := tg (i := 996) (by decide +kernel) rfl
theorem tw_997 : (Jvm.Cond.instanceMethod ({ cls := "FibreLoopsModel", name := "bestPlace", desc := "(IIII)I" } : Jvm.MethodName)) ∈ Tg := tg (i := 997) (by decide +kernel) rfl
theorem tw_998 : (Jvm.Cond.selects "FibreLoopsModel" ({ cls := "FibreLoopsModel", name := "bestPlace", desc := "(IIII)I" } : Jvm.MethodName) ({ cls := "FibreLoopsModel", name := "bestPlace", desc := "(IIII)I" } : Jvm.MethodName)) ∈ Tg := tg (i := 998) (by decide +kernel) rfl
theorem tw_999 : (Jvm.Cond.code ({ cls := "FibreLoopsModel", name := "bestPlace", desc := "(IIII)I" } : Jvm.MethodName) prog_10_method_64_code (9 : Nat) (Option.some Jvm.ClassFile.FieldType.int)) ∈ Tg := tg (i := 999) (by decide +kernel) rfl
theorem tw_1000 : (Jvm.Cond.methodLink "FibreLoopsLaw" (98 : Nat) ({ cls := "FibreLoopsModel", name := "bearable", desc := "()I" } : Jvm.MethodName)) ∈ Tg := tg (i := 1000) (by decide +kernel) rfl
theorem tw_1001 : (Jvm.Cond.instanceMethod ({ cls := "FibreLoopsModel", name := "bearable", desc := "()I" } : Jvm.MethodName)) ∈ Tg := tg (i := 1001) (by decide +kernel) rfl
theorem tw_1002 : (Jvm.Cond.selects "FibreLoopsModel" ({ cls := "FibreLoopsModel", name := "bearable", desc := "()I" } : Jvm.MethodName) ({ cls := "FibreLoopsModel", name := "bearable", desc := "()I" } : Jvm.MethodName)) ∈ Tg := tg (i := 1002) (by decide +kernel) rfl
theorem tw_1003 : (Jvm.Cond.code ({ cls := "FibreLoopsModel", name := "bearable", desc := "()I" } : Jvm.MethodName) prog_10_method_65_code (4 : Nat) (Option.some Jvm.ClassFile.FieldType.int)) ∈ Tg := tg (i := 1003) (by decide +kernel) rfl
theorem tw_1004 : (Jvm.Cond.methodLink "FibreLoopsLaw" (105 : Nat) ({ cls := "FibreLoopsModel", name := "put", desc := "(J)I" } : Jvm.MethodName)) ∈ Tg := tg (i := 1004) (by decide +kernel) rfl
theorem tw_1005 : (Jvm.Cond.instanceMethod ({ cls := "FibreLoopsModel", name := "put", desc := "(J)I" } : Jvm.MethodName)) ∈ Tg := tg (i := 1005) (by decide +kernel) rfl
theorem tw_1006 : (Jvm.Cond.selects "FibreLoopsModel" ({ cls := "FibreLoopsModel", name := "put", desc := "(J)I" } : Jvm.MethodName) ({ cls := "FibreLoopsModel", name := "put", desc := "(J)I" } : Jvm.MethodName)) ∈ Tg := tg (i := 1006) (by decide +kernel) rfl
theorem tw_1007 : (Jvm.Cond.code ({ cls := "FibreLoopsModel", name := "put", desc := "(J)I" } : Jvm.MethodName) prog_10_method_66_code (7 : Nat) (Option.some Jvm.ClassFile.FieldType.int)) ∈ Tg := tg (i := 1007) (by decide +kernel) rfl
theorem tw_1008 : (Jvm.Cond.constantLong "FibreLoopsModel" (190 : Nat) (255 : Int64)) ∈ Tg := tg (i := 1008) (by decide +kernel) rfl
theorem tw_1009 : (Jvm.Cond.methodLink "FibreLoopsLaw" (109 : Nat) ({ cls := "FibreLoopsModel", name := "wipe", desc := "()I" } : Jvm.MethodName)) ∈ Tg := tg (i := 1009) (by decide +kernel) rfl
theorem tw_1010 : (Jvm.Cond.instanceMethod ({ cls := "FibreLoopsModel", name := "wipe", desc := "()I" } : Jvm.MethodName)) ∈ Tg := tg (i := 1010) (by decide +kernel) rfl
theorem tw_1011 : (Jvm.Cond.selects "FibreLoopsModel" ({ cls := "FibreLoopsModel", name := "wipe", desc := "()I" } : Jvm.MethodName) ({ cls := "FibreLoopsModel", name := "wipe", desc := "()I" } : Jvm.MethodName)) ∈ Tg := tg (i := 1011) (by decide +kernel) rfl
theorem tw_1012 : (Jvm.Cond.code ({ cls := "FibreLoopsModel", name := "wipe", desc := "()I" } : Jvm.MethodName) prog_10_method_67_code (2 : Nat) (Option.some Jvm.ClassFile.FieldType.int)) ∈ Tg := tg (i := 1012) (by decide +kernel) rfl
theorem tw_1013 : (Jvm.Cond.methodLink "FibreLoopsLaw" (113 : Nat) ({ cls := "FibreLoopsModel", name := "fault", desc := "()I" } : Jvm.MethodName)) ∈ Tg := tg (i := 1013) (by decide +kernel) rfl
theorem tw_1014 : (Jvm.Cond.instanceMethod ({ cls := "FibreLoopsModel", name := "fault", desc := "()I" } : Jvm.MethodName)) ∈ Tg := tg (i := 1014) (by decide +kernel) rfl
theorem tw_1015 : (Jvm.Cond.selects "FibreLoopsModel" ({ cls := "FibreLoopsModel", name := "fault", desc := "()I" } : Jvm.MethodName) ({ cls := "FibreLoopsModel", name := "fault", desc := "()I" } : Jvm.MethodName)) ∈ Tg := tg (i := 1015) (by decide +kernel) rfl
theorem tw_1016 : (Jvm.Cond.code ({ cls := "FibreLoopsModel", name := "fault", desc := "()I" } : Jvm.MethodName) prog_10_method_73_code (1 : Nat) (Option.some Jvm.ClassFile.FieldType.int)) ∈ Tg := tg (i := 1016) (by decide +kernel) rfl
theorem tw_1017 : (Jvm.Cond.methodLink "FibreLoopsModel" (218 : Nat) ({ cls := "FibreLoopsModel", name := "takeOrder", desc := "()V" } : Jvm.MethodName)) ∈ Tg := tg (i := 1017) (by decide +kernel) rfl
theorem tw_1019 : (Jvm.Cond.instanceMethod ({ cls := "FibreLoopsModel", name := "takeOrder", desc := "()V" } : Jvm.MethodName)) ∈ Tg := tg (i := 1019) (by decide +kernel) rfl
theorem tw_1020 : (Jvm.Cond.code ({ cls := "FibreLoopsModel", name := "takeOrder", desc := "()V" } : Jvm.MethodName) prog_10_method_72_code (2 : Nat) (Option.none : Option Jvm.ClassFile.FieldType)) ∈ Tg := tg (i := 1020) (by decide +kernel) rfl
theorem tw_1021 : (Jvm.Cond.methodLink "FibreLoopsModel" (199 : Nat) ({ cls := "FibreLoopsModel", name := "next", desc := "()I" } : Jvm.MethodName)) ∈ Tg := tg (i := 1021) (by decide +kernel) rfl
theorem tw_1023 : (Jvm.Cond.instanceMethod ({ cls := "FibreLoopsModel", name := "next", desc := "()I" } : Jvm.MethodName)) ∈ Tg := tg (i := 1023) (by decide +kernel) rfl
theorem tw_1024 : (Jvm.Cond.code ({ cls := "FibreLoopsModel", name := "next", desc := "()I" } : Jvm.MethodName) prog_10_method_68_code (1 : Nat) (Option.some Jvm.ClassFile.FieldType.int)) ∈ Tg := tg (i := 1024) (by decide +kernel) rfl
theorem tw_1025 : (Jvm.Cond.methodLink "FibreLoopsModel" (209 : Nat) ({ cls := "FibreLoopsModel", name := "takeNumber", desc := "()V" } : Jvm.MethodName)) ∈ Tg := tg (i := 1025) (by decide +kernel) rfl
theorem tw_1027 : (Jvm.Cond.instanceMethod ({ cls := "FibreLoopsModel", name := "takeNumber", desc := "()V" } : Jvm.MethodName)) ∈ Tg := tg (i := 1027) (by decide +kernel) rfl
theorem tw_1028 : (Jvm.Cond.code ({ cls := "FibreLoopsModel", name := "takeNumber", desc := "()V" } : Jvm.MethodName) prog_10_method_70_code (2 : Nat) (Option.none : Option Jvm.ClassFile.FieldType)) ∈ Tg := tg (i := 1028) (by decide +kernel) rfl
theorem tw_1029 : (Jvm.Cond.methodLink "FibreLoopsModel" (212 : Nat) ({ cls := "FibreLoopsModel", name := "takeSign", desc := "(I)V" } : Jvm.MethodName)) ∈ Tg := tg (i := 1029) (by decide +kernel) rfl
theorem tw_1031 : (Jvm.Cond.instanceMethod ({ cls := "FibreLoopsModel", name := "takeSign", desc := "(I)V" } : Jvm.MethodName)) ∈ Tg := tg (i := 1031) (by decide +kernel) rfl
theorem tw_1032 : (Jvm.Cond.code ({ cls := "FibreLoopsModel", name := "takeSign", desc := "(I)V" } : Jvm.MethodName) prog_10_method_69_code (2 : Nat) (Option.none : Option Jvm.ClassFile.FieldType)) ∈ Tg := tg (i := 1032) (by decide +kernel) rfl
theorem tw_1033 : (Jvm.Cond.methodLink "FibreLoopsModel" (215 : Nat) ({ cls := "FibreLoopsModel", name := "takeMode", desc := "()V" } : Jvm.MethodName)) ∈ Tg := tg (i := 1033) (by decide +kernel) rfl
theorem tw_1035 : (Jvm.Cond.instanceMethod ({ cls := "FibreLoopsModel", name := "takeMode", desc := "()V" } : Jvm.MethodName)) ∈ Tg := tg (i := 1035) (by decide +kernel) rfl
theorem tw_1036 : (Jvm.Cond.code ({ cls := "FibreLoopsModel", name := "takeMode", desc := "()V" } : Jvm.MethodName) prog_10_method_71_code (1 : Nat) (Option.none : Option Jvm.ClassFile.FieldType)) ∈ Tg := tg (i := 1036) (by decide +kernel) rfl
theorem tw_1037 : (Jvm.Cond.methodLink "FibreLoopsLaw" (117 : Nat) ({ cls := "FibreLoopsModel", name := "carryOut", desc := "()I" } : Jvm.MethodName)) ∈ Tg := tg (i := 1037) (by decide +kernel) rfl
theorem tw_1038 : (Jvm.Cond.instanceMethod ({ cls := "FibreLoopsModel", name := "carryOut", desc := "()I" } : Jvm.MethodName)) ∈ Tg := tg (i := 1038) (by decide +kernel) rfl
theorem tw_1039 : (Jvm.Cond.selects "FibreLoopsModel" ({ cls := "FibreLoopsModel", name := "carryOut", desc := "()I" } : Jvm.MethodName) ({ cls := "FibreLoopsModel", name := "carryOut", desc := "()I" } : Jvm.MethodName)) ∈ Tg := tg (i := 1039) (by decide +kernel) rfl
theorem tw_1040 : (Jvm.Cond.code ({ cls := "FibreLoopsModel", name := "carryOut", desc := "()I" } : Jvm.MethodName) prog_10_method_76_code (2 : Nat) (Option.some Jvm.ClassFile.FieldType.int)) ∈ Tg := tg (i := 1040) (by decide +kernel) rfl
theorem tw_1041 : (Jvm.Cond.methodLink "FibreLoopsModel" (224 : Nat) ({ cls := "FibreLoopsModel", name := "fault", desc := "()I" } : Jvm.MethodName)) ∈ Tg := tg (i := 1041) (by decide +kernel) rfl
theorem tw_1042 : (Jvm.Cond.methodLink "FibreLoopsModel" (227 : Nat) ({ cls := "FibreLoopsModel", name := "carry", desc := "(I)I" } : Jvm.MethodName)) ∈ Tg := tg (i := 1042) (by decide +kernel) rfl
theorem tw_1044 : (Jvm.Cond.instanceMethod ({ cls := "FibreLoopsModel", name := "carry", desc := "(I)I" } : Jvm.MethodName)) ∈ Tg := tg (i := 1044) (by decide +kernel) rfl
theorem tw_1045 : (Jvm.Cond.code ({ cls := "FibreLoopsModel", name := "carry", desc := "(I)I" } : Jvm.MethodName) prog_10_method_75_code (3 : Nat) (Option.some Jvm.ClassFile.FieldType.int)) ∈ Tg := tg (i := 1045) (by decide +kernel) rfl
theorem tw_1046 : (Jvm.Cond.methodLink "FibreLoopsModel" (221 : Nat) ({ cls := "FibreLoopsModel", name := "feedAll", desc := "(I)I" } : Jvm.MethodName)) ∈ Tg := tg (i := 1046) (by decide +kernel) rfl
theorem tw_1048 : (Jvm.Cond.instanceMethod ({ cls := "FibreLoopsModel", name := "feedAll", desc := "(I)I" } : Jvm.MethodName)) ∈ Tg := tg (i := 1048) (by decide +kernel) rfl
theorem tw_1049 : (Jvm.Cond.code ({ cls := "FibreLoopsModel", name := "feedAll", desc := "(I)I" } : Jvm.MethodName) prog_10_method_74_code (4 : Nat) (Option.some Jvm.ClassFile.FieldType.int)) ∈ Tg := tg (i := 1049) (by decide +kernel) rfl
theorem tw_1050 : (Jvm.Cond.methodLink "FibreLoopsLaw" (121 : Nat) ({ cls := "FibreLoopsModel", name := "undo", desc := "()I" } : Jvm.MethodName)) ∈ Tg := tg (i := 1050) (by decide +kernel) rfl
theorem tw_1051 : (Jvm.Cond.instanceMethod ({ cls := "FibreLoopsModel", name := "undo", desc := "()I" } : Jvm.MethodName)) ∈ Tg := tg (i := 1051) (by decide +kernel) rfl
theorem tw_1052 : (Jvm.Cond.selects "FibreLoopsModel" ({ cls := "FibreLoopsModel", name := "undo", desc := "()I" } : Jvm.MethodName) ({ cls := "FibreLoopsModel", name := "undo", desc := "()I" } : Jvm.MethodName)) ∈ Tg := tg (i := 1052) (by decide +kernel) rfl
theorem tw_1053 : (Jvm.Cond.code ({ cls := "FibreLoopsModel", name := "undo", desc := "()I" } : Jvm.MethodName) prog_10_method_77_code (3 : Nat) (Option.some Jvm.ClassFile.FieldType.int)) ∈ Tg := tg (i := 1053) (by decide +kernel) rfl
theorem tw_1054 : (Jvm.Cond.methodLink "FibreLoopsLaw" (125 : Nat) ({ cls := "FibreLoopsModel", name := "save", desc := "(I)I" } : Jvm.MethodName)) ∈ Tg := tg (i := 1054) (by decide +kernel) rfl
theorem tw_1055 : (Jvm.Cond.instanceMethod ({ cls := "FibreLoopsModel", name := "save", desc := "(I)I" } : Jvm.MethodName)) ∈ Tg := tg (i := 1055) (by decide +kernel) rfl
theorem tw_1056 : (Jvm.Cond.selects "FibreLoopsModel" ({ cls := "FibreLoopsModel", name := "save", desc := "(I)I" } : Jvm.MethodName) ({ cls := "FibreLoopsModel", name := "save", desc := "(I)I" } : Jvm.MethodName)) ∈ Tg := tg (i := 1056) (by decide +kernel) rfl
theorem tw_1057 : (Jvm.Cond.code ({ cls := "FibreLoopsModel", name := "save", desc := "(I)I" } : Jvm.MethodName) prog_10_method_78_code (3 : Nat) (Option.some Jvm.ClassFile.FieldType.int)) ∈ Tg := tg (i := 1057) (by decide +kernel) rfl
theorem tw_1058 : (Jvm.Cond.methodLink "FibreLoopsLaw" (129 : Nat) ({ cls := "FibreLoopsModel", name := "restore", desc := "(I)I" } : Jvm.MethodName)) ∈ Tg := tg (i := 1058) (by decide +kernel) rfl
theorem tw_1059 : (Jvm.Cond.instanceMethod ({ cls := "FibreLoopsModel", name := "restore", desc := "(I)I" } : Jvm.MethodName)) ∈ Tg := tg (i := 1059) (by decide +kernel) rfl
theorem tw_1060 : (Jvm.Cond.selects "FibreLoopsModel" ({ cls := "FibreLoopsModel", name := "restore", desc := "(I)I" } : Jvm.MethodName) ({ cls := "FibreLoopsModel", name := "restore", desc := "(I)I" } : Jvm.MethodName)) ∈ Tg := tg (i := 1060) (by decide +kernel) rfl
theorem tw_1061 : (Jvm.Cond.code ({ cls := "FibreLoopsModel", name := "restore", desc := "(I)I" } : Jvm.MethodName) prog_10_method_79_code (3 : Nat) (Option.some Jvm.ClassFile.FieldType.int)) ∈ Tg := tg (i := 1061) (by decide +kernel) rfl
theorem tw_1062 : (Jvm.Cond.constantLong "FibreLoopsLaw" (99 : Nat) (4294967295 : Int64)) ∈ Tg := tg (i := 1062) (by decide +kernel) rfl
theorem ts_0 : Cond.selects "FibreLoops$History" ⟨"FibreLoops$History", "holdBack", "(LFibreLoops$State;)V"⟩ ⟨"FibreLoops$History", "holdBack", "(LFibreLoops$State;)V"⟩ ∈ Tg := tgs (i := 0) (by decide +kernel) rfl
theorem ts_1 : Cond.selects "FibreLoops$State" ⟨"FibreLoops$State", "copyFrom", "(LFibreLoops$State;)V"⟩ ⟨"FibreLoops$State", "copyFrom", "(LFibreLoops$State;)V"⟩ ∈ Tg := tgs (i := 1) (by decide +kernel) rfl
theorem ts_2 : Cond.selects "FibreLoops$Ring" ⟨"FibreLoops$Ring", "copyFrom", "(LFibreLoops$Ring;)V"⟩ ⟨"FibreLoops$Ring", "copyFrom", "(LFibreLoops$Ring;)V"⟩ ∈ Tg := tgs (i := 2) (by decide +kernel) rfl
theorem ts_3 : Cond.selects "FibreLoops$Device" ⟨"FibreLoops$Device", "copyFrom", "(LFibreLoops$Device;)V"⟩ ⟨"FibreLoops$Device", "copyFrom", "(LFibreLoops$Device;)V"⟩ ∈ Tg := tgs (i := 3) (by decide +kernel) rfl
theorem ts_4 : Cond.selects "FibreLoops$Join" ⟨"FibreLoops$Join", "copyFrom", "(LFibreLoops$Join;)V"⟩ ⟨"FibreLoops$Join", "copyFrom", "(LFibreLoops$Join;)V"⟩ ∈ Tg := tgs (i := 4) (by decide +kernel) rfl
theorem ts_5 : Cond.selects "FibreLoops$State" ⟨"FibreLoops$State", "changeSetting", "(II)I"⟩ ⟨"FibreLoops$State", "changeSetting", "(II)I"⟩ ∈ Tg := tgs (i := 5) (by decide +kernel) rfl
theorem ts_6 : Cond.selects "FibreLoops$History" ⟨"FibreLoops$History", "keepIfDone", "(I)I"⟩ ⟨"FibreLoops$History", "keepIfDone", "(I)I"⟩ ∈ Tg := tgs (i := 6) (by decide +kernel) rfl
theorem ts_7 : Cond.selects "FibreLoops$History" ⟨"FibreLoops$History", "dropOldest", "()V"⟩ ⟨"FibreLoops$History", "dropOldest", "()V"⟩ ∈ Tg := tgs (i := 7) (by decide +kernel) rfl
theorem ts_8 : Cond.selects "FibreLoops$State" ⟨"FibreLoops$State", "addRing", "(I)I"⟩ ⟨"FibreLoops$State", "addRing", "(I)I"⟩ ∈ Tg := tgs (i := 8) (by decide +kernel) rfl
theorem ts_9 : Cond.selects "FibreLoops$Ring" ⟨"FibreLoops$Ring", "begin", "(I)V"⟩ ⟨"FibreLoops$Ring", "begin", "(I)V"⟩ ∈ Tg := tgs (i := 9) (by decide +kernel) rfl
theorem ts_10 : Cond.selects "FibreLoops$State" ⟨"FibreLoops$State", "addDevice", "(IIIII)I"⟩ ⟨"FibreLoops$State", "addDevice", "(IIIII)I"⟩ ∈ Tg := tgs (i := 10) (by decide +kernel) rfl
theorem ts_11 : Cond.selects "FibreLoops$State" ⟨"FibreLoops$State", "ringWith", "(II)LFibreLoops$Ring;"⟩ ⟨"FibreLoops$State", "ringWith", "(II)LFibreLoops$Ring;"⟩ ∈ Tg := tgs (i := 11) (by decide +kernel) rfl
theorem ts_12 : Cond.selects "FibreLoops$State" ⟨"FibreLoops$State", "ringOf", "(I)LFibreLoops$Ring;"⟩ ⟨"FibreLoops$State", "ringOf", "(I)LFibreLoops$Ring;"⟩ ∈ Tg := tgs (i := 12) (by decide +kernel) rfl
theorem ts_13 : Cond.selects "FibreLoops$Ring" ⟨"FibreLoops$Ring", "has", "(I)Z"⟩ ⟨"FibreLoops$Ring", "has", "(I)Z"⟩ ∈ Tg := tgs (i := 13) (by decide +kernel) rfl
theorem ts_14 : Cond.selects "FibreLoops$Device" ⟨"FibreLoops$Device", "begin", "(IIIII)V"⟩ ⟨"FibreLoops$Device", "begin", "(IIIII)V"⟩ ∈ Tg := tgs (i := 14) (by decide +kernel) rfl
theorem ts_15 : Cond.selects "FibreLoops$State" ⟨"FibreLoops$State", "addJoin", "(IIII)I"⟩ ⟨"FibreLoops$State", "addJoin", "(IIII)I"⟩ ∈ Tg := tgs (i := 15) (by decide +kernel) rfl
theorem ts_16 : Cond.selects "FibreLoops$Join" ⟨"FibreLoops$Join", "begin", "(IIII)V"⟩ ⟨"FibreLoops$Join", "begin", "(IIII)V"⟩ ∈ Tg := tgs (i := 16) (by decide +kernel) rfl
theorem ts_17 : Cond.selects "FibreLoops$State" ⟨"FibreLoops$State", "turnJoin", "(II)I"⟩ ⟨"FibreLoops$State", "turnJoin", "(II)I"⟩ ∈ Tg := tgs (i := 17) (by decide +kernel) rfl
theorem ts_18 : Cond.selects "FibreLoops$State" ⟨"FibreLoops$State", "joinOf", "(I)LFibreLoops$Join;"⟩ ⟨"FibreLoops$State", "joinOf", "(I)LFibreLoops$Join;"⟩ ∈ Tg := tgs (i := 18) (by decide +kernel) rfl
theorem ts_19 : Cond.selects "FibreLoops$State" ⟨"FibreLoops$State", "feedDevice", "(II)I"⟩ ⟨"FibreLoops$State", "feedDevice", "(II)I"⟩ ∈ Tg := tgs (i := 19) (by decide +kernel) rfl
theorem ts_20 : Cond.selects "FibreLoops$State" ⟨"FibreLoops$State", "deviceOf", "(I)LFibreLoops$Device;"⟩ ⟨"FibreLoops$State", "deviceOf", "(I)LFibreLoops$Device;"⟩ ∈ Tg := tgs (i := 20) (by decide +kernel) rfl
theorem ts_21 : Cond.selects "FibreLoops$Device" ⟨"FibreLoops$Device", "keepAsLast", "(I)V"⟩ ⟨"FibreLoops$Device", "keepAsLast", "(I)V"⟩ ∈ Tg := tgs (i := 21) (by decide +kernel) rfl
theorem ts_22 : Cond.selects "FibreLoops$State" ⟨"FibreLoops$State", "lightFlash", "(III)I"⟩ ⟨"FibreLoops$State", "lightFlash", "(III)I"⟩ ∈ Tg := tgs (i := 22) (by decide +kernel) rfl
theorem ts_23 : Cond.selects "FibreLoops$Ring" ⟨"FibreLoops$Ring", "strengthAt", "(I)I"⟩ ⟨"FibreLoops$Ring", "strengthAt", "(I)I"⟩ ∈ Tg := tgs (i := 23) (by decide +kernel) rfl
theorem ts_24 : Cond.selects "FibreLoops$State" ⟨"FibreLoops$State", "setting", "(I)I"⟩ ⟨"FibreLoops$State", "setting", "(I)I"⟩ ∈ Tg := tgs (i := 24) (by decide +kernel) rfl
theorem ts_25 : Cond.selects "FibreLoops$Ring" ⟨"FibreLoops$Ring", "putIn", "(IIII)V"⟩ ⟨"FibreLoops$Ring", "putIn", "(IIII)V"⟩ ∈ Tg := tgs (i := 25) (by decide +kernel) rfl
theorem ts_26 : Cond.selects "FibreLoops$Ring" ⟨"FibreLoops$Ring", "flashes", "()I"⟩ ⟨"FibreLoops$Ring", "flashes", "()I"⟩ ∈ Tg := tgs (i := 26) (by decide +kernel) rfl
theorem ts_27 : Cond.selects "FibreLoops$State" ⟨"FibreLoops$State", "passTicks", "(I)I"⟩ ⟨"FibreLoops$State", "passTicks", "(I)I"⟩ ∈ Tg := tgs (i := 27) (by decide +kernel) rfl
theorem ts_28 : Cond.selects "FibreLoops$State" ⟨"FibreLoops$State", "passOne", "()V"⟩ ⟨"FibreLoops$State", "passOne", "()V"⟩ ∈ Tg := tgs (i := 28) (by decide +kernel) rfl
theorem ts_29 : Cond.selects "FibreLoops$Ring" ⟨"FibreLoops$Ring", "moveOn", "(I)V"⟩ ⟨"FibreLoops$Ring", "moveOn", "(I)V"⟩ ∈ Tg := tgs (i := 29) (by decide +kernel) rfl
theorem ts_30 : Cond.selects "FibreLoops$Ring" ⟨"FibreLoops$Ring", "fade", "(II)V"⟩ ⟨"FibreLoops$Ring", "fade", "(II)V"⟩ ∈ Tg := tgs (i := 30) (by decide +kernel) rfl
theorem ts_31 : Cond.selects "FibreLoops$Device" ⟨"FibreLoops$Device", "actOn", "(LFibreLoops$Ring;LFibreLoops$State;)V"⟩ ⟨"FibreLoops$Device", "actOn", "(LFibreLoops$Ring;LFibreLoops$State;)V"⟩ ∈ Tg := tgs (i := 31) (by decide +kernel) rfl
theorem ts_32 : Cond.selects "FibreLoops$Device" ⟨"FibreLoops$Device", "amplify", "(LFibreLoops$Ring;)V"⟩ ⟨"FibreLoops$Device", "amplify", "(LFibreLoops$Ring;)V"⟩ ∈ Tg := tgs (i := 32) (by decide +kernel) rfl
theorem ts_33 : Cond.selects "FibreLoops$Ring" ⟨"FibreLoops$Ring", "strengthen", "(II)V"⟩ ⟨"FibreLoops$Ring", "strengthen", "(II)V"⟩ ∈ Tg := tgs (i := 33) (by decide +kernel) rfl
theorem ts_34 : Cond.selects "FibreLoops$Device" ⟨"FibreLoops$Device", "note", "(LFibreLoops$Ring;I)V"⟩ ⟨"FibreLoops$Device", "note", "(LFibreLoops$Ring;I)V"⟩ ∈ Tg := tgs (i := 34) (by decide +kernel) rfl
theorem ts_35 : Cond.selects "FibreLoops$Ring" ⟨"FibreLoops$Ring", "valueAt", "(I)I"⟩ ⟨"FibreLoops$Ring", "valueAt", "(I)I"⟩ ∈ Tg := tgs (i := 35) (by decide +kernel) rfl
theorem ts_36 : Cond.selects "FibreLoops$Device" ⟨"FibreLoops$Device", "putNext", "(LFibreLoops$Ring;II)V"⟩ ⟨"FibreLoops$Device", "putNext", "(LFibreLoops$Ring;II)V"⟩ ∈ Tg := tgs (i := 36) (by decide +kernel) rfl
theorem ts_37 : Cond.selects "FibreLoops$Device" ⟨"FibreLoops$Device", "removeFirst", "()V"⟩ ⟨"FibreLoops$Device", "removeFirst", "()V"⟩ ∈ Tg := tgs (i := 37) (by decide +kernel) rfl
theorem ts_38 : Cond.selects "FibreLoops$Device" ⟨"FibreLoops$Device", "change", "(LFibreLoops$Ring;)V"⟩ ⟨"FibreLoops$Device", "change", "(LFibreLoops$Ring;)V"⟩ ∈ Tg := tgs (i := 38) (by decide +kernel) rfl
theorem ts_39 : Cond.selects "FibreLoops$Ring" ⟨"FibreLoops$Ring", "changeValue", "(II)V"⟩ ⟨"FibreLoops$Ring", "changeValue", "(II)V"⟩ ∈ Tg := tgs (i := 39) (by decide +kernel) rfl
theorem ts_40 : Cond.selects "FibreLoops$Device" ⟨"FibreLoops$Device", "dropValue", "(LFibreLoops$Ring;)V"⟩ ⟨"FibreLoops$Device", "dropValue", "(LFibreLoops$Ring;)V"⟩ ∈ Tg := tgs (i := 40) (by decide +kernel) rfl
theorem ts_41 : Cond.selects "FibreLoops$Ring" ⟨"FibreLoops$Ring", "drop", "(I)V"⟩ ⟨"FibreLoops$Ring", "drop", "(I)V"⟩ ∈ Tg := tgs (i := 41) (by decide +kernel) rfl
theorem ts_42 : Cond.selects "FibreLoops$Join" ⟨"FibreLoops$Join", "actOn", "(LFibreLoops$Ring;LFibreLoops$Ring;)V"⟩ ⟨"FibreLoops$Join", "actOn", "(LFibreLoops$Ring;LFibreLoops$Ring;)V"⟩ ∈ Tg := tgs (i := 42) (by decide +kernel) rfl
theorem ts_43 : Cond.selects "FibreLoops$Ring" ⟨"FibreLoops$Ring", "exchange", "(ILFibreLoops$Ring;I)V"⟩ ⟨"FibreLoops$Ring", "exchange", "(ILFibreLoops$Ring;I)V"⟩ ∈ Tg := tgs (i := 43) (by decide +kernel) rfl
theorem ts_44 : Cond.selects "FibreLoops$Ring" ⟨"FibreLoops$Ring", "tellCrossing", "(LFibreLoops$Ring;)V"⟩ ⟨"FibreLoops$Ring", "tellCrossing", "(LFibreLoops$Ring;)V"⟩ ∈ Tg := tgs (i := 44) (by decide +kernel) rfl
theorem ts_45 : Cond.selects "FibreLoops$Device" ⟨"FibreLoops$Device", "rest", "(I)V"⟩ ⟨"FibreLoops$Device", "rest", "(I)V"⟩ ∈ Tg := tgs (i := 45) (by decide +kernel) rfl
theorem ts_46 : Cond.selects "FibreLoops$Ring" ⟨"FibreLoops$Ring", "birthAt", "(I)I"⟩ ⟨"FibreLoops$Ring", "birthAt", "(I)I"⟩ ∈ Tg := tgs (i := 46) (by decide +kernel) rfl
theorem ts_47 : Cond.selects "FibreLoops$Ring" ⟨"FibreLoops$Ring", "strengthInAll", "()I"⟩ ⟨"FibreLoops$Ring", "strengthInAll", "()I"⟩ ∈ Tg := tgs (i := 47) (by decide +kernel) rfl
theorem ts_48 : Cond.selects "FibreLoops$Ring" ⟨"FibreLoops$Ring", "faintest", "()I"⟩ ⟨"FibreLoops$Ring", "faintest", "()I"⟩ ∈ Tg := tgs (i := 48) (by decide +kernel) rfl
theorem ts_49 : Cond.selects "FibreLoops$Ring" ⟨"FibreLoops$Ring", "tally", "(I)I"⟩ ⟨"FibreLoops$Ring", "tally", "(I)I"⟩ ∈ Tg := tgs (i := 49) (by decide +kernel) rfl
theorem ts_50 : Cond.selects "FibreLoops$Device" ⟨"FibreLoops$Device", "keptAt", "(I)I"⟩ ⟨"FibreLoops$Device", "keptAt", "(I)I"⟩ ∈ Tg := tgs (i := 50) (by decide +kernel) rfl
theorem ts_51 : Cond.selects "FibreLoops$State" ⟨"FibreLoops$State", "flashesInAll", "()I"⟩ ⟨"FibreLoops$State", "flashesInAll", "()I"⟩ ∈ Tg := tgs (i := 51) (by decide +kernel) rfl
theorem ts_52 : Cond.selects "FibreLoops$State" ⟨"FibreLoops$State", "tallyInAll", "(I)I"⟩ ⟨"FibreLoops$State", "tallyInAll", "(I)I"⟩ ∈ Tg := tgs (i := 52) (by decide +kernel) rfl
theorem ts_53 : Cond.selects "FibreLoops$State" ⟨"FibreLoops$State", "ticksToLoss", "(I)I"⟩ ⟨"FibreLoops$State", "ticksToLoss", "(I)I"⟩ ∈ Tg := tgs (i := 53) (by decide +kernel) rfl
theorem ts_54 : Cond.selects "FibreLoops$Pad" ⟨"FibreLoops$Pad", "append", "(C)V"⟩ ⟨"FibreLoops$Pad", "append", "(C)V"⟩ ∈ Tg := tgs (i := 54) (by decide +kernel) rfl
theorem ts_55 : Cond.selects "FibreLoops$Pad" ⟨"FibreLoops$Pad", "clear", "()V"⟩ ⟨"FibreLoops$Pad", "clear", "()V"⟩ ∈ Tg := tgs (i := 55) (by decide +kernel) rfl
theorem ts_56 : Cond.selects "FibreLoops$OrderReader" ⟨"FibreLoops$OrderReader", "firstFault", "()I"⟩ ⟨"FibreLoops$OrderReader", "firstFault", "()I"⟩ ∈ Tg := tgs (i := 56) (by decide +kernel) rfl
theorem ts_57 : Cond.selects "FibreLoops$OrderReader" ⟨"FibreLoops$OrderReader", "goToStart", "()V"⟩ ⟨"FibreLoops$OrderReader", "goToStart", "()V"⟩ ∈ Tg := tgs (i := 57) (by decide +kernel) rfl
theorem ts_58 : Cond.selects "FibreLoops$OrderReader" ⟨"FibreLoops$OrderReader", "readOrder", "()Z"⟩ ⟨"FibreLoops$OrderReader", "readOrder", "()Z"⟩ ∈ Tg := tgs (i := 58) (by decide +kernel) rfl
theorem ts_59 : Cond.selects "FibreLoops$Pad" ⟨"FibreLoops$Pad", "signAt", "(I)C"⟩ ⟨"FibreLoops$Pad", "signAt", "(I)C"⟩ ∈ Tg := tgs (i := 59) (by decide +kernel) rfl
theorem ts_60 : Cond.selects "FibreLoops$OrderReader" ⟨"FibreLoops$OrderReader", "take", "(C)Z"⟩ ⟨"FibreLoops$OrderReader", "take", "(C)Z"⟩ ∈ Tg := tgs (i := 60) (by decide +kernel) rfl
theorem ts_61 : Cond.selects "FibreLoops$OrderReader" ⟨"FibreLoops$OrderReader", "readNumber", "()Z"⟩ ⟨"FibreLoops$OrderReader", "readNumber", "()Z"⟩ ∈ Tg := tgs (i := 61) (by decide +kernel) rfl
theorem ts_62 : Cond.selects "FibreLoops$OrderReader" ⟨"FibreLoops$OrderReader", "digit", "()I"⟩ ⟨"FibreLoops$OrderReader", "digit", "()I"⟩ ∈ Tg := tgs (i := 62) (by decide +kernel) rfl
theorem ts_63 : Cond.selects "FibreLoops$OrderReader" ⟨"FibreLoops$OrderReader", "keep", "(I)Z"⟩ ⟨"FibreLoops$OrderReader", "keep", "(I)Z"⟩ ∈ Tg := tgs (i := 63) (by decide +kernel) rfl
theorem ts_64 : Cond.selects "FibreLoops$OrderReader" ⟨"FibreLoops$OrderReader", "readValues", "()Z"⟩ ⟨"FibreLoops$OrderReader", "readValues", "()Z"⟩ ∈ Tg := tgs (i := 64) (by decide +kernel) rfl
theorem ts_65 : Cond.selects "FibreLoops$OrderReader" ⟨"FibreLoops$OrderReader", "readMode", "()Z"⟩ ⟨"FibreLoops$OrderReader", "readMode", "()Z"⟩ ∈ Tg := tgs (i := 65) (by decide +kernel) rfl
theorem ts_66 : Cond.selects "FibreLoops$OrderReader" ⟨"FibreLoops$OrderReader", "readNext", "()Z"⟩ ⟨"FibreLoops$OrderReader", "readNext", "()Z"⟩ ∈ Tg := tgs (i := 66) (by decide +kernel) rfl
theorem ts_67 : Cond.selects "FibreLoops" ⟨"FibreLoops", "carryOrder", "()Z"⟩ ⟨"FibreLoops", "carryOrder", "()Z"⟩ ∈ Tg := tgs (i := 67) (by decide +kernel) rfl
theorem ts_68 : Cond.selects "FibreLoops$OrderReader" ⟨"FibreLoops$OrderReader", "number", "(I)I"⟩ ⟨"FibreLoops$OrderReader", "number", "(I)I"⟩ ∈ Tg := tgs (i := 68) (by decide +kernel) rfl
theorem ts_69 : Cond.selects "FibreLoops" ⟨"FibreLoops", "feedAll", "(I)Z"⟩ ⟨"FibreLoops", "feedAll", "(I)Z"⟩ ∈ Tg := tgs (i := 69) (by decide +kernel) rfl
theorem ts_70 : Cond.selects "FibreLoops$History" ⟨"FibreLoops$History", "takeLatest", "()LFibreLoops$State;"⟩ ⟨"FibreLoops$History", "takeLatest", "()LFibreLoops$State;"⟩ ∈ Tg := tgs (i := 70) (by decide +kernel) rfl
theorem ts_71 : Cond.selects "FibreLoops" ⟨"FibreLoops", "slotOf", "(I)LFibreLoops$State;"⟩ ⟨"FibreLoops", "slotOf", "(I)LFibreLoops$State;"⟩ ∈ Tg := tgs (i := 71) (by decide +kernel) rfl
theorem ts_72 : Cond.selects "FibreLoopsModel" ⟨"FibreLoopsModel", "keep", "()V"⟩ ⟨"FibreLoopsModel", "keep", "()V"⟩ ∈ Tg := tgs (i := 72) (by decide +kernel) rfl
theorem ts_73 : Cond.selects "FibreLoopsModel" ⟨"FibreLoopsModel", "isPlace", "(II)Z"⟩ ⟨"FibreLoopsModel", "isPlace", "(II)Z"⟩ ∈ Tg := tgs (i := 73) (by decide +kernel) rfl
theorem ts_74 : Cond.selects "FibreLoopsModel" ⟨"FibreLoopsModel", "isLoop", "(I)Z"⟩ ⟨"FibreLoopsModel", "isLoop", "(I)Z"⟩ ∈ Tg := tgs (i := 74) (by decide +kernel) rfl
theorem ts_75 : Cond.selects "FibreLoopsModel" ⟨"FibreLoopsModel", "ofL", "(II)I"⟩ ⟨"FibreLoopsModel", "ofL", "(II)I"⟩ ∈ Tg := tgs (i := 75) (by decide +kernel) rfl
theorem ts_76 : Cond.selects "FibreLoopsModel" ⟨"FibreLoopsModel", "make", "(IIIII)V"⟩ ⟨"FibreLoopsModel", "make", "(IIIII)V"⟩ ∈ Tg := tgs (i := 76) (by decide +kernel) rfl
theorem ts_77 : Cond.selects "FibreLoopsModel" ⟨"FibreLoopsModel", "layD", "(III)V"⟩ ⟨"FibreLoopsModel", "layD", "(III)V"⟩ ∈ Tg := tgs (i := 77) (by decide +kernel) rfl
theorem ts_78 : Cond.selects "FibreLoopsModel" ⟨"FibreLoopsModel", "tryTurn", "(IIZ)I"⟩ ⟨"FibreLoopsModel", "tryTurn", "(IIZ)I"⟩ ∈ Tg := tgs (i := 78) (by decide +kernel) rfl
theorem ts_79 : Cond.selects "FibreLoopsModel" ⟨"FibreLoopsModel", "keepIf", "(Z)V"⟩ ⟨"FibreLoopsModel", "keepIf", "(Z)V"⟩ ∈ Tg := tgs (i := 79) (by decide +kernel) rfl
theorem ts_80 : Cond.selects "FibreLoopsModel" ⟨"FibreLoopsModel", "ofJ", "(II)I"⟩ ⟨"FibreLoopsModel", "ofJ", "(II)I"⟩ ∈ Tg := tgs (i := 80) (by decide +kernel) rfl
theorem ts_81 : Cond.selects "FibreLoopsModel" ⟨"FibreLoopsModel", "tryFeed", "(IIZ)I"⟩ ⟨"FibreLoopsModel", "tryFeed", "(IIZ)I"⟩ ∈ Tg := tgs (i := 81) (by decide +kernel) rfl
theorem ts_82 : Cond.selects "FibreLoopsModel" ⟨"FibreLoopsModel", "isDevice", "(I)Z"⟩ ⟨"FibreLoopsModel", "isDevice", "(I)Z"⟩ ∈ Tg := tgs (i := 82) (by decide +kernel) rfl
theorem ts_83 : Cond.selects "FibreLoopsModel" ⟨"FibreLoopsModel", "ofD", "(II)I"⟩ ⟨"FibreLoopsModel", "ofD", "(II)I"⟩ ∈ Tg := tgs (i := 83) (by decide +kernel) rfl
theorem ts_84 : Cond.selects "FibreLoopsModel" ⟨"FibreLoopsModel", "tryLight", "(IIIZ)I"⟩ ⟨"FibreLoopsModel", "tryLight", "(IIIZ)I"⟩ ∈ Tg := tgs (i := 84) (by decide +kernel) rfl
theorem ts_85 : Cond.selects "FibreLoopsModel" ⟨"FibreLoopsModel", "shine", "(III)V"⟩ ⟨"FibreLoopsModel", "shine", "(III)V"⟩ ∈ Tg := tgs (i := 85) (by decide +kernel) rfl
theorem ts_86 : Cond.selects "FibreLoopsModel" ⟨"FibreLoopsModel", "moreL", "(II)V"⟩ ⟨"FibreLoopsModel", "moreL", "(II)V"⟩ ∈ Tg := tgs (i := 86) (by decide +kernel) rfl
theorem ts_87 : Cond.selects "FibreLoopsModel" ⟨"FibreLoopsModel", "flashes", "(I)I"⟩ ⟨"FibreLoopsModel", "flashes", "(I)I"⟩ ∈ Tg := tgs (i := 87) (by decide +kernel) rfl
theorem ts_88 : Cond.selects "FibreLoopsModel" ⟨"FibreLoopsModel", "tryTicks", "(IZ)I"⟩ ⟨"FibreLoopsModel", "tryTicks", "(IZ)I"⟩ ∈ Tg := tgs (i := 88) (by decide +kernel) rfl
theorem ts_89 : Cond.selects "FibreLoopsModel" ⟨"FibreLoopsModel", "passAll", "(I)V"⟩ ⟨"FibreLoopsModel", "passAll", "(I)V"⟩ ∈ Tg := tgs (i := 89) (by decide +kernel) rfl
theorem ts_90 : Cond.selects "FibreLoopsModel" ⟨"FibreLoopsModel", "pass", "()V"⟩ ⟨"FibreLoopsModel", "pass", "()V"⟩ ∈ Tg := tgs (i := 90) (by decide +kernel) rfl
theorem ts_91 : Cond.selects "FibreLoopsModel" ⟨"FibreLoopsModel", "turnOn", "(I)V"⟩ ⟨"FibreLoopsModel", "turnOn", "(I)V"⟩ ∈ Tg := tgs (i := 91) (by decide +kernel) rfl
theorem ts_92 : Cond.selects "FibreLoopsModel" ⟨"FibreLoopsModel", "moveTo", "(II)V"⟩ ⟨"FibreLoopsModel", "moveTo", "(II)V"⟩ ∈ Tg := tgs (i := 92) (by decide +kernel) rfl
theorem ts_93 : Cond.selects "FibreLoopsModel" ⟨"FibreLoopsModel", "clear", "(I)V"⟩ ⟨"FibreLoopsModel", "clear", "(I)V"⟩ ∈ Tg := tgs (i := 93) (by decide +kernel) rfl
theorem ts_94 : Cond.selects "FibreLoopsModel" ⟨"FibreLoopsModel", "fadeAll", "(I)V"⟩ ⟨"FibreLoopsModel", "fadeAll", "(I)V"⟩ ∈ Tg := tgs (i := 94) (by decide +kernel) rfl
theorem ts_95 : Cond.selects "FibreLoopsModel" ⟨"FibreLoopsModel", "fade", "(III)V"⟩ ⟨"FibreLoopsModel", "fade", "(III)V"⟩ ∈ Tg := tgs (i := 95) (by decide +kernel) rfl
theorem ts_96 : Cond.selects "FibreLoopsModel" ⟨"FibreLoopsModel", "act", "(I)V"⟩ ⟨"FibreLoopsModel", "act", "(I)V"⟩ ∈ Tg := tgs (i := 96) (by decide +kernel) rfl
theorem ts_97 : Cond.selects "FibreLoopsModel" ⟨"FibreLoopsModel", "amplify", "(II)V"⟩ ⟨"FibreLoopsModel", "amplify", "(II)V"⟩ ∈ Tg := tgs (i := 97) (by decide +kernel) rfl
theorem ts_98 : Cond.selects "FibreLoopsModel" ⟨"FibreLoopsModel", "did", "(I)V"⟩ ⟨"FibreLoopsModel", "did", "(I)V"⟩ ∈ Tg := tgs (i := 98) (by decide +kernel) rfl
theorem ts_99 : Cond.selects "FibreLoopsModel" ⟨"FibreLoopsModel", "note", "(II)V"⟩ ⟨"FibreLoopsModel", "note", "(II)V"⟩ ∈ Tg := tgs (i := 99) (by decide +kernel) rfl
theorem ts_100 : Cond.selects "FibreLoopsModel" ⟨"FibreLoopsModel", "putIn", "(II)V"⟩ ⟨"FibreLoopsModel", "putIn", "(II)V"⟩ ∈ Tg := tgs (i := 100) (by decide +kernel) rfl
theorem ts_101 : Cond.selects "FibreLoopsModel" ⟨"FibreLoopsModel", "cross", "(I)V"⟩ ⟨"FibreLoopsModel", "cross", "(I)V"⟩ ∈ Tg := tgs (i := 101) (by decide +kernel) rfl
theorem ts_102 : Cond.selects "FibreLoopsModel" ⟨"FibreLoopsModel", "crossed", "(III)V"⟩ ⟨"FibreLoopsModel", "crossed", "(III)V"⟩ ∈ Tg := tgs (i := 102) (by decide +kernel) rfl
theorem ts_103 : Cond.selects "FibreLoopsModel" ⟨"FibreLoopsModel", "recover", "(I)V"⟩ ⟨"FibreLoopsModel", "recover", "(I)V"⟩ ∈ Tg := tgs (i := 103) (by decide +kernel) rfl
theorem ts_104 : Cond.selects "FibreLoopsModel" ⟨"FibreLoopsModel", "strengths", "(I)I"⟩ ⟨"FibreLoopsModel", "strengths", "(I)I"⟩ ∈ Tg := tgs (i := 104) (by decide +kernel) rfl
theorem ts_105 : Cond.selects "FibreLoopsModel" ⟨"FibreLoopsModel", "faintest", "(I)I"⟩ ⟨"FibreLoopsModel", "faintest", "(I)I"⟩ ∈ Tg := tgs (i := 105) (by decide +kernel) rfl
theorem ts_106 : Cond.selects "FibreLoopsModel" ⟨"FibreLoopsModel", "sum", "(I)I"⟩ ⟨"FibreLoopsModel", "sum", "(I)I"⟩ ∈ Tg := tgs (i := 106) (by decide +kernel) rfl
theorem ts_107 : Cond.selects "FibreLoopsModel" ⟨"FibreLoopsModel", "layAside", "()V"⟩ ⟨"FibreLoopsModel", "layAside", "()V"⟩ ∈ Tg := tgs (i := 107) (by decide +kernel) rfl
theorem ts_108 : Cond.selects "FibreLoopsModel" ⟨"FibreLoopsModel", "layBack", "()V"⟩ ⟨"FibreLoopsModel", "layBack", "()V"⟩ ∈ Tg := tgs (i := 108) (by decide +kernel) rfl
theorem ts_109 : Cond.selects "FibreLoopsModel" ⟨"FibreLoopsModel", "lossWithin", "(I)I"⟩ ⟨"FibreLoopsModel", "lossWithin", "(I)I"⟩ ∈ Tg := tgs (i := 109) (by decide +kernel) rfl
theorem ts_110 : Cond.selects "FibreLoopsModel" ⟨"FibreLoopsModel", "takeOrder", "()V"⟩ ⟨"FibreLoopsModel", "takeOrder", "()V"⟩ ∈ Tg := tgs (i := 110) (by decide +kernel) rfl
theorem ts_111 : Cond.selects "FibreLoopsModel" ⟨"FibreLoopsModel", "next", "()I"⟩ ⟨"FibreLoopsModel", "next", "()I"⟩ ∈ Tg := tgs (i := 111) (by decide +kernel) rfl
theorem ts_112 : Cond.selects "FibreLoopsModel" ⟨"FibreLoopsModel", "takeNumber", "()V"⟩ ⟨"FibreLoopsModel", "takeNumber", "()V"⟩ ∈ Tg := tgs (i := 112) (by decide +kernel) rfl
theorem ts_113 : Cond.selects "FibreLoopsModel" ⟨"FibreLoopsModel", "takeSign", "(I)V"⟩ ⟨"FibreLoopsModel", "takeSign", "(I)V"⟩ ∈ Tg := tgs (i := 113) (by decide +kernel) rfl
theorem ts_114 : Cond.selects "FibreLoopsModel" ⟨"FibreLoopsModel", "takeMode", "()V"⟩ ⟨"FibreLoopsModel", "takeMode", "()V"⟩ ∈ Tg := tgs (i := 114) (by decide +kernel) rfl
theorem ts_115 : Cond.selects "FibreLoopsModel" ⟨"FibreLoopsModel", "carry", "(I)I"⟩ ⟨"FibreLoopsModel", "carry", "(I)I"⟩ ∈ Tg := tgs (i := 115) (by decide +kernel) rfl
theorem ts_116 : Cond.selects "FibreLoopsModel" ⟨"FibreLoopsModel", "feedAll", "(I)I"⟩ ⟨"FibreLoopsModel", "feedAll", "(I)I"⟩ ∈ Tg := tgs (i := 116) (by decide +kernel) rfl
theorem iw_0 : ∀ w ∈ u_ws RX0 TX0 9, w ∈ Tg := by
  intro w hw
  obtain ⟨k, hk, rfl⟩ := List.mem_map.mp hw
  rw [List.mem_range] at hk
  match k, hk with
  | 0, _ => exact tw_91
  | 1, _ => exact tw_93
  | 2, _ => exact tw_95
  | 3, _ => exact tw_97
  | 4, _ => exact tw_99
  | 5, _ => exact tw_101
  | 6, _ => exact tw_103
  | 7, _ => exact tw_105
  | 8, _ => exact tw_107
  | k + 9, h => omega
theorem iw_1 : ∀ w ∈ u_ws RX1 TX1 2, w ∈ Tg := by
  intro w hw
  obtain ⟨k, hk, rfl⟩ := List.mem_map.mp hw
  rw [List.mem_range] at hk
  match k, hk with
  | 0, _ => exact tw_185
  | 1, _ => exact tw_187
  | k + 2, h => omega
theorem iw_2 : ∀ w ∈ u_ws RX2 TX2 6, w ∈ Tg := by
  intro w hw
  obtain ⟨k, hk, rfl⟩ := List.mem_map.mp hw
  rw [List.mem_range] at hk
  match k, hk with
  | 0, _ => exact tw_130
  | 1, _ => exact tw_132
  | 2, _ => exact tw_134
  | 3, _ => exact tw_136
  | 4, _ => exact tw_138
  | 5, _ => exact tw_140
  | k + 6, h => omega
theorem iw_3 : ∀ w ∈ u_ws RX3 TX3 5, w ∈ Tg := by
  intro w hw
  obtain ⟨k, hk, rfl⟩ := List.mem_map.mp hw
  rw [List.mem_range] at hk
  match k, hk with
  | 0, _ => exact tw_220
  | 1, _ => exact tw_222
  | 2, _ => exact tw_224
  | 3, _ => exact tw_226
  | 4, _ => exact tw_228
  | k + 5, h => omega
theorem iw_4 : ∀ w ∈ u_ws RX4 TX4 2, w ∈ Tg := by
  intro w hw
  obtain ⟨k, hk, rfl⟩ := List.mem_map.mp hw
  rw [List.mem_range] at hk
  match k, hk with
  | 0, _ => exact tw_200
  | 1, _ => exact tw_202
  | k + 2, h => omega
theorem iw_5 : ∀ w ∈ u_ws RX5 TX5 5, w ∈ Tg := by
  intro w hw
  obtain ⟨k, hk, rfl⟩ := List.mem_map.mp hw
  rw [List.mem_range] at hk
  match k, hk with
  | 0, _ => exact tw_54
  | 1, _ => exact tw_56
  | 2, _ => exact tw_58
  | 3, _ => exact tw_60
  | 4, _ => exact tw_62
  | k + 5, h => omega
theorem iw_6 : ∀ w ∈ u_ws RX6 TX6 8, w ∈ Tg := by
  intro w hw
  obtain ⟨k, hk, rfl⟩ := List.mem_map.mp hw
  rw [List.mem_range] at hk
  match k, hk with
  | 0, _ => exact tw_156
  | 1, _ => exact tw_158
  | 2, _ => exact tw_160
  | 3, _ => exact tw_162
  | 4, _ => exact tw_164
  | 5, _ => exact tw_166
  | 6, _ => exact tw_168
  | 7, _ => exact tw_170
  | k + 8, h => omega
theorem iw_7 : ∀ w ∈ u_ws RX7 TX7 7, w ∈ Tg := by
  intro w hw
  obtain ⟨k, hk, rfl⟩ := List.mem_map.mp hw
  rw [List.mem_range] at hk
  match k, hk with
  | 0, _ => exact tw_238
  | 1, _ => exact tw_240
  | 2, _ => exact tw_242
  | 3, _ => exact tw_244
  | 4, _ => exact tw_246
  | 5, _ => exact tw_248
  | 6, _ => exact tw_250
  | k + 7, h => omega
theorem iw_8 : ∀ w ∈ u_ws RX8 TX8 16, w ∈ Tg := by
  intro w hw
  obtain ⟨k, hk, rfl⟩ := List.mem_map.mp hw
  rw [List.mem_range] at hk
  match k, hk with
  | 0, _ => exact tw_724
  | 1, _ => exact tw_726
  | 2, _ => exact tw_728
  | 3, _ => exact tw_730
  | 4, _ => exact tw_732
  | 5, _ => exact tw_734
  | 6, _ => exact tw_736
  | 7, _ => exact tw_738
  | 8, _ => exact tw_740
  | 9, _ => exact tw_742
  | 10, _ => exact tw_744
  | 11, _ => exact tw_746
  | 12, _ => exact tw_748
  | 13, _ => exact tw_750
  | 14, _ => exact tw_752
  | 15, _ => exact tw_754
  | k + 16, h => omega
end
section
/-! ===== the world in one piece: cell k lies at F + k; n cells there are; a method's contract speaks of the whole world ===== -/
abbrev xT : Type := Program × Launch × Env × Room × State × MethodId × Array Value × List Frame × Method × Code
abbrev xp (X : xT) : Program := X.1
abbrev xl (X : xT) : Launch := X.2.1
abbrev xe (X : xT) : Env := X.2.2.1
abbrev xR (X : xT) : Room := X.2.2.2.1
abbrev xs (X : xT) : State := X.2.2.2.2.1
abbrev xm (X : xT) : MethodId := X.2.2.2.2.2.1
abbrev xa (X : xT) : Array Value := X.2.2.2.2.2.2.1
abbrev xb (X : xT) : List Frame := X.2.2.2.2.2.2.2.1
abbrev xh (X : xT) : Method := X.2.2.2.2.2.2.2.2.1
abbrev xc (X : xT) : Code := X.2.2.2.2.2.2.2.2.2
/-- the tables: the classes' numbers and slots, the array classes, where the static arrays lie -/
abbrev fG : Type := (Nat → ClassId) × (Nat → Nat → Nat) × (Nat → ClassId) × (Nat → Nat)
def fD (G : fG) : va_G := (G.1, G.2.1)
def fCl : List vw_C := [(RX0, TX0, 9), (RX1, TX1, 2), (RX2, TX2, 6), (RX3, TX3, 5), (RX4, TX4, 2), (RX5, TX5, 5), (RX6, TX6, 8), (RX7, TX7, 7), (RX8, TX8, 16)]
def fTy (G : fG) : List (ClassId × FieldType) := [(G.2.2.1 0, .int), (G.2.2.1 1, .boolean), (G.2.2.1 2, .char), (G.2.2.1 3, .object RX5), (G.2.2.1 4, .object RX0), (G.2.2.1 5, .object RX2), (G.2.2.1 6, .object RX6)]
def fA (F : Nat) : Nat → Prop := fun q => F ≤ q
def wl (F n : Nat) (cf : Nat → va_E) : va_W := (List.range n).map (fun k => (F + k, cf k))
theorem wl_len (F n : Nat) (cf : Nat → va_E) : (wl F n cf).length = n := by simp [wl]
theorem wl_get {F n k : Nat} {cf : Nat → va_E} {e : va_E} (h : k < n) (he : cf k = e) : (wl F n cf)[k]? = some (F + k, e) := by
  subst he
  simp [wl, h]
theorem wl_inv {F n k : Nat} {cf : Nat → va_E} {q : Nat × va_E} (h : (wl F n cf)[k]? = some q) : k < n ∧ q = (F + k, cf k) := by
  have hl : k < n := by
    have := (List.getElem?_eq_some_iff.mp h).1
    rw [wl_len] at this
    exact this
  rw [wl_get hl rfl] at h
  exact ⟨hl, (Option.some.inj h).symm⟩
theorem wl_set {F n k : Nat} {cf : Nat → va_E} {e : va_E} : (wl F n cf).set k (F + k, e) = wl F n (va_up cf k e) := by
  apply List.ext_getElem?
  intro j
  rw [List.getElem?_set]
  by_cases hj : j < n
  · rw [wl_get hj rfl, wl_get hj rfl]
    by_cases hk : k = j
    · subst hk
      rw [if_pos rfl, if_pos (by rw [wl_len]; exact hj)]
      simp [va_up]
    · rw [if_neg hk]
      simp [va_up, Ne.symm hk]
  · have e1 : (wl F n cf)[j]? = none := List.getElem?_eq_none (by rw [wl_len]; omega)
    have e2 : (wl F n (va_up cf k e))[j]? = none := List.getElem?_eq_none (by rw [wl_len]; omega)
    rw [e1, e2]
    by_cases hk : k = j
    · rw [if_pos hk, if_neg (by rw [wl_len]; omega)]
    · rw [if_neg hk]
theorem wl_push {F n : Nat} {cf : Nat → va_E} {e : va_E} : wl F n cf ++ [(F + n, e)] = wl F (n + 1) (va_up cf n e) := by
  apply List.ext_getElem?
  intro j
  by_cases hj : j < n
  · rw [List.getElem?_append_left (by rw [wl_len]; exact hj), wl_get hj rfl, wl_get (by omega) rfl]
    have : ¬ j = n := by omega
    simp [va_up, this]
  · rw [List.getElem?_append_right (by rw [wl_len]; omega), wl_len]
    by_cases hz : j = n
    · subst hz
      rw [wl_get (by omega) rfl]
      simp [va_up]
    · rw [List.getElem?_eq_none (by simp; omega), List.getElem?_eq_none (by rw [wl_len]; omega)]
theorem wl_D (F n : Nat) (cf : Nat → va_E) : va_D (fA F) (wl F n cf) := by
  refine ⟨fun i j p q hi hj e => ?_, fun k q h => ?_⟩
  · obtain ⟨-, rfl⟩ := wl_inv hi
    obtain ⟨-, rfl⟩ := wl_inv hj
    exact Nat.add_left_cancel e
  · obtain ⟨-, rfl⟩ := wl_inv h
    exact Nat.le_add_right _ _
/-- the static arrays -/
def sN : Nat → String
  | 0 => "LOWEST_SETTING"
  | 1 => "HIGHEST_SETTING"
  | _ => "FIRST_SETTING"
def sV (j i : Nat) : Int32 := if j = 0 then (if i = 3 then 100 else 0) else if j = 1 then (if i = 0 then 50 else if i = 3 then 1000 else 200) else (if i = 0 then 10 else if i = 1 then 40 else if i = 2 then 20 else 600)
def fSt (G : fG) (F : Nat) (U : State) (H : Heap) : Prop := ∀ j, j < 3 → va_Z RX7 (sN j) "[I" (.ref (G.2.2.2 j)) (fA F) U H ∧ va_T .int (G.2.2.2 j) 4 (fun i => .int (sV j i)) (fA F) U H
def fAo (U : State) : Prop := va_AO RX5 U ∧ va_AO RX0 U ∧ va_AO RX2 U ∧ va_AO RX6 U
def fNw (U : State) : Prop := (∀ w ∈ Tn, va_Nw w U) ∧ fAo U
def fH (G : fG) (F n : Nat) (cf : Nat → va_E) (U : State) : Prop := U.heap.size = F + n ∧ va_P (fD G) fCl (wl F n cf) U.heap
def fB (G : fG) (F n : Nat) (cf : Nat → va_E) (U : State) : Prop := fH G F n cf U ∧ va_K (fD G) fCl (fTy G) U ∧ fSt G F U U.heap ∧ fNw U
def fQ (G : fG) (F : Nat) (post : Option Value → Nat → (Nat → va_E) → Prop) : Array Value → State → Outcome → State → Prop := fun _ st oc t => (∃ (r : Option Value) (n : Nat) (cf : Nat → va_E), oc = .returned r ∧ post r n cf ∧ fH G F n cf t) ∧ va_F (fA F) st t
def Vg (X : xT) (Q : State → Prop) (G : fG) (F nL n : Nat) (cf : Nat → va_E) (cells slots pc : Nat) (loc : List (Nat × Value)) (st : List Value) : Prop :=
  ∀ (H : Heap) (locs : List Loc) (ls : Array Slot), H.size = F + n → va_P (fD G) fCl (wl F n cf) H → va_S (fA F) (xs X).heap H locs → lv_has ls nL loc → W (xp X) (xl X) (xe X) (xR X) (xs X) (xm X) (xa X) (xb X) (xh X) (xc X) H locs cells slots Q (F0 (xm X) pc ls st)
def Cx (X : xT) (G : fG) (F nL : Nat) (cc : ByteArray) (own : String) (ret : Option FieldType) : Prop :=
  (xp X).tables.exec = Jvm.exec ∧ (xc X).code = cc ∧ (xc X).maxLocals = nL ∧ (xs X).vm.findClass own = some (xm X).cls ∧ (∀ w ∈ Tg, w.before (xa X) (xs X) = true) ∧ va_K (fD G) fCl (fTy G) (xs X) ∧ fSt G F (xs X) (xs X).heap ∧ fNw (xs X) ∧ F ≤ (xs X).heap.size ∧ (xh X).sig.returnType = ret ∧ (xh X).locks = false
theorem fSt_moved {G : fG} {F : Nat} {u U : State} {H : Heap} (hvm : u.vm.Alike U.vm) (h : fSt G F u H) : fSt G F U H := fun j hj => ⟨(h j hj).1.moved hvm, (h j hj).2.moved hvm⟩
theorem fSt_kept {G : fG} {F : Nat} {U : State} {H H1 : Heap} (h : fSt G F U H) (hq : ∀ a : Nat, a < H.size → ¬ fA F a → H1[a]? = H[a]?) : fSt G F U H1 := fun j hj => ⟨(h j hj).1.kept hq, (h j hj).2.kept hq⟩
theorem fNw_warm {s U : State} (hW : s.WarmedH U.vm) (h : fNw s) : fNw U := by
  refine ⟨fun w hw => ?_, h.2.1.moved hW.alike, h.2.2.1.moved hW.alike, h.2.2.2.1.moved hW.alike, h.2.2.2.2.moved hW.alike⟩
  have hz := h.1 w hw
  have hb : isNs w = true := (List.mem_filter.mp hw).2
  cases w <;> first | exact va_Nw.warmF hW hz | exact va_Nw.warmM hW hz | (exact absurd hb (by simp [isNs]))
theorem fNw_same {s U : State} (e : s.vm = U.vm) (h : fNw s) : fNw U := by
  have hvm : s.vm.Alike U.vm := e ▸ Vm.Alike.refl s.vm
  refine ⟨fun w hw => ?_, h.2.1.moved hvm, h.2.2.1.moved hvm, h.2.2.2.1.moved hvm, h.2.2.2.2.moved hvm⟩
  have hz := h.1 w hw
  have hb : isNs w = true := (List.mem_filter.mp hw).2
  cases w <;> first | exact va_Nw.same rfl e hz | (exact absurd hb (by simp [isNs]))
theorem fB_blind {G : fG} {F n : Nat} {cf : Nat → va_E} {As : List Value} : FrameBlind (va_Pc As (fB G F n cf)) := by
  intro a U g mk q
  obtain ⟨q0, q1, q2, q3, q4⟩ := q
  exact ⟨q0, q1, va_K.moved (u := U) (U := U.calling g mk a) (Vm.Alike.refl U.vm) q2, fSt_moved (u := U) (U := U.calling g mk a) (Vm.Alike.refl U.vm) q3, fNw_same (s := U) (U := U.calling g mk a) rfl q4⟩
section FRX
variable {X : xT} {Q : State → Prop} {G : fG} {F nL n : Nat} {cf : Nat → va_E} {cells slots pc : Nat} {loc : List (Nat × Value)} {st : List Value} {cc : ByteArray} {own : String} {ret : Option FieldType}
theorem fB_at (h : Cx X G F nL cc own ret) {H : Heap} {locs : List Loc} (a1 : H.size = F + n) (a2 : va_P (fD G) fCl (wl F n cf) H) (a3 : va_S (fA F) (xs X).heap H locs) : ∀ U : State, U.heap = H → (xs X).WarmedH U.vm → fB G F n cf U := by
  intro U hU hW
  subst hU
  obtain ⟨-, -, -, -, -, hK, hSt, hN, -⟩ := h
  exact ⟨⟨a1, a2⟩, va_K.moved hW.alike hK, fSt_moved hW.alike (fSt_kept hSt (fun a h1 h2 => a3.2.1 a h1 h2)), fNw_warm hW hN⟩
/-- a method's contract from its walk -/
theorem g_met {l : Launch} {y : MethodName} {As : List Value} {post : Option Value → Nat → (Nat → va_E) → Prop} {mc ms : Nat} {rm : Room} (hy : plainName y.cls = true) (ho : y.cls = own) (hl : (lg_sl As).length ≤ nL)
    (body : ∀ X : xT, xl X = l → xR X = rm → Cx X G F nL cc own ret → Vg X (MQ (xb X) (fQ G F post) (xa X) (xs X) mc ms (fA F)) G F nL n cf 0 0 0 (lv_args 0 As) []) : Met l y (.code y cc nL ret :: Tg) rm (va_Pc As (fB G F n cf)) (fQ G F post) mc ms (fA F) := by
  refine Met.ofW (cc := cc) (maxL := nL) (ret := ret) hy rfl ?_
  intro p e s m args below meth c s₁ B hml hv
  obtain ⟨rfl, ⟨hsz, hP⟩, hK, hSt, hN⟩ := hv
  have hts := atoms_spec (ws := .code y cc nL ret :: Tg) B.pre
  have key := body (p, l, e, rm, s, m, As.toArray, below, meth, c) rfl rfl ⟨B.exec, B.bytes, hml, by rw [← ho]; exact findClass_of_methodNamed B.named, fun w hw => hts w (List.mem_cons_of_mem _ hw), hK, hSt, hN, by show F ≤ s.heap.size; omega, B.returns, B.notSynchronized⟩
  rw [lg_entry_eq]
  exact key s.heap [] _ hsz hP va_S.rf (lv_entry As hl)
theorem tg_in {y : MethodName} {bytes : ByteArray} {mL : Nat} {r : Option FieldType} (hc : Cond.code y bytes mL r ∈ Tg) : GoodIn Tg (.code y bytes mL r :: Tg) := by
  intro w hw
  rcases List.mem_cons.mp hw with rfl | hw
  · exact ⟨hc, good_of_word (List.all_eq_true.mp tg_good _ hc)⟩
  · exact ⟨hw, good_of_word (List.all_eq_true.mp tg_good _ hw)⟩
theorem g_iconst (h : Cx X G F nL cc own ret) {i : Int} {v : Int32} (d : decode cc pc = .ok (.iconst i, 1)) (hv : Int32.ofInt i = v) (kk : Vg X Q G F nL n cf cells slots (pc + 1) loc (.int v :: st)) : Vg X Q G F nL n cf cells slots pc loc (st) := fun H locs ls a1 a2 a3 a4 => lv_iconst h.1 h.2.1 d hv (kk H locs ls a1 a2 a3 a4)
theorem g_bipush (h : Cx X G F nL cc own ret) {i : Int} {v : Int32} (d : decode cc pc = .ok (.bipush i, 2)) (hv : (Int8.ofInt i).toInt32 = v) (kk : Vg X Q G F nL n cf cells slots (pc + 2) loc (.int v :: st)) : Vg X Q G F nL n cf cells slots pc loc (st) := fun H locs ls a1 a2 a3 a4 => lv_bipush h.1 h.2.1 d hv (kk H locs ls a1 a2 a3 a4)
theorem g_sipush (h : Cx X G F nL cc own ret) {i : Int} {v : Int32} (d : decode cc pc = .ok (.sipush i, 3)) (hv : (Int16.ofInt i).toInt32 = v) (kk : Vg X Q G F nL n cf cells slots (pc + 3) loc (.int v :: st)) : Vg X Q G F nL n cf cells slots pc loc (st) := fun H locs ls a1 a2 a3 a4 => lv_sipush h.1 h.2.1 d hv (kk H locs ls a1 a2 a3 a4)
theorem g_lconst (h : Cx X G F nL cc own ret) {i : Fin 2} {v : Int64} (d : decode cc pc = .ok (.lconst i, 1)) (hv : Int64.ofNat (i : Nat) = v) (kk : Vg X Q G F nL n cf cells slots (pc + 1) loc (.long v :: st)) : Vg X Q G F nL n cf cells slots pc loc (st) := fun H locs ls a1 a2 a3 a4 => lv_lconst h.1 h.2.1 d hv (kk H locs ls a1 a2 a3 a4)
theorem g_null (h : Cx X G F nL cc own ret)  (d : decode cc pc = .ok (.aconst_null, 1))  (kk : Vg X Q G F nL n cf cells slots (pc + 1) loc (.null :: st)) : Vg X Q G F nL n cf cells slots pc loc (st) := fun H locs ls a1 a2 a3 a4 => lv_null h.1 h.2.1 d (kk H locs ls a1 a2 a3 a4)
theorem g_iload_n (h : Cx X G F nL cc own ret) {k : Fin 4} {x : Int32} (i : Nat) (d : decode cc pc = .ok (.iload_n k, 1)) (hl : loc[i]? = some ((k : Nat), .int x)) (kk : Vg X Q G F nL n cf cells slots (pc + 1) loc (.int x :: st)) : Vg X Q G F nL n cf cells slots pc loc (st) := fun H locs ls a1 a2 a3 a4 => lv_iload_n h.1 h.2.1 d rfl (lv_at a4 i hl) (kk H locs ls a1 a2 a3 a4)
theorem g_iload (h : Cx X G F nL cc own ret) {k : Nat} {x : Int32} (i : Nat) (d : decode cc pc = .ok (.iload k, 2)) (hl : loc[i]? = some (k, .int x)) (kk : Vg X Q G F nL n cf cells slots (pc + 2) loc (.int x :: st)) : Vg X Q G F nL n cf cells slots pc loc (st) := fun H locs ls a1 a2 a3 a4 => lv_iload h.1 h.2.1 d (lv_at a4 i hl) (kk H locs ls a1 a2 a3 a4)
theorem g_lload_n (h : Cx X G F nL cc own ret) {k : Fin 4} {x : Int64} (i : Nat) (d : decode cc pc = .ok (.lload_n k, 1)) (hl : loc[i]? = some ((k : Nat), .long x)) (kk : Vg X Q G F nL n cf cells slots (pc + 1) loc (.long x :: st)) : Vg X Q G F nL n cf cells slots pc loc (st) := fun H locs ls a1 a2 a3 a4 => lv_lload_n h.1 h.2.1 d rfl (lv_at a4 i hl) (kk H locs ls a1 a2 a3 a4)
theorem g_lload (h : Cx X G F nL cc own ret) {k : Nat} {x : Int64} (i : Nat) (d : decode cc pc = .ok (.lload k, 2)) (hl : loc[i]? = some (k, .long x)) (kk : Vg X Q G F nL n cf cells slots (pc + 2) loc (.long x :: st)) : Vg X Q G F nL n cf cells slots pc loc (st) := fun H locs ls a1 a2 a3 a4 => lv_lload h.1 h.2.1 d (lv_at a4 i hl) (kk H locs ls a1 a2 a3 a4)
theorem g_aload_n (h : Cx X G F nL cc own ret) {k : Fin 4} {x : Nat} (i : Nat) (d : decode cc pc = .ok (.aload_n k, 1)) (hl : loc[i]? = some ((k : Nat), .ref x)) (kk : Vg X Q G F nL n cf cells slots (pc + 1) loc (.ref x :: st)) : Vg X Q G F nL n cf cells slots pc loc (st) := fun H locs ls a1 a2 a3 a4 => lv_aload_n h.1 h.2.1 d rfl (lv_at a4 i hl) (kk H locs ls a1 a2 a3 a4)
theorem g_aload (h : Cx X G F nL cc own ret) {k : Nat} {x : Nat} (i : Nat) (d : decode cc pc = .ok (.aload k, 2)) (hl : loc[i]? = some (k, .ref x)) (kk : Vg X Q G F nL n cf cells slots (pc + 2) loc (.ref x :: st)) : Vg X Q G F nL n cf cells slots pc loc (st) := fun H locs ls a1 a2 a3 a4 => lv_aload h.1 h.2.1 d (lv_at a4 i hl) (kk H locs ls a1 a2 a3 a4)
theorem g_istore_n (h : Cx X G F nL cc own ret) {k : Fin 4} {x : Int32} {loc2 : List (Nat × Value)} (d : decode cc pc = .ok (.istore_n k, 1)) (hn : (k : Nat) < nL) (hl : ((k : Nat), Value.int x) :: loc.filter (fun q => !(q.1 == (k : Nat)) && !(q.1 + 1 == (k : Nat) && q.2.category == 2)) = loc2) (kk : Vg X Q G F nL n cf cells slots (pc + 1) loc2 (st)) : Vg X Q G F nL n cf cells slots pc loc (.int x :: st) := fun H locs ls a1 a2 a3 a4 => lv_istore_n h.1 h.2.1 d rfl a4 hn hl (fun ls2 b => kk H locs ls2 a1 a2 a3 b)
theorem g_istore (h : Cx X G F nL cc own ret) {k : Nat} {x : Int32} {loc2 : List (Nat × Value)} (d : decode cc pc = .ok (.istore k, 2)) (hn : k < nL) (hl : (k, Value.int x) :: loc.filter (fun q => !(q.1 == k) && !(q.1 + 1 == k && q.2.category == 2)) = loc2) (kk : Vg X Q G F nL n cf cells slots (pc + 2) loc2 (st)) : Vg X Q G F nL n cf cells slots pc loc (.int x :: st) := fun H locs ls a1 a2 a3 a4 => lv_istore h.1 h.2.1 d a4 hn hl (fun ls2 b => kk H locs ls2 a1 a2 a3 b)
theorem g_lstore_n (h : Cx X G F nL cc own ret) {k : Fin 4} {x : Int64} {loc2 : List (Nat × Value)} (d : decode cc pc = .ok (.lstore_n k, 1)) (hn : (k : Nat) + 1 < nL) (hl : ((k : Nat), Value.long x) :: loc.filter (fun q => !(q.1 == (k : Nat)) && (!(q.1 == (k : Nat) + 1) && !(q.1 + 1 == (k : Nat) && q.2.category == 2))) = loc2) (kk : Vg X Q G F nL n cf cells slots (pc + 1) loc2 (st)) : Vg X Q G F nL n cf cells slots pc loc (.long x :: st) := fun H locs ls a1 a2 a3 a4 => lv_lstore_n h.1 h.2.1 d rfl a4 hn hl (fun ls2 b => kk H locs ls2 a1 a2 a3 b)
theorem g_lstore (h : Cx X G F nL cc own ret) {k : Nat} {x : Int64} {loc2 : List (Nat × Value)} (d : decode cc pc = .ok (.lstore k, 2)) (hn : k + 1 < nL) (hl : (k, Value.long x) :: loc.filter (fun q => !(q.1 == k) && (!(q.1 == k + 1) && !(q.1 + 1 == k && q.2.category == 2))) = loc2) (kk : Vg X Q G F nL n cf cells slots (pc + 2) loc2 (st)) : Vg X Q G F nL n cf cells slots pc loc (.long x :: st) := fun H locs ls a1 a2 a3 a4 => lv_lstore h.1 h.2.1 d a4 hn hl (fun ls2 b => kk H locs ls2 a1 a2 a3 b)
theorem g_astore_n (h : Cx X G F nL cc own ret) {k : Fin 4} {x : Nat} {loc2 : List (Nat × Value)} (d : decode cc pc = .ok (.astore_n k, 1)) (hn : (k : Nat) < nL) (hl : ((k : Nat), Value.ref x) :: loc.filter (fun q => !(q.1 == (k : Nat)) && !(q.1 + 1 == (k : Nat) && q.2.category == 2)) = loc2) (kk : Vg X Q G F nL n cf cells slots (pc + 1) loc2 (st)) : Vg X Q G F nL n cf cells slots pc loc (.ref x :: st) := fun H locs ls a1 a2 a3 a4 => lv_astore_n h.1 h.2.1 d rfl a4 hn hl (fun ls2 b => kk H locs ls2 a1 a2 a3 b)
theorem g_astore (h : Cx X G F nL cc own ret) {k : Nat} {x : Nat} {loc2 : List (Nat × Value)} (d : decode cc pc = .ok (.astore k, 2)) (hn : k < nL) (hl : (k, Value.ref x) :: loc.filter (fun q => !(q.1 == k) && !(q.1 + 1 == k && q.2.category == 2)) = loc2) (kk : Vg X Q G F nL n cf cells slots (pc + 2) loc2 (st)) : Vg X Q G F nL n cf cells slots pc loc (.ref x :: st) := fun H locs ls a1 a2 a3 a4 => lv_astore h.1 h.2.1 d a4 hn hl (fun ls2 b => kk H locs ls2 a1 a2 a3 b)
theorem g_iinc (h : Cx X G F nL cc own ret) {k : Nat} {z : Int} {x v : Int32} {loc2 : List (Nat × Value)} (i : Nat) (d : decode cc pc = .ok (.iinc k z, 3)) (hk : loc[i]? = some (k, .int x)) (hv : x + Int32.ofInt z = v) (hn : k < nL) (hl : (k, Value.int v) :: loc.filter (fun q => !(q.1 == k) && !(q.1 + 1 == k && q.2.category == 2)) = loc2) (kk : Vg X Q G F nL n cf cells slots (pc + 3) loc2 (st)) : Vg X Q G F nL n cf cells slots pc loc (st) := fun H locs ls a1 a2 a3 a4 => lv_iinc h.1 h.2.1 d a4 hk hv hn hl (fun ls2 b => kk H locs ls2 a1 a2 a3 b)
theorem g_iadd (h : Cx X G F nL cc own ret) {x y : Int32} (d : decode cc pc = .ok (.iadd, 1))  (kk : Vg X Q G F nL n cf cells slots (pc + 1) loc (.int (x + y) :: st)) : Vg X Q G F nL n cf cells slots pc loc (.int y :: .int x :: st) := fun H locs ls a1 a2 a3 a4 => lv_iadd h.1 h.2.1 d (kk H locs ls a1 a2 a3 a4)
theorem g_isub (h : Cx X G F nL cc own ret) {x y : Int32} (d : decode cc pc = .ok (.isub, 1))  (kk : Vg X Q G F nL n cf cells slots (pc + 1) loc (.int (x - y) :: st)) : Vg X Q G F nL n cf cells slots pc loc (.int y :: .int x :: st) := fun H locs ls a1 a2 a3 a4 => lv_isub h.1 h.2.1 d (kk H locs ls a1 a2 a3 a4)
theorem g_imul (h : Cx X G F nL cc own ret) {x y : Int32} (d : decode cc pc = .ok (.imul, 1))  (kk : Vg X Q G F nL n cf cells slots (pc + 1) loc (.int (x * y) :: st)) : Vg X Q G F nL n cf cells slots pc loc (.int y :: .int x :: st) := fun H locs ls a1 a2 a3 a4 => lv_imul h.1 h.2.1 d (kk H locs ls a1 a2 a3 a4)
theorem g_iand (h : Cx X G F nL cc own ret) {x y : Int32} (d : decode cc pc = .ok (.iand, 1))  (kk : Vg X Q G F nL n cf cells slots (pc + 1) loc (.int (x &&& y) :: st)) : Vg X Q G F nL n cf cells slots pc loc (.int y :: .int x :: st) := fun H locs ls a1 a2 a3 a4 => lv_iand h.1 h.2.1 d (kk H locs ls a1 a2 a3 a4)
theorem g_irem (h : Cx X G F nL cc own ret) {x y : Int32} (d : decode cc pc = .ok (.irem, 1)) (hne : ¬ y = 0) (kk : Vg X Q G F nL n cf cells slots (pc + 1) loc (.int (x - x / y * y) :: st)) : Vg X Q G F nL n cf cells slots pc loc (.int y :: .int x :: st) := fun H locs ls a1 a2 a3 a4 => lv_irem h.1 h.2.1 d hne (kk H locs ls a1 a2 a3 a4)
theorem g_land (h : Cx X G F nL cc own ret) {x y : Int64} (d : decode cc pc = .ok (.land, 1))  (kk : Vg X Q G F nL n cf cells slots (pc + 1) loc (.long (x &&& y) :: st)) : Vg X Q G F nL n cf cells slots pc loc (.long y :: .long x :: st) := fun H locs ls a1 a2 a3 a4 => lv_land h.1 h.2.1 d (kk H locs ls a1 a2 a3 a4)
theorem g_lor (h : Cx X G F nL cc own ret) {x y : Int64} (d : decode cc pc = .ok (.lor, 1))  (kk : Vg X Q G F nL n cf cells slots (pc + 1) loc (.long (x ||| y) :: st)) : Vg X Q G F nL n cf cells slots pc loc (.long y :: .long x :: st) := fun H locs ls a1 a2 a3 a4 => lv_lor h.1 h.2.1 d (kk H locs ls a1 a2 a3 a4)
theorem g_lushr (h : Cx X G F nL cc own ret) {x v : Int64} {y : Int32} (d : decode cc pc = .ok (.lushr, 1)) (hv : (x.toUInt64 >>> (y.toInt64.toUInt64 &&& Int64.toUInt64 63)).toInt64 = v) (kk : Vg X Q G F nL n cf cells slots (pc + 1) loc (.long v :: st)) : Vg X Q G F nL n cf cells slots pc loc (.int y :: .long x :: st) := fun H locs ls a1 a2 a3 a4 => lv_lushr h.1 h.2.1 d hv (kk H locs ls a1 a2 a3 a4)
theorem g_lshl (h : Cx X G F nL cc own ret) {x v : Int64} {y : Int32} (d : decode cc pc = .ok (.lshl, 1)) (hv : x <<< (y.toInt64 &&& 63) = v) (kk : Vg X Q G F nL n cf cells slots (pc + 1) loc (.long v :: st)) : Vg X Q G F nL n cf cells slots pc loc (.int y :: .long x :: st) := fun H locs ls a1 a2 a3 a4 => lv_lshl h.1 h.2.1 d hv (kk H locs ls a1 a2 a3 a4)
theorem g_lshr (h : Cx X G F nL cc own ret) {x v : Int64} {y : Int32} (d : decode cc pc = .ok (.lshr, 1)) (hv : x >>> (y.toInt64 &&& 63) = v) (kk : Vg X Q G F nL n cf cells slots (pc + 1) loc (.long v :: st)) : Vg X Q G F nL n cf cells slots pc loc (.int y :: .long x :: st) := fun H locs ls a1 a2 a3 a4 => lv_lshr h.1 h.2.1 d hv (kk H locs ls a1 a2 a3 a4)
theorem g_i2l (h : Cx X G F nL cc own ret) {x : Int32} {v : Int64} (d : decode cc pc = .ok (.i2l, 1)) (hv : x.toInt64 = v) (kk : Vg X Q G F nL n cf cells slots (pc + 1) loc (.long v :: st)) : Vg X Q G F nL n cf cells slots pc loc (.int x :: st) := fun H locs ls a1 a2 a3 a4 => lv_i2l h.1 h.2.1 d hv (kk H locs ls a1 a2 a3 a4)
theorem g_l2i (h : Cx X G F nL cc own ret) {x : Int64} {v : Int32} (d : decode cc pc = .ok (.l2i, 1)) (hv : x.toInt32 = v) (kk : Vg X Q G F nL n cf cells slots (pc + 1) loc (.int v :: st)) : Vg X Q G F nL n cf cells slots pc loc (.long x :: st) := fun H locs ls a1 a2 a3 a4 => lv_l2i h.1 h.2.1 d hv (kk H locs ls a1 a2 a3 a4)
theorem g_i2c (h : Cx X G F nL cc own ret) {x v : Int32} (d : decode cc pc = .ok (.i2c, 1)) (hv : (x.toUInt32 % 65536).toInt32 = v) (kk : Vg X Q G F nL n cf cells slots (pc + 1) loc (.int v :: st)) : Vg X Q G F nL n cf cells slots pc loc (.int x :: st) := fun H locs ls a1 a2 a3 a4 => lv_i2c h.1 h.2.1 d hv (kk H locs ls a1 a2 a3 a4)
theorem g_lcmp (h : Cx X G F nL cc own ret) {x y : Int64} (d : decode cc pc = .ok (.lcmp, 1))  (kk : Vg X Q G F nL n cf cells slots (pc + 1) loc (.int (lg_cmp x y) :: st)) : Vg X Q G F nL n cf cells slots pc loc (.long y :: .long x :: st) := fun H locs ls a1 a2 a3 a4 => W.lcmp h.1 h.2.1 d (kk H locs ls a1 a2 a3 a4)
theorem g_dup (h : Cx X G F nL cc own ret) {va : Value} (d : decode cc pc = .ok (.dup, 1)) (hc : va.category = 1) (kk : Vg X Q G F nL n cf cells slots (pc + 1) loc (va :: va :: st)) : Vg X Q G F nL n cf cells slots pc loc (va :: st) := fun H locs ls a1 a2 a3 a4 => lv_dup h.1 h.2.1 d hc (kk H locs ls a1 a2 a3 a4)
theorem g_pop (h : Cx X G F nL cc own ret) {va : Value} (d : decode cc pc = .ok (.pop, 1)) (hc : va.category = 1) (kk : Vg X Q G F nL n cf cells slots (pc + 1) loc (st)) : Vg X Q G F nL n cf cells slots pc loc (va :: st) := fun H locs ls a1 a2 a3 a4 => lv_pop h.1 h.2.1 d hc (kk H locs ls a1 a2 a3 a4)
theorem g_dup2 (h : Cx X G F nL cc own ret) {va vb : Value} (d : decode cc pc = .ok (.dup2, 1)) (hc : va.category = 1) (hc2 : vb.category = 1) (kk : Vg X Q G F nL n cf cells slots (pc + 1) loc (va :: vb :: va :: vb :: st)) : Vg X Q G F nL n cf cells slots pc loc (va :: vb :: st) := fun H locs ls a1 a2 a3 a4 => lv_dup2_11 h.1 h.2.1 d hc hc2 (kk H locs ls a1 a2 a3 a4)
theorem g_if_eq (h : Cx X G F nL cc own ret) {x : Int32} {off : Int} {tgt : Nat} (d : decode cc pc = .ok (.ifCond .eq off, 3)) (ht : (pc : Int) + off = (tgt : Int)) (kt : x = 0 → Vg X Q G F nL n cf cells slots tgt loc st) (kf : ¬ x = 0 → Vg X Q G F nL n cf cells slots (pc + 3) loc st) : Vg X Q G F nL n cf cells slots pc loc (.int x :: st) := fun H locs ls a1 a2 a3 a4 => lv_if_eq h.1 h.2.1 d ht (fun c => kt c H locs ls a1 a2 a3 a4) (fun c => kf c H locs ls a1 a2 a3 a4)
theorem g_if_ne (h : Cx X G F nL cc own ret) {x : Int32} {off : Int} {tgt : Nat} (d : decode cc pc = .ok (.ifCond .ne off, 3)) (ht : (pc : Int) + off = (tgt : Int)) (kt : ¬ x = 0 → Vg X Q G F nL n cf cells slots tgt loc st) (kf : x = 0 → Vg X Q G F nL n cf cells slots (pc + 3) loc st) : Vg X Q G F nL n cf cells slots pc loc (.int x :: st) := fun H locs ls a1 a2 a3 a4 => lv_if_ne h.1 h.2.1 d ht (fun c => kt c H locs ls a1 a2 a3 a4) (fun c => kf c H locs ls a1 a2 a3 a4)
theorem g_if_lt (h : Cx X G F nL cc own ret) {x : Int32} {off : Int} {tgt : Nat} (d : decode cc pc = .ok (.ifCond .lt off, 3)) (ht : (pc : Int) + off = (tgt : Int)) (kt : x < 0 → Vg X Q G F nL n cf cells slots tgt loc st) (kf : ¬ x < 0 → Vg X Q G F nL n cf cells slots (pc + 3) loc st) : Vg X Q G F nL n cf cells slots pc loc (.int x :: st) := fun H locs ls a1 a2 a3 a4 => lv_if_lt h.1 h.2.1 d ht (fun c => kt c H locs ls a1 a2 a3 a4) (fun c => kf c H locs ls a1 a2 a3 a4)
theorem g_if_ge (h : Cx X G F nL cc own ret) {x : Int32} {off : Int} {tgt : Nat} (d : decode cc pc = .ok (.ifCond .ge off, 3)) (ht : (pc : Int) + off = (tgt : Int)) (kt : 0 ≤ x → Vg X Q G F nL n cf cells slots tgt loc st) (kf : ¬ 0 ≤ x → Vg X Q G F nL n cf cells slots (pc + 3) loc st) : Vg X Q G F nL n cf cells slots pc loc (.int x :: st) := fun H locs ls a1 a2 a3 a4 => lv_if_ge h.1 h.2.1 d ht (fun c => kt c H locs ls a1 a2 a3 a4) (fun c => kf c H locs ls a1 a2 a3 a4)
theorem g_if_gt (h : Cx X G F nL cc own ret) {x : Int32} {off : Int} {tgt : Nat} (d : decode cc pc = .ok (.ifCond .gt off, 3)) (ht : (pc : Int) + off = (tgt : Int)) (kt : 0 < x → Vg X Q G F nL n cf cells slots tgt loc st) (kf : ¬ 0 < x → Vg X Q G F nL n cf cells slots (pc + 3) loc st) : Vg X Q G F nL n cf cells slots pc loc (.int x :: st) := fun H locs ls a1 a2 a3 a4 => lv_if_gt h.1 h.2.1 d ht (fun c => kt c H locs ls a1 a2 a3 a4) (fun c => kf c H locs ls a1 a2 a3 a4)
theorem g_if_le (h : Cx X G F nL cc own ret) {x : Int32} {off : Int} {tgt : Nat} (d : decode cc pc = .ok (.ifCond .le off, 3)) (ht : (pc : Int) + off = (tgt : Int)) (kt : x ≤ 0 → Vg X Q G F nL n cf cells slots tgt loc st) (kf : ¬ x ≤ 0 → Vg X Q G F nL n cf cells slots (pc + 3) loc st) : Vg X Q G F nL n cf cells slots pc loc (.int x :: st) := fun H locs ls a1 a2 a3 a4 => lv_if_le h.1 h.2.1 d ht (fun c => kt c H locs ls a1 a2 a3 a4) (fun c => kf c H locs ls a1 a2 a3 a4)
theorem g_icmp_eq (h : Cx X G F nL cc own ret) {x y : Int32} {off : Int} {tgt : Nat} (d : decode cc pc = .ok (.if_icmp .eq off, 3)) (ht : (pc : Int) + off = (tgt : Int)) (kt : x = y → Vg X Q G F nL n cf cells slots tgt loc st) (kf : ¬ x = y → Vg X Q G F nL n cf cells slots (pc + 3) loc st) : Vg X Q G F nL n cf cells slots pc loc (.int y :: .int x :: st) := fun H locs ls a1 a2 a3 a4 => lv_icmp_eq h.1 h.2.1 d ht (fun c => kt c H locs ls a1 a2 a3 a4) (fun c => kf c H locs ls a1 a2 a3 a4)
theorem g_icmp_ne (h : Cx X G F nL cc own ret) {x y : Int32} {off : Int} {tgt : Nat} (d : decode cc pc = .ok (.if_icmp .ne off, 3)) (ht : (pc : Int) + off = (tgt : Int)) (kt : ¬ x = y → Vg X Q G F nL n cf cells slots tgt loc st) (kf : x = y → Vg X Q G F nL n cf cells slots (pc + 3) loc st) : Vg X Q G F nL n cf cells slots pc loc (.int y :: .int x :: st) := fun H locs ls a1 a2 a3 a4 => lv_icmp_ne h.1 h.2.1 d ht (fun c => kt c H locs ls a1 a2 a3 a4) (fun c => kf c H locs ls a1 a2 a3 a4)
theorem g_icmp_lt (h : Cx X G F nL cc own ret) {x y : Int32} {off : Int} {tgt : Nat} (d : decode cc pc = .ok (.if_icmp .lt off, 3)) (ht : (pc : Int) + off = (tgt : Int)) (kt : x < y → Vg X Q G F nL n cf cells slots tgt loc st) (kf : ¬ x < y → Vg X Q G F nL n cf cells slots (pc + 3) loc st) : Vg X Q G F nL n cf cells slots pc loc (.int y :: .int x :: st) := fun H locs ls a1 a2 a3 a4 => lv_icmp_lt h.1 h.2.1 d ht (fun c => kt c H locs ls a1 a2 a3 a4) (fun c => kf c H locs ls a1 a2 a3 a4)
theorem g_icmp_ge (h : Cx X G F nL cc own ret) {x y : Int32} {off : Int} {tgt : Nat} (d : decode cc pc = .ok (.if_icmp .ge off, 3)) (ht : (pc : Int) + off = (tgt : Int)) (kt : y ≤ x → Vg X Q G F nL n cf cells slots tgt loc st) (kf : ¬ y ≤ x → Vg X Q G F nL n cf cells slots (pc + 3) loc st) : Vg X Q G F nL n cf cells slots pc loc (.int y :: .int x :: st) := fun H locs ls a1 a2 a3 a4 => lv_icmp_ge h.1 h.2.1 d ht (fun c => kt c H locs ls a1 a2 a3 a4) (fun c => kf c H locs ls a1 a2 a3 a4)
theorem g_icmp_gt (h : Cx X G F nL cc own ret) {x y : Int32} {off : Int} {tgt : Nat} (d : decode cc pc = .ok (.if_icmp .gt off, 3)) (ht : (pc : Int) + off = (tgt : Int)) (kt : y < x → Vg X Q G F nL n cf cells slots tgt loc st) (kf : ¬ y < x → Vg X Q G F nL n cf cells slots (pc + 3) loc st) : Vg X Q G F nL n cf cells slots pc loc (.int y :: .int x :: st) := fun H locs ls a1 a2 a3 a4 => lv_icmp_gt h.1 h.2.1 d ht (fun c => kt c H locs ls a1 a2 a3 a4) (fun c => kf c H locs ls a1 a2 a3 a4)
theorem g_icmp_le (h : Cx X G F nL cc own ret) {x y : Int32} {off : Int} {tgt : Nat} (d : decode cc pc = .ok (.if_icmp .le off, 3)) (ht : (pc : Int) + off = (tgt : Int)) (kt : x ≤ y → Vg X Q G F nL n cf cells slots tgt loc st) (kf : ¬ x ≤ y → Vg X Q G F nL n cf cells slots (pc + 3) loc st) : Vg X Q G F nL n cf cells slots pc loc (.int y :: .int x :: st) := fun H locs ls a1 a2 a3 a4 => lv_icmp_le h.1 h.2.1 d ht (fun c => kt c H locs ls a1 a2 a3 a4) (fun c => kf c H locs ls a1 a2 a3 a4)
theorem g_goto (h : Cx X G F nL cc own ret) {off : Int} {tgt : Nat} (d : decode cc pc = .ok (.goto off, 3)) (ht : (pc : Int) + off = (tgt : Int)) (kk : Vg X Q G F nL n cf cells slots tgt loc st) : Vg X Q G F nL n cf cells slots pc loc st := fun H locs ls a1 a2 a3 a4 => lv_goto h.1 h.2.1 d ht (kk H locs ls a1 a2 a3 a4)
theorem g_ifnull (h : Cx X G F nL cc own ret) {off : Int} {x : Nat} (d : decode cc pc = .ok (.ifnull off, 3)) (kk : Vg X Q G F nL n cf cells slots (pc + 3) loc st) : Vg X Q G F nL n cf cells slots pc loc (.ref x :: st) := fun H locs ls a1 a2 a3 a4 => lv_ifnull h.1 h.2.1 d (kk H locs ls a1 a2 a3 a4)
theorem g_ifnullN (h : Cx X G F nL cc own ret) {off : Int} {tgt : Nat} (d : decode cc pc = .ok (.ifnull off, 3)) (ht : (pc : Int) + off = (tgt : Int)) (kk : Vg X Q G F nL n cf cells slots tgt loc st) : Vg X Q G F nL n cf cells slots pc loc (.null :: st) := fun H locs ls a1 a2 a3 a4 => lv_ifnullN h.1 h.2.1 d ht (kk H locs ls a1 a2 a3 a4)
theorem g_ifnonnull (h : Cx X G F nL cc own ret) {off : Int} {tgt x : Nat} (d : decode cc pc = .ok (.ifnonnull off, 3)) (ht : (pc : Int) + off = (tgt : Int)) (kk : Vg X Q G F nL n cf cells slots tgt loc st) : Vg X Q G F nL n cf cells slots pc loc (.ref x :: st) := fun H locs ls a1 a2 a3 a4 => lv_ifnonnull h.1 h.2.1 d ht (kk H locs ls a1 a2 a3 a4)
theorem g_ifnonnullN (h : Cx X G F nL cc own ret) {off : Int} (d : decode cc pc = .ok (.ifnonnull off, 3)) (kk : Vg X Q G F nL n cf cells slots (pc + 3) loc st) : Vg X Q G F nL n cf cells slots pc loc (.null :: st) := fun H locs ls a1 a2 a3 a4 => lv_ifnonnullN h.1 h.2.1 d (kk H locs ls a1 a2 a3 a4)
theorem g_tableIn (h : Cx X G F nL cc own ret) {dflt lo hi : Int} {offs : Array Int} {len : Nat} {x : Int32} {off : Int} {tgt : Nat} (d : decode cc pc = .ok (.tableswitch dflt lo hi offs, len)) (h1 : ¬ x.toInt < lo) (h2 : ¬ hi < x.toInt) (ho : offs[(x.toInt - lo).toNat]? = some off) (ht : (pc : Int) + off = (tgt : Int)) (kk : Vg X Q G F nL n cf cells slots tgt loc st) : Vg X Q G F nL n cf cells slots pc loc (.int x :: st) := fun H locs ls a1 a2 a3 a4 => lv_tableIn h.1 h.2.1 d h1 h2 ho ht (kk H locs ls a1 a2 a3 a4)
theorem g_tableOut (h : Cx X G F nL cc own ret) {dflt lo hi : Int} {offs : Array Int} {len : Nat} {x : Int32} {tgt : Nat} (d : decode cc pc = .ok (.tableswitch dflt lo hi offs, len)) (h1 : x.toInt < lo ∨ hi < x.toInt) (ht : (pc : Int) + dflt = (tgt : Int)) (kk : Vg X Q G F nL n cf cells slots tgt loc st) : Vg X Q G F nL n cf cells slots pc loc (.int x :: st) := fun H locs ls a1 a2 a3 a4 => lv_tableOut h.1 h.2.1 d h1 ht (kk H locs ls a1 a2 a3 a4)
theorem g_lookup (h : Cx X G F nL cc own ret) {dflt : Int} {ps : Array (Int × Int)} {len : Nat} {x : Int32} {off : Int} {tgt : Nat} (d : decode cc pc = .ok (.lookupswitch dflt ps, len)) (hp : (ps.toList.zip (ps.toList.drop 1)).all (fun (a, next) => a.1 < next.1) = true) (ho : Op.lookupswitch.offset ps.toList dflt x.toInt = off) (ht : (pc : Int) + off = (tgt : Int)) (kk : Vg X Q G F nL n cf cells slots tgt loc st) : Vg X Q G F nL n cf cells slots pc loc (.int x :: st) := fun H locs ls a1 a2 a3 a4 => lv_lookup h.1 h.2.1 d hp ho ht (kk H locs ls a1 a2 a3 a4)
theorem g_ldc2 (h : Cx X G F nL cc own ret) {index : Nat} {v : Int64} (d : decode cc pc = .ok (.ldc2_w index, 3)) (hw : Cond.constantLong own index v ∈ Tg) (kk : Vg X Q G F nL n cf cells slots (pc + 3) loc (.long v :: st)) : Vg X Q G F nL n cf cells slots pc loc st := fun H locs ls a1 a2 a3 a4 => lv_ldc2 h.1 h.2.1 h.2.2.2.1 (h.2.2.2.2.1 _ hw) d (kk H locs ls a1 a2 a3 a4)
theorem g_name {x : Int32} (kk : ∀ y : Int32, y = x → Vg X Q G F nL n cf cells slots pc loc (.int y :: st)) : Vg X Q G F nL n cf cells slots pc loc (.int x :: st) := kk x rfl
theorem g_nameL {x : Int64} (kk : ∀ y : Int64, y = x → Vg X Q G F nL n cf cells slots pc loc (.long y :: st)) : Vg X Q G F nL n cf cells slots pc loc (.long x :: st) := kk x rfl
theorem g_loc {loc2 : List (Nat × Value)} (ks : List Nat) (hl : lv_pick loc ks = loc2) (kk : Vg X Q G F nL n cf cells slots pc loc2 st) : Vg X Q G F nL n cf cells slots pc loc st := fun H locs ls a1 a2 a3 a4 => kk H locs ls a1 a2 a3 (lv_sub a4 ks hl)
theorem g_eq {cf2 : Nat → va_E} {loc2 : List (Nat × Value)} {st2 : List Value} (e1 : cf = cf2) (e2 : loc = loc2) (e3 : st = st2) (kk : Vg X Q G F nL n cf2 cells slots pc loc2 st2) : Vg X Q G F nL n cf cells slots pc loc st := by
  subst e1; subst e2; subst e3; exact kk
theorem g_widen {c2 s2 : Nat} (h1 : cells ≤ c2) (h2 : slots ≤ s2) (kk : Vg X Q G F nL n cf c2 s2 pc loc st) : Vg X Q G F nL n cf cells slots pc loc st := fun H locs ls a1 a2 a3 a4 => W.widen h1 h2 (kk H locs ls a1 a2 a3 a4)
/-- a loop over j = 0 .. N: what holds at its head -/
theorem g_loop {hd : Nat} (N : Nat) (lc : Nat → List (Nat × Value)) (w : Nat → Nat → va_E) (hx : Vg X Q G F nL n (w N) cells slots hd (lc N) []) (hs : ∀ j, j < N → Vg X Q G F nL n (w (j + 1)) cells slots hd (lc (j + 1)) [] → Vg X Q G F nL n (w j) cells slots hd (lc j) []) : Vg X Q G F nL n (w 0) cells slots hd (lc 0) [] := by
  have key : ∀ k, k ≤ N → Vg X Q G F nL n (w (N - k)) cells slots hd (lc (N - k)) [] := by
    intro k
    induction k with
    | zero => intro _; exact hx
    | succ k ih =>
      intro hk
      have e : N - k = N - (k + 1) + 1 := by omega
      have h2 := ih (by omega)
      rw [e] at h2
      exact hs (N - (k + 1)) (by omega) h2
  have h0 := key N (Nat.le_refl N)
  rw [Nat.sub_self] at h0
  exact h0
theorem g_get (h : Cx X G F nL cc own ret) {k : Nat} {fs : List Value} {C : String} {T : u_T} {N ci index : Nat} {ref : String} {v : Value} (hk : k < n) (he : cf k = .inr (ci, fs)) (hc : fCl[ci]? = some (C, T, N)) (hin : ∀ w ∈ u_ws C T N, w ∈ Tg) (j : Nat) (hj : j < N) (hl : Cond.fieldLink own index ref (T j).2.1 (T j).2.2.1 ∈ Tg) (hs : (T j).1 = ref) (hv : fs[j]? = some v) (d : decode cc pc = .ok (.getfield index, 3)) (kk : Vg X Q G F nL n cf cells slots (pc + 3) loc (v :: st)) : Vg X Q G F nL n cf cells slots pc loc (.ref (F + k) :: st) := fun H locs ls a1 a2 a3 a4 =>
  va_get h.1 h.2.1 h.2.2.2.2.1 hin h.2.2.2.1 h.2.2.2.2.2.1 a2 k (wl_get hk he) hc j hj (h.2.2.2.2.1 _ hl) (by rw [hs]; exact fun _ z => z) hv d (kk H locs ls a1 a2 a3 a4)
theorem g_getN (h : Cx X G F nL cc own ret) {k : Nat} {fs : List Value} {C : String} {T : u_T} {N ci index : Nat} {ref host : String} {v : Value} (hk : k < n) (he : cf k = .inr (ci, fs)) (hc : fCl[ci]? = some (C, T, N)) (hin : ∀ w ∈ u_ws C T N, w ∈ Tg) (j : Nat) (hj : j < N) (hl : Cond.fieldLinkNest own index ref (T j).2.1 (T j).2.2.1 host ∈ Tn) (hs : (T j).1 = ref) (hv : fs[j]? = some v) (d : decode cc pc = .ok (.getfield index, 3)) (kk : Vg X Q G F nL n cf cells slots (pc + 3) loc (v :: st)) : Vg X Q G F nL n cf cells slots pc loc (.ref (F + k) :: st) := fun H locs ls a1 a2 a3 a4 =>
  va_getN h.1 h.2.1 h.2.2.2.2.1 hin h.2.2.2.1 h.2.2.2.2.2.1 a2 k (wl_get hk he) hc j hj (va_Nw.use rfl (h.2.2.2.2.2.2.2.1.1 _ hl)) (by rw [hs]; exact fun _ z => z) hv d (kk H locs ls a1 a2 a3 a4)
theorem va_S.h0 {F : Nat} {H0 H : Heap} {locs : List Loc} (hF : F ≤ H0.size) (h : va_S (fA F) H0 H locs) : ∀ q, H0.size ≤ q → fA F q := fun q hq => Nat.le_trans hF hq
theorem P_size {G : fG} {F n : Nat} {cf : Nat → va_E} {H H1 : Heap} {A : Nat → Prop} {locs locs1 : List Loc} (z : H1.size = H.size) (a : H.size = F + n) : H1.size = F + n := z.trans a

theorem g_put (h : Cx X G F nL cc own ret) {k : Nat} {fs : List Value} {C : String} {T : u_T} {N ci index : Nat} {ref : String} {v : Value} {ty : FieldType} (hk : k < n) (he : cf k = .inr (ci, fs)) (hc : fCl[ci]? = some (C, T, N)) (hin : ∀ w ∈ u_ws C T N, w ∈ Tg) (ty0 : Nat → FieldType) (hty : ∀ k, k < N → parseFieldDescriptor (T k).2.2.1 = some (ty0 k)) (hnm : ∀ a, a < N → ∀ b, b < N → a ≠ b → (T a).2.1 ≠ (T b).2.1) (j : Nat) (hj : j < N) (hl : Cond.fieldLink own index ref (T j).2.1 (T j).2.2.1 ∈ Tg) (hs : (T j).1 = ref) (hfin : (T j).2.2.2 = false) (hd : ty0 j = ty) (hn : narrow ty v = v) (hfit : fits ty v = true) (hlen : j < fs.length) (d : decode cc pc = .ok (.putfield index, 3)) (kk : Vg X Q G F nL n (va_up cf k (.inr (ci, fs.set j v))) cells slots (pc + 3) loc st) : Vg X Q G F nL n cf cells slots pc loc (v :: .ref (F + k) :: st) := by
  intro H locs ls a1 a2 a3 a4
  have hts := h.2.2.2.2.1
  have hK := h.2.2.2.2.2.1
  have hP := a2
  have hown := h.2.2.2.1
  have hap := va_apart (own := own) hts hin ty0 hty hnm hK hc
  obtain ⟨r, h1, cell, q1, q2, q3, q4⟩ := hP k _ (wl_get hk he)
  have hr : r = (C, T, N) := Option.some.inj (h1.symm.trans hc)
  subst hr
  obtain ⟨hS, hfc, kC, hkC, hkind⟩ := hK.1 ci _ hc
  obtain ⟨cg, kf, fi, f, hi, hsl⟩ := hS j hj
  have hlay := hts _ (hin _ (u_in_lay hj))
  unfold u_lay at hlay
  rw [if_neg (by rw [hfin]; decide)] at hlay
  have hst := (u_facts hfc hkC (u_lays hts hin hj) hi).1
  have h6 := u_store hfc hkC hkind hlay hi (by rw [hty j hj, hd]) hn hfit
  have hlk := hts _ hl
  rw [← hs] at hlk
  refine W.putK h.1 h.2.1 (f := f) ⟨hown, hlk, ⟨_, _, _, hi⟩, hst⟩ (by rw [q2]; exact h6) q1 q3 (by rw [hsl]; exact k2_hasslot (q4 j hj)) rfl rfl d fun H' e1 e2 e3 => ?_
  rw [hsl] at e1 ⊢
  refine kk H' _ _ (e2.trans a1) ?_ (a3.put e2 e3 (Nat.le_add_right F k)) a4
  rw [← wl_set]
  exact hP.set (wl_D F n cf) (wl_get hk he) ⟨_, hc, t_OB.to (V := updV (vp_V fs) j v) ⟨_, e1, q2, q3, t_set q4 hap hj v⟩ (fun i _ => vp_updV_set hlen v i)⟩ e3
theorem g_putN (h : Cx X G F nL cc own ret) {k : Nat} {fs : List Value} {C : String} {T : u_T} {N ci index : Nat} {ref host : String} {v : Value} {ty : FieldType} (hk : k < n) (he : cf k = .inr (ci, fs)) (hc : fCl[ci]? = some (C, T, N)) (hin : ∀ w ∈ u_ws C T N, w ∈ Tg) (ty0 : Nat → FieldType) (hty : ∀ k, k < N → parseFieldDescriptor (T k).2.2.1 = some (ty0 k)) (hnm : ∀ a, a < N → ∀ b, b < N → a ≠ b → (T a).2.1 ≠ (T b).2.1) (j : Nat) (hj : j < N) (hl : Cond.fieldLinkNest own index ref (T j).2.1 (T j).2.2.1 host ∈ Tn) (hs : (T j).1 = ref) (hfin : (T j).2.2.2 = false) (hd : ty0 j = ty) (hn : narrow ty v = v) (hfit : fits ty v = true) (hlen : j < fs.length) (d : decode cc pc = .ok (.putfield index, 3)) (kk : Vg X Q G F nL n (va_up cf k (.inr (ci, fs.set j v))) cells slots (pc + 3) loc st) : Vg X Q G F nL n cf cells slots pc loc (v :: .ref (F + k) :: st) := by
  intro H locs ls a1 a2 a3 a4
  have hts := h.2.2.2.2.1
  have hK := h.2.2.2.2.2.1
  have hP := a2
  have hown := h.2.2.2.1
  have hap := va_apart (own := own) hts hin ty0 hty hnm hK hc
  obtain ⟨r, h1, cell, q1, q2, q3, q4⟩ := hP k _ (wl_get hk he)
  have hr : r = (C, T, N) := Option.some.inj (h1.symm.trans hc)
  subst hr
  obtain ⟨hS, hfc, kC, hkC, hkind⟩ := hK.1 ci _ hc
  obtain ⟨cg, kf, fi, f, hi, hsl⟩ := hS j hj
  have hlay := hts _ (hin _ (u_in_lay hj))
  unfold u_lay at hlay
  rw [if_neg (by rw [hfin]; decide)] at hlay
  have hst := (u_facts hfc hkC (u_lays hts hin hj) hi).1
  have h6 := u_store hfc hkC hkind hlay hi (by rw [hty j hj, hd]) hn hfit
  have hlk := h.2.2.2.2.2.2.2.1.1 _ hl
  rw [← hs] at hlk
  refine va_WputK h.1 h.2.1 (f := f) hown (va_Nw.use rfl hlk) hi hst (by rw [q2]; exact h6) q1 q3 (by rw [hsl]; exact k2_hasslot (q4 j hj)) rfl rfl d fun H' e1 e2 e3 => ?_
  rw [hsl] at e1 ⊢
  refine kk H' _ _ (e2.trans a1) ?_ (a3.put e2 e3 (Nat.le_add_right F k)) a4
  rw [← wl_set]
  exact hP.set (wl_D F n cf) (wl_get hk he) ⟨_, hc, t_OB.to (V := updV (vp_V fs) j v) ⟨_, e1, q2, q3, t_set q4 hap hj v⟩ (fun i _ => vp_updV_set hlen v i)⟩ e3
theorem g_putF (h : Cx X G F nL cc own ret) {k : Nat} {fs : List Value} {C : String} {T : u_T} {N ci index : Nat} {ref : String} {v : Value} {ty : FieldType} (hk : k < n) (he : cf k = .inr (ci, fs)) (hc : fCl[ci]? = some (C, T, N)) (hin : ∀ w ∈ u_ws C T N, w ∈ Tg) (ty0 : Nat → FieldType) (hty : ∀ k, k < N → parseFieldDescriptor (T k).2.2.1 = some (ty0 k)) (hnm : ∀ a, a < N → ∀ b, b < N → a ≠ b → (T a).2.1 ≠ (T b).2.1) (j : Nat) (hj : j < N) (hl : Cond.fieldLink own index ref (T j).2.1 (T j).2.2.1 ∈ Tg) (hs : (T j).1 = ref) (hown1 : (T j).1 = own) (hfin : (T j).2.2.2 = true) (hin2 : (xh X).name = "<init>") (hd : ty0 j = ty) (hn : narrow ty v = v) (hfit : fits ty v = true) (hlen : j < fs.length) (d : decode cc pc = .ok (.putfield index, 3)) (kk : Vg X Q G F nL n (va_up cf k (.inr (ci, fs.set j v))) cells slots (pc + 3) loc st) : Vg X Q G F nL n cf cells slots pc loc (v :: .ref (F + k) :: st) := by
  intro H locs ls a1 a2 a3 a4
  have hts := h.2.2.2.2.1
  have hK := h.2.2.2.2.2.1
  have hP := a2
  have hown := h.2.2.2.1
  have hap := va_apart (own := own) hts hin ty0 hty hnm hK hc
  obtain ⟨r, h1, cell, q1, q2, q3, q4⟩ := hP k _ (wl_get hk he)
  have hr : r = (C, T, N) := Option.some.inj (h1.symm.trans hc)
  subst hr
  obtain ⟨hS, hfc, kC, hkC, hkind⟩ := hK.1 ci _ hc
  obtain ⟨cg, kf, fi, f, hi, hsl⟩ := hS j hj
  have hlay := hts _ (hin _ (u_in_lay hj))
  unfold u_lay at hlay
  rw [if_pos hfin] at hlay
  have hst := (u_facts hfc hkC (u_lays hts hin hj) hi).1
  have hcf : (xm X).cls = cg := by
    obtain ⟨_, _, c', _, _, _, -, -, hf', -, -, -, hown2, -⟩ := Cond.laysFinal_spec hlay
    have e1 : c' = cg := by have := hi.symm.trans hf'; simp at this; exact this.1.symm
    rw [hown1] at hown2
    rw [← e1]; exact Option.some.inj (hown.symm.trans hown2)
  have h6 := u_fits hfc hkC hkind (Or.inr hlay) hi (by rw [hty j hj, hd]) hn hfit
  have hlk := hts _ hl
  rw [← hs] at hlk
  refine W.putFinK h.1 h.2.1 hown hlk hi hst hcf hin2 (by rw [q2]; exact h6) q1 q3 (by rw [hsl]; exact k2_hasslot (q4 j hj)) rfl rfl d fun H' e1 e2 e3 => ?_
  rw [hsl] at e1 ⊢
  refine kk H' _ _ (e2.trans a1) ?_ (a3.put e2 e3 (Nat.le_add_right F k)) a4
  rw [← wl_set]
  exact hP.set (wl_D F n cf) (wl_get hk he) ⟨_, hc, t_OB.to (V := updV (vp_V fs) j v) ⟨_, e1, q2, q3, t_set q4 hap hj v⟩ (fun i _ => vp_updV_set hlen v i)⟩ e3
theorem g_iald (h : Cx X G F nL cc own ret) {k N : Nat} {f : Nat → Int32} {i : Int32} (hk : k < n) (he : cf k = .inl (G.2.2.1 0, N, .inl f)) (hi : vp_in i N) (d : decode cc pc = .ok (.iaload, 1)) (kk : Vg X Q G F nL n cf cells slots (pc + 1) loc (.int (f i.toNatClampNeg) :: st)) : Vg X Q G F nL n cf cells slots pc loc (.int i :: .ref (F + k) :: st) := fun H locs ls a1 a2 a3 a4 => va_iald h.1 h.2.1 h.2.2.2.2.2.1 a2 k 0 (wl_get hk he) rfl hi d (kk H locs ls a1 a2 a3 a4)
theorem g_zald (h : Cx X G F nL cc own ret) {k N : Nat} {f : Nat → Int32} {i : Int32} (hk : k < n) (he : cf k = .inl (G.2.2.1 1, N, .inl f)) (hi : vp_in i N) (d : decode cc pc = .ok (.baload, 1)) (kk : Vg X Q G F nL n cf cells slots (pc + 1) loc (.int (f i.toNatClampNeg) :: st)) : Vg X Q G F nL n cf cells slots pc loc (.int i :: .ref (F + k) :: st) := fun H locs ls a1 a2 a3 a4 => va_zald h.1 h.2.1 h.2.2.2.2.2.1 a2 k 1 (wl_get hk he) rfl hi d (kk H locs ls a1 a2 a3 a4)
theorem g_cald (h : Cx X G F nL cc own ret) {k N : Nat} {f : Nat → Int32} {i : Int32} (hk : k < n) (he : cf k = .inl (G.2.2.1 2, N, .inl f)) (hi : vp_in i N) (d : decode cc pc = .ok (.caload, 1)) (kk : Vg X Q G F nL n cf cells slots (pc + 1) loc (.int (f i.toNatClampNeg) :: st)) : Vg X Q G F nL n cf cells slots pc loc (.int i :: .ref (F + k) :: st) := fun H locs ls a1 a2 a3 a4 => va_cald h.1 h.2.1 h.2.2.2.2.2.1 a2 k 2 (wl_get hk he) rfl hi d (kk H locs ls a1 a2 a3 a4)
theorem g_iast (h : Cx X G F nL cc own ret) {k N : Nat} {f : Nat → Int32} {i x : Int32} (hk : k < n) (he : cf k = .inl (G.2.2.1 0, N, .inl f)) (hi : vp_in i N) (d : decode cc pc = .ok (.iastore, 1)) (kk : Vg X Q G F nL n (va_up cf k (.inl (G.2.2.1 0, N, .inl (upd f i.toNatClampNeg x)))) cells slots (pc + 1) loc st) : Vg X Q G F nL n cf cells slots pc loc (.int x :: .int i :: .ref (F + k) :: st) := by
  intro H locs ls a1 a2 a3 a4
  refine W.iast h.1 h.2.1 (a2 k _ (wl_get hk he)) ((h.2.2.2.2.2.1.2 0 _ rfl).1 N (fun j => .int (f j))) (fun q => by cases q) (by show ¬ (i < 0 ∨ (arrV _ _ _).slots.size ≤ _); rw [arrV_size]; exact hi) rfl rfl d fun H1 e z oq => ?_
  refine kk H1 _ _ (z.trans a1) ?_ (a3.put z oq (Nat.le_add_right F k)) a4
  rw [← wl_set]
  refine a2.set (wl_D F n cf) (wl_get hk he) ?_ oq
  show H1[F + k]? = some (vp_cell _ _)
  rw [e]
  rw [vp_cell_i, vp_cell_i, arrV_store]
  congr 2
  funext q
  by_cases hq : q = i.toNatClampNeg
  · subst hq
    simp [updV, upd]
  · simp [updV, upd, hq]
theorem g_zast (h : Cx X G F nL cc own ret) {k N : Nat} {f : Nat → Int32} {i x : Int32} (hk : k < n) (he : cf k = .inl (G.2.2.1 1, N, .inl f)) (hi : vp_in i N) (d : decode cc pc = .ok (.bastore, 1)) (kk : Vg X Q G F nL n (va_up cf k (.inl (G.2.2.1 1, N, .inl (upd f i.toNatClampNeg (vp_nar .boolean x))))) cells slots (pc + 1) loc st) : Vg X Q G F nL n cf cells slots pc loc (.int x :: .int i :: .ref (F + k) :: st) := by
  intro H locs ls a1 a2 a3 a4
  refine W.zast h.1 h.2.1 (a2 k _ (wl_get hk he)) ((h.2.2.2.2.2.1.2 1 _ rfl).1 N (fun j => .int (f j))) (fun q => by cases q) (by show ¬ (i < 0 ∨ (arrV _ _ _).slots.size ≤ _); rw [arrV_size]; exact hi) rfl rfl d fun H1 e z oq => ?_
  refine kk H1 _ _ (z.trans a1) ?_ (a3.put z oq (Nat.le_add_right F k)) a4
  rw [← wl_set]
  refine a2.set (wl_D F n cf) (wl_get hk he) ?_ oq
  show H1[F + k]? = some (vp_cell _ _)
  rw [e]
  rw [vp_cell_i, vp_cell_i, arrV_store]
  congr 2
  funext q
  by_cases hq : q = i.toNatClampNeg
  · subst hq
    simp [updV, upd, vp_nar, narrow]
  · simp [updV, upd, hq]
theorem g_cast (h : Cx X G F nL cc own ret) {k N : Nat} {f : Nat → Int32} {i x : Int32} (hk : k < n) (he : cf k = .inl (G.2.2.1 2, N, .inl f)) (hi : vp_in i N) (d : decode cc pc = .ok (.castore, 1)) (kk : Vg X Q G F nL n (va_up cf k (.inl (G.2.2.1 2, N, .inl (upd f i.toNatClampNeg (vp_nar .char x))))) cells slots (pc + 1) loc st) : Vg X Q G F nL n cf cells slots pc loc (.int x :: .int i :: .ref (F + k) :: st) := by
  intro H locs ls a1 a2 a3 a4
  refine W.cast h.1 h.2.1 (a2 k _ (wl_get hk he)) ((h.2.2.2.2.2.1.2 2 _ rfl).1 N (fun j => .int (f j))) (fun q => by cases q) (by show ¬ (i < 0 ∨ (arrV _ _ _).slots.size ≤ _); rw [arrV_size]; exact hi) rfl rfl d fun H1 e z oq => ?_
  refine kk H1 _ _ (z.trans a1) ?_ (a3.put z oq (Nat.le_add_right F k)) a4
  rw [← wl_set]
  refine a2.set (wl_D F n cf) (wl_get hk he) ?_ oq
  show H1[F + k]? = some (vp_cell _ _)
  rw [e]
  rw [vp_cell_i, vp_cell_i, arrV_store]
  congr 2
  funext q
  by_cases hq : q = i.toNatClampNeg
  · subst hq
    simp [updV, upd, vp_nar, narrow]
  · simp [updV, upd, hq]
theorem g_alen (h : Cx X G F nL cc own ret) {k ti : Nat} {cA : ClassId} {x : vp_A} {ty : FieldType} {v : Int32} (hk : k < n) (he : cf k = .inl (cA, x)) (ht : (fTy G)[ti]? = some (cA, ty)) (hv : Int32.ofNat x.1 = v) (d : decode cc pc = .ok (.arraylength, 1)) (kk : Vg X Q G F nL n cf cells slots (pc + 1) loc (.int v :: st)) : Vg X Q G F nL n cf cells slots pc loc (.ref (F + k) :: st) := fun H locs ls a1 a2 a3 a4 => va_alen h.1 h.2.1 h.2.2.2.2.2.1 a2 k ti (wl_get hk he) ht hv d (kk H locs ls a1 a2 a3 a4)
theorem g_aald (h : Cx X G F nL cc own ret) {k N : Nat} {ti : Nat} {C : String} {f : Nat → Option Nat} {i : Int32} {v : Value} (ht : (fTy G)[ti]? = some (G.2.2.1 ti, .object C)) (hk : k < n) (he : cf k = .inl (G.2.2.1 ti, N, .inr (.inr (.inr (.inr f))))) (hi : vp_in i N) (hv : va_rf (f i.toNatClampNeg) = v) (d : decode cc pc = .ok (.aaload, 1)) (kk : Vg X Q G F nL n cf cells slots (pc + 1) loc (v :: st)) : Vg X Q G F nL n cf cells slots pc loc (.int i :: .ref (F + k) :: st) := by
  subst hv
  exact fun H locs ls a1 a2 a3 a4 => va_aldq h.1 h.2.1 h.2.2.2.2.2.1 a2 k ti (wl_get hk he) ht hi d (kk H locs ls a1 a2 a3 a4)
theorem g_aast (h : Cx X G F nL cc own ret) {k N b : Nat} {ti ci : Nat} {r : vw_C} {vs : List Value} {f : Nat → Option Nat} {i : Int32} (ht : (fTy G)[ti]? = some (G.2.2.1 ti, .object r.1)) (hc : fCl[ci]? = some r) (hk : k < n) (he : cf k = .inl (G.2.2.1 ti, N, .inr (.inr (.inr (.inr f))))) (hb : b < n) (hbe : cf b = .inr (ci, vs)) (hi : vp_in i N) (d : decode cc pc = .ok (.aastore, 1)) (kk : Vg X Q G F nL n (va_up cf k (.inl (G.2.2.1 ti, N, .inr (.inr (.inr (.inr (va_up f i.toNatClampNeg (some (F + b))))))))) cells slots (pc + 1) loc st) : Vg X Q G F nL n cf cells slots pc loc (.ref (F + b) :: .int i :: .ref (F + k) :: st) := by
  intro H locs ls a1 a2 a3 a4
  have hK := h.2.2.2.2.2.1
  have hP := a2
  have hlt : i.toNatClampNeg < N := Nat.not_le.mp fun q => hi (Or.inr q)
  have h0 : ¬ i < 0 := fun q => hi (Or.inl q)
  obtain ⟨r', hr', cellV, g1, g2, g3, -⟩ := hP b _ (wl_get hb hbe)
  have hcls := (hK.1 ci r hc).2
  obtain ⟨kA, comp, k1, k2, k3, -⟩ := (hK.2 ti _ ht).2
  have hcomp : comp = (fD G).1 ci := Option.some.inj (k3.symm.trans hcls.1)
  subst hcomp
  obtain ⟨kC, hkC, -⟩ := hcls.2
  refine W.aast h.1 h.2.1 (hP k _ (wl_get hk he)) (fun q h => by cases h) (fun h => by cases h) k1 k2 rfl hkC ⟨h0, by show _ < (arrV _ _ _).slots.size; rw [arrV_size]; exact hlt⟩ g1 (fun q h => by rw [g3] at h; cases h) (by rw [g2]; exact hkC) (by rw [g2]; exact va_assign hcls) rfl rfl d fun H1 e z oq => ?_
  refine kk H1 _ _ (z.trans a1) ?_ (a3.put z oq (Nat.le_add_right F k)) a4
  rw [← wl_set]
  refine hP.set (wl_D F n cf) (wl_get hk he) ?_ oq
  show H1[F + k]? = some (vp_cell _ _)
  rw [e]
  rw [vp_cell_q, vp_cell_q, arrV_store]
  congr 2
  funext q
  by_cases hq : q = i.toNatClampNeg
  · subst hq
    simp [updV, va_up, va_rf]
  · simp [updV, va_up, hq]
theorem g_copyC (h : Cx X G F nL cc own ret) {a0 k1 n0 n1 index : Nat} {f g : Nat → Int32} {sp dp m : Int32} (hsrc : ∀ (H : Heap) (locs : List Loc), H.size = F + n → va_P (fD G) fCl (wl F n cf) H → va_S (fA F) (xs X).heap H locs → ∃ (cs : Cell) (ks : Class) (sc : ClassId), H[a0]? = some cs ∧ (∀ k, cs.vm ≠ .statics k) ∧ cs.vm ≠ .unknown ∧ (xs X).vm.classes[cs.cls]? = some ks ∧ ks.kind = .array sc .int ∧ n0 ≤ cs.slots.size ∧ ∀ j : Nat, j < n0 → cs.slots[j]? = some (.int (f j))) (hk1 : k1 < n) (he1 : cf k1 = .inl (G.2.2.1 0, n1, .inl g)) (h1 : ¬ sp < 0) (h2 : ¬ dp < 0) (h3 : ¬ m < 0) (h4 : sp.toNatClampNeg + m.toNatClampNeg ≤ n0) (h5 : dp.toNatClampNeg + m.toNatClampNeg ≤ n1) (hl : Cond.methodLink own index arraycopyName ∈ Tg) (hnat : Cond.native arraycopyName ∈ Tg) (hsta : Cond.static arraycopyName ∈ Tg) (hini : Cond.initialized "java/lang/System" ∈ Tg) (hfr : 1 ≤ (xR X).frames) (hlo : (st.map fun v => v.category).sum + (nativeFrameWords "java/lang/System" "arraycopy" 5 + 11) ≤ (xR X).locals) (d : decode cc pc = .ok (.invokestatic index, 3)) (kk : Vg X Q G F nL n (va_up cf k1 (.inl (G.2.2.1 0, n1, .inl (va_cpy f g sp.toNatClampNeg dp.toNatClampNeg m.toNatClampNeg)))) cells slots (pc + 3) loc st) : Vg X Q G F nL n cf cells slots pc loc (.int m :: .int dp :: .ref (F + k1) :: .int sp :: .ref a0 :: st) := by
  have nn : ∀ z : Int32, ¬ z < 0 → z.toInt = (z.toNatClampNeg : Int) := by
    intro z hz
    have hz0 : (0 : Int) ≤ z.toInt := by
      have := Int32.not_lt.mp hz
      simpa using Int32.le_iff_toInt_le.mp this
    show z.toInt = ((z.toInt.toNat : Nat) : Int)
    omega
  intro H locs ls a1 a2 a3 a4
  have hts := h.2.2.2.2.1
  have hsz : (xc X).maxLocals = ls.size := h.2.2.1.trans a4.1.symm
  obtain ⟨cs, ks, sc, hc0, v1, v2, hk0, hkk0, hsl, hval⟩ := hsrc H locs a1 a2 a3
  intro T hT S
  have hc1 : H[F + k1]? = some (vp_cell (G.2.2.1 0) (n1, .inl g)) := a2 k1 _ (wl_get hk1 he1)
  obtain ⟨-, kd, hkd, cmd, hkkd⟩ := (h.2.2.2.2.2.1.2 0 _ rfl).1 n1 (fun j => .int (g j))
  have hget : ∀ i, i < m.toNatClampNeg → cs.slots.getD (sp.toNatClampNeg + i) .null = .int (f (sp.toNatClampNeg + i)) := by
    intro i hi
    rw [Array.getD_eq_getD_getElem?, hval _ (by omega)]
    rfl
  obtain ⟨vm', X', step⟩ := S.arraycopy h.1 h.2.2.2.1 (hts _ hl) (hts _ hnat) (hts _ hsta) (hts _ hini) (src := a0) (dst := F + k1) (cs := cs) (cd := vp_cell (G.2.2.1 0) (n1, .inl g)) (srcPos := sp) (destPos := dp) (n := m) (by rw [hT]; exact hc0) (by rw [hT]; exact hc1)
    v1 (fun _ h => by cases h) v2 (fun h => by cases h) hk0 hkd hkk0 hkkd rfl h1 h2 h3
    (by rw [nn sp h1, nn m h3]; omega)
    (by rw [nn dp h2, nn m h3]; show ¬ _ > ((arrV (G.2.2.1 0) n1 (fun j => .int (g j))).slots.size : Int); rw [arrV_size]; omega)
    (fun vm₁ _ i hi => by
      rw [hget i hi]
      exact ⟨rfl, trivial⟩)
    (g := F0 (xm X) pc ls (.int m :: .int dp :: .ref (F + k1) :: .int sp :: .ref a0 :: st)) rfl (by rw [hsz]) (rest := st) rfl (by rw [h.2.1]; exact d) hfr (by show 2 * 0 + _ + _ ≤ _; omega)
  have es : cs.stretch sp.toNatClampNeg m.toNatClampNeg = (arrV (G.2.2.1 0) n0 (fun j => .int (f j))).stretch sp.toNatClampNeg m.toNatClampNeg := by
    unfold Cell.stretch
    apply List.map_congr_left
    intro i hi
    have hi' := List.mem_range.mp hi
    rw [hget i hi', Array.getD_eq_getD_getElem?, arrV_read _ _ (by omega)]
    rfl
  have e1 : copied cs (vp_cell (G.2.2.1 0) (n1, .inl g)) sp dp m = vp_cell (G.2.2.1 0) (n1, .inl (va_cpy f g sp.toNatClampNeg dp.toNatClampNeg m.toNatClampNeg)) := by
    show Cell.storeRun _ _ _ = _
    rw [es]
    exact va_copied (fun z => .int z) (G.2.2.1 0) (G.2.2.1 0) f g h4
  rw [e1] at X' step
  have hl : F + k1 < H.size := (Array.getElem?_eq_some_iff.mp hc1).1
  have hheap : ((T.setVm vm').setCell (F + k1) (vp_cell (G.2.2.1 0) (n1, .inl (va_cpy f g sp.toNatClampNeg dp.toNatClampNeg m.toNatClampNeg)))).heap = H.setIfInBounds (F + k1) (vp_cell (G.2.2.1 0) (n1, .inl (va_cpy f g sp.toNatClampNeg dp.toNatClampNeg m.toNatClampNeg))) := by rw [← hT]; rfl
  have oq : ∀ q : Nat, q ≠ F + k1 → (H.setIfInBounds (F + k1) (vp_cell (G.2.2.1 0) (n1, .inl (va_cpy f g sp.toNatClampNeg dp.toNatClampNeg m.toNatClampNeg))))[q]? = H[q]? := fun q hq => by simp [Array.getElem?_setIfInBounds, Ne.symm hq]
  have hAk : fA F (F + k1) := Nat.le_add_right F k1
  obtain ⟨t, b1, b2⟩ := kk _ _ ls (by rw [Array.size_setIfInBounds]; exact a1) (by rw [← wl_set]; exact a2.set (wl_D F n cf) (wl_get hk1 he1) (show (H.setIfInBounds (F + k1) _)[F + k1]? = some _ by simp [Array.getElem?_setIfInBounds, hl]) oq) ⟨by rw [Array.size_setIfInBounds]; exact a3.1, fun q g1 g2 => by
      rw [oq q (fun e => g2 (by rw [e]; exact hAk))]
      exact a3.2.1 q g1 g2, fun q hq => by
      rcases List.mem_append.mp hq with h | h
      · exact a3.2.2 q h
      · obtain ⟨z, -, hz⟩ := List.mem_map.mp h
        rw [← hz]
        exact hAk⟩ a4 _ hheap X'
  exact ⟨t, step t b1, b2⟩
theorem g_copy (h : Cx X G F nL cc own ret) {k0 k1 n0 n1 index : Nat} {f g : Nat → Int32} {sp dp m : Int32} (hk0 : k0 < n) (he0 : cf k0 = .inl (G.2.2.1 0, n0, .inl f)) (hk1 : k1 < n) (he1 : cf k1 = .inl (G.2.2.1 0, n1, .inl g)) (h1 : ¬ sp < 0) (h2 : ¬ dp < 0) (h3 : ¬ m < 0) (h4 : sp.toNatClampNeg + m.toNatClampNeg ≤ n0) (h5 : dp.toNatClampNeg + m.toNatClampNeg ≤ n1) (hl : Cond.methodLink own index arraycopyName ∈ Tg) (hnat : Cond.native arraycopyName ∈ Tg) (hsta : Cond.static arraycopyName ∈ Tg) (hini : Cond.initialized "java/lang/System" ∈ Tg) (hfr : 1 ≤ (xR X).frames) (hlo : (st.map fun v => v.category).sum + (nativeFrameWords "java/lang/System" "arraycopy" 5 + 11) ≤ (xR X).locals) (d : decode cc pc = .ok (.invokestatic index, 3)) (kk : Vg X Q G F nL n (va_up cf k1 (.inl (G.2.2.1 0, n1, .inl (va_cpy f g sp.toNatClampNeg dp.toNatClampNeg m.toNatClampNeg)))) cells slots (pc + 3) loc st) : Vg X Q G F nL n cf cells slots pc loc (.int m :: .int dp :: .ref (F + k1) :: .int sp :: .ref (F + k0) :: st) := by
  refine g_copyC (n0 := n0) (f := f) h (fun H locs a1 a2 a3 => ?_) hk1 he1 h1 h2 h3 h4 h5 hl hnat hsta hini hfr hlo d kk
  have hc0 : H[F + k0]? = some (vp_cell (G.2.2.1 0) (n0, .inl f)) := a2 k0 _ (wl_get hk0 he0)
  obtain ⟨w, kd, hkd, cmd, hkkd⟩ := (h.2.2.2.2.2.1.2 0 _ rfl).1 n0 (fun j => .int (f j))
  refine ⟨_, kd, cmd, hc0, (fun _ h => by cases h), (fun h => by cases h), hkd, hkkd, ?_, fun j hj => ?_⟩
  · show n0 ≤ (arrV (G.2.2.1 0) n0 (fun j => .int (f j))).slots.size
    rw [arrV_size]
    exact Nat.le_refl _
  · show (arrV (G.2.2.1 0) n0 (fun j => .int (f j))).slots[j]? = _
    rw [arrV_read _ _ hj]
/-- out of a static array -/
theorem g_copyS (h : Cx X G F nL cc own ret) {j k1 n1 index : Nat} {g : Nat → Int32} {sp dp m : Int32} (hj : j < 3) (hk1 : k1 < n) (he1 : cf k1 = .inl (G.2.2.1 0, n1, .inl g)) (h1 : ¬ sp < 0) (h2 : ¬ dp < 0) (h3 : ¬ m < 0) (h4 : sp.toNatClampNeg + m.toNatClampNeg ≤ 4) (h5 : dp.toNatClampNeg + m.toNatClampNeg ≤ n1) (hl : Cond.methodLink own index arraycopyName ∈ Tg) (hnat : Cond.native arraycopyName ∈ Tg) (hsta : Cond.static arraycopyName ∈ Tg) (hini : Cond.initialized "java/lang/System" ∈ Tg) (hfr : 1 ≤ (xR X).frames) (hlo : (st.map fun v => v.category).sum + (nativeFrameWords "java/lang/System" "arraycopy" 5 + 11) ≤ (xR X).locals) (d : decode cc pc = .ok (.invokestatic index, 3)) (kk : Vg X Q G F nL n (va_up cf k1 (.inl (G.2.2.1 0, n1, .inl (va_cpy (sV j) g sp.toNatClampNeg dp.toNatClampNeg m.toNatClampNeg)))) cells slots (pc + 3) loc st) : Vg X Q G F nL n cf cells slots pc loc (.int m :: .int dp :: .ref (F + k1) :: .int sp :: .ref (G.2.2.2 j) :: st) := by
  refine g_copyC (n0 := 4) (f := sV j) h (fun H locs a1 a2 a3 => ?_) hk1 he1 h1 h2 h3 h4 h5 hl hnat hsta hini hfr hlo d kk
  obtain ⟨cell, t1, t2, t3, t4, -, t6, t7⟩ := (h.2.2.2.2.2.2.1 j hj).2
  obtain ⟨v1, kd, hkd, cmd, hkkd⟩ := t2
  exact ⟨cell, kd, cmd, by rw [a3.2.1 _ (Array.getElem?_eq_some_iff.mp t1).1 t7]; exact t1, v1, t3, hkd, hkkd, t4, t6⟩
theorem g_mmin (h : Cx X G F nL cc own ret) {index : Nat} {x y : Int32} (hl : Cond.methodLink own index Lib.Math.min.name ∈ Tg) (hsta : Cond.static Lib.Math.min.name ∈ Tg) (hini : Cond.initialized "java/lang/Math" ∈ Tg) (hcode : Cond.code Lib.Math.min.name Lib.Math.min.code 2 (some .int) ∈ Tg) (hfr : 1 ≤ (xR X).frames) (hlo : (st.map fun v => v.category).sum + 13 ≤ (xR X).locals) (hc : cells ≤ (xR X).cells) (hs : slots ≤ (xR X).slots) (d : decode cc pc = .ok (.invokestatic index, 3)) (kk : Vg X Q G F nL n cf cells slots (pc + 3) loc (.int (if y < x then y else x) :: st)) : Vg X Q G F nL n cf cells slots pc loc (.int y :: .int x :: st) := fun H locs ls a1 a2 a3 a4 =>
  va_mmin h.1 h.2.1 (h.2.2.1.trans a4.1.symm) h.2.2.2.1 (h.2.2.2.2.1 _ hl) (h.2.2.2.2.1 _ hsta) (h.2.2.2.2.1 _ hini) (h.2.2.2.2.1 _ hcode) hfr hlo hc hs d (kk H locs ls a1 a2 a3 a4)
theorem g_objInit (h : Cx X G F nL cc own ret) {index a : Nat} (hl : Cond.methodLink own index Lib.objectInit ∈ Tg) (hi : Cond.instanceMethod Lib.objectInit ∈ Tg) (hcode : Cond.code Lib.objectInit ⟨#[0xb1]⟩ 1 none ∈ Tg) (hfr : 1 ≤ (xR X).frames) (hlo : (st.map fun v => v.category).sum + 12 ≤ (xR X).locals) (d : decode cc pc = .ok (.invokespecial index, 3)) (kk : Vg X Q G F nL n cf cells slots (pc + 3) loc st) : Vg X Q G F nL n cf cells slots pc loc (.ref a :: st) := fun H locs ls a1 a2 a3 a4 =>
  W.objInit h.1 h.2.1 h.2.2.2.1 (h.2.2.2.2.1 _ hl) (h.2.2.2.2.1 _ hi) (h.2.2.2.2.1 _ hcode) rfl (by rw [h.2.2.1]; exact a4.1) rfl d hfr (by show 2 * 0 + _ + _ ≤ _; omega) (kk H locs ls a1 a2 a3 a4)
/-- the static arrays -/
theorem g_gets (h : Cx X G F nL cc own ret) {index j : Nat} {nm : String} (hj : j < 3) (hs : sN j = nm) (hl : Cond.fieldLink own index RX7 nm "[I" ∈ Tg) (d : decode cc pc = .ok (.getstatic index, 3)) (kk : Vg X Q G F nL n cf cells slots (pc + 3) loc (.ref (G.2.2.2 j) :: st)) : Vg X Q G F nL n cf cells slots pc loc st := fun H locs ls a1 a2 a3 a4 =>
  va_gets h.1 h.2.1 (h.2.2.2.2.2.2.1 j hj).1 a3 h.2.2.2.1 (by rw [hs]; exact h.2.2.2.2.1 _ hl) (fun _ z => z) d (kk H locs ls a1 a2 a3 a4)
theorem g_getsN (h : Cx X G F nL cc own ret) {index j : Nat} {nm host : String} (hj : j < 3) (hs : sN j = nm) (hl : Cond.fieldLinkNest own index RX7 nm "[I" host ∈ Tn) (d : decode cc pc = .ok (.getstatic index, 3)) (kk : Vg X Q G F nL n cf cells slots (pc + 3) loc (.ref (G.2.2.2 j) :: st)) : Vg X Q G F nL n cf cells slots pc loc st := by
  intro H locs ls a1 a2 a3 a4
  obtain ⟨cg, kf, fi, f, a, cell, h1, h2, h3, h4, h5, h6, h7, h8⟩ := (h.2.2.2.2.2.2.1 j hj).1
  rw [hs] at h1
  exact va_WgetsN h.1 h.2.1 h.2.2.2.1 (va_Nw.use rfl (h.2.2.2.2.2.2.2.1.1 _ hl)) h1 h2 h3 h4 (by rw [a3.2.1 a (Array.getElem?_eq_some_iff.mp h5).1 h8]; exact h5) (fun e => by rw [e] at h6; cases h6) h7 rfl d (kk H locs ls a1 a2 a3 a4)
theorem g_sald (h : Cx X G F nL cc own ret) {j : Nat} {i : Int32} (hj : j < 3) (hi : vp_in i 4) (d : decode cc pc = .ok (.iaload, 1)) (kk : Vg X Q G F nL n cf cells slots (pc + 1) loc (.int (sV j i.toNatClampNeg) :: st)) : Vg X Q G F nL n cf cells slots pc loc (.int i :: .ref (G.2.2.2 j) :: st) := by
  intro H locs ls a1 a2 a3 a4
  obtain ⟨cell, h1, h2, h3, h4, h5, h6, h7⟩ := (h.2.2.2.2.2.2.1 j hj).2
  have hlt : i.toNatClampNeg < 4 := Nat.not_le.mp fun q => hi (Or.inr q)
  have hin' : ¬ (i < 0 ∨ cell.slots.size ≤ i.toNatClampNeg) := by
    intro q
    rcases q with q | q
    · exact hi (Or.inl q)
    · omega
  exact W.iald (v := .int (sV j i.toNatClampNeg)) h.1 h.2.1 (by rw [a3.2.1 _ (Array.getElem?_eq_some_iff.mp h1).1 h7]; exact h1) h2 h3 hin' (h6 _ hlt) rfl rfl d (kk H locs ls a1 a2 a3 a4)
theorem g_slen (h : Cx X G F nL cc own ret) {j : Nat} (hj : j < 3) (d : decode cc pc = .ok (.arraylength, 1)) (kk : Vg X Q G F nL n cf cells slots (pc + 1) loc (.int 4 :: st)) : Vg X Q G F nL n cf cells slots pc loc (.ref (G.2.2.2 j) :: st) := fun H locs ls a1 a2 a3 a4 =>
  va_tlen h.1 h.2.1 (h.2.2.2.2.2.2.1 j hj).2 a3 (v := 4) rfl d (kk H locs ls a1 a2 a3 a4)
/-- ends -/
theorem g_iret (h : Cx X G F nL cc own (some .int)) {post : Option Value → Nat → (Nat → va_E) → Prop} {v : Int32} (d : decode cc pc = .ok (.ireturn, 1)) (hp : post (some (.int v)) n cf) : Vg X (MQ (xb X) (fQ G F post) (xa X) (xs X) cells slots (fA F)) G F nL n cf cells slots pc loc [.int v] := fun H locs ls a1 a2 a3 a4 =>
  W.iret h.1 h.2.1 h.2.2.2.2.2.2.2.2.2.1 (fun t ht hW => ⟨⟨_, n, cf, rfl, hp, by rw [ht]; exact a1, by rw [ht]; exact a2⟩, a3.F ht⟩) a3.2.2 d h.2.2.2.2.2.2.2.2.2.2
theorem g_zret {ty : FieldType} (h : Cx X G F nL cc own (some ty)) {post : Option Value → Nat → (Nat → va_E) → Prop} {v : Int32} (hn : narrow ty (.int v) = .int v) (d : decode cc pc = .ok (.ireturn, 1)) (hp : post (some (.int v)) n cf) : Vg X (MQ (xb X) (fQ G F post) (xa X) (xs X) cells slots (fA F)) G F nL n cf cells slots pc loc [.int v] := fun H locs ls a1 a2 a3 a4 =>
  W.zret h.1 h.2.1 h.2.2.2.2.2.2.2.2.2.1 hn (fun t ht hW => ⟨⟨_, n, cf, rfl, hp, by rw [ht]; exact a1, by rw [ht]; exact a2⟩, a3.F ht⟩) a3.2.2 d h.2.2.2.2.2.2.2.2.2.2
theorem g_vret (h : Cx X G F nL cc own none) {post : Option Value → Nat → (Nat → va_E) → Prop} (d : decode cc pc = .ok (.return_, 1)) (hp : post none n cf) : Vg X (MQ (xb X) (fQ G F post) (xa X) (xs X) cells slots (fA F)) G F nL n cf cells slots pc loc [] := fun H locs ls a1 a2 a3 a4 =>
  W.vret h.1 h.2.1 h.2.2.2.2.2.2.2.2.2.1 (fun t ht hW => ⟨⟨_, n, cf, rfl, hp, by rw [ht]; exact a1, by rw [ht]; exact a2⟩, a3.F ht⟩) a3.2.2 d h.2.2.2.2.2.2.2.2.2.2
theorem g_aret {C : String} (h : Cx X G F nL cc own (some (.object C))) {post : Option Value → Nat → (Nat → va_E) → Prop} {v : Value} (hv : v = .null ∨ ∃ a, v = .ref a) (d : decode cc pc = .ok (.areturn, 1)) (hp : post (some v) n cf) : Vg X (MQ (xb X) (fQ G F post) (xa X) (xs X) cells slots (fA F)) G F nL n cf cells slots pc loc [v] := fun H locs ls a1 a2 a3 a4 =>
  W.aret h.1 h.2.1 h.2.2.2.2.2.2.2.2.2.1 (Or.inl ⟨_, rfl⟩) hv (fun t ht hW => ⟨⟨_, n, cf, rfl, hp, by rw [ht]; exact a1, by rw [ht]; exact a2⟩, a3.F ht⟩) a3.2.2 d h.2.2.2.2.2.2.2.2.2.2
/-- calls -/
theorem g_run {H : Heap} {locs : List Loc} {ls : Array Slot} {st0 : List Value} {post : Option Value → Nat → (Nat → va_E) → Prop} {mc ms : Nat} {a : Array Value} (hF : F ≤ (xs X).heap.size) (hr : va_Run (xp X) (xl X) (xe X) (xR X) (xs X) (xm X) (xa X) (xb X) (xh X) (xc X) H locs cells slots mc ms (F0 (xm X) pc ls st0) st (fQ G F post a) (fA F)) (a3 : va_S (fA F) (xs X).heap H locs) (a4 : lv_has ls nL loc) (kk : ∀ r n2 cf2, post r n2 cf2 → Vg X Q G F nL n2 cf2 (cells + mc) (slots + ms) (pc + 3) loc (r.toList ++ st)) : W (xp X) (xl X) (xe X) (xR X) (xs X) (xm X) (xa X) (xb X) (xh X) (xc X) H locs cells slots Q (F0 (xm X) pc ls st0) := by
  intro T hT S
  obtain ⟨v, st₀, t, T', L, h0, X', hL, e1, e2, ⟨⟨r, n2, cf2, hv, hp, hb⟩, hz, hk⟩, go⟩ := hr T hT S
  cases hv
  rw [h0] at hz hk
  obtain ⟨t2, b1, b2⟩ := kk v n2 cf2 hp T'.heap (locs ++ L) ls (by rw [e1]; exact hb.1) (by rw [e1]; exact hb.2)
    ⟨Nat.le_trans a3.1 (by rw [e1]; exact hz), fun q h1 h2 => by rw [e1, hk q (Nat.lt_of_lt_of_le h1 a3.1) h2]; exact a3.2.1 q h1 h2, fun q hq => by
      rcases List.mem_append.mp hq with h | h
      · exact a3.2.2 q h
      · exact hL q h⟩ a4 T' rfl X'
  exact ⟨t2, go t2 b1, b2⟩
theorem tg_V {C : String} {index : Nat} {y : MethodName} {bytes : ByteArray} {mL : Nat} {r : Option FieldType} (hc : Cond.code y bytes mL r ∈ Tg) (h1 : Cond.methodLink own index y ∈ Tg) (h2 : Cond.instanceMethod y ∈ Tg) (h3 : Cond.selects C y y ∈ Tg) (h4 : Cond.initialized C ∈ Tg) : GoodIn Tg (wsV own index C y (.code y bytes mL r :: Tg)) := by
  have g : ∀ w ∈ Tg, w ∈ Tg ∧ ((w.onTables && w.keeps) = true ∨ ∃ ty, w = .arrayClass ty) := fun w hw => ⟨hw, good_of_word (List.all_eq_true.mp tg_good _ hw)⟩
  intro w hw
  unfold wsV at hw
  rcases List.mem_append.mp hw with hw | hw
  · simp only [List.mem_cons, List.not_mem_nil, or_false] at hw
    rcases hw with rfl | rfl | rfl | rfl
    · exact g _ h1
    · exact g _ h2
    · exact g _ h3
    · exact g _ h4
  · exact tg_in hc w hw
theorem g_callV (h : Cx X G F nL cc own ret) {y : MethodName} {bytes : ByteArray} {mL np mc ms index k ci : Nat} {r2 : Option FieldType} {rm : Room} {post : Option Value → Nat → (Nat → va_E) → Prop} {C : String} {As : List Value} {fs : List Value} {st0 : List Value} (hM : Met (xl X) y (.code y bytes mL r2 :: Tg) rm (va_Pc (.ref (F + k) :: As) (fB G F n cf)) (fQ G F post) mc ms (fA F))
    (hst : st0 = As.reverse ++ .ref (F + k) :: st) (hk : k < n) (he : cf k = .inr (ci, fs)) (hci : (fCl[ci]?).map (fun q => q.1) = some C) (hc : Cond.code y bytes mL r2 ∈ Tg) (hl : Cond.methodLink own index y ∈ Tg) (hi : Cond.instanceMethod y ∈ Tg) (hse : Cond.selects C y y ∈ Tg) (hin : Cond.initialized C ∈ Tg) (hrc : rm.cells = mc) (hrs : rm.slots = ms) (hd : y.cls = C ∧ y.cls ≠ "java/lang/invoke/MethodHandle" ∧ y.cls ≠ "java/lang/invoke/VarHandle" ∧ (parseMethodDescriptor y.desc).map (fun d => d.parameters.length) = some np) (hn : As.length = np) (hR : rm.frames + 1 ≤ (xR X).frames ∧ 8 + (mL + 11) + rm.locals ≤ (xR X).locals) (hW : (st.map fun v => v.category).sum ≤ 8) (hf : cells + mc ≤ (xR X).cells ∧ slots + ms ≤ (xR X).slots) (d : decode cc pc = .ok (.invokevirtual index, 3))
    (kk : ∀ r n2 cf2, post r n2 cf2 → Vg X Q G F nL n2 cf2 (cells + mc) (slots + ms) (pc + 3) loc (r.toList ++ st)) : Vg X Q G F nL n cf cells slots pc loc st0 := by
  subst hst
  intro H locs ls a1 a2 a3 a4
  obtain ⟨q, hq, hq2⟩ : ∃ q, fCl[ci]? = some q ∧ q.1 = C := by
    cases hz : fCl[ci]? with
    | none => rw [hz] at hci; cases hci
    | some q => rw [hz] at hci; exact ⟨q, rfl, Option.some.inj hci⟩
  have hrecv := va_recv (s := xs X) h.2.2.2.2.2.1 a2 hq (wl_get hk he)
  rw [hq2] at hrecv
  exact g_run h.2.2.2.2.2.2.2.2.1 (va_runV (As := As) (rest := st) ⟨h.1, h.2.1, h.2.2.1, h.2.2.2.1, h.2.2.2.2.1⟩ hM (cwV np h.2.2.2.2.1 (tg_V hc hl hi hse hin) rfl hrc hrs hd hR) ⟨fB_blind, hrecv, fun U hU hW2 => ⟨rfl, fB_at h a1 a2 a3 U hU hW2⟩⟩ rfl hn a4.1 rfl (lv_room hW) d hf) a3 a4 kk
theorem g_callVN (h : Cx X G F nL cc own ret) {y : MethodName} {bytes : ByteArray} {mL np mc ms index k ci : Nat} {r2 : Option FieldType} {rm : Room} {post : Option Value → Nat → (Nat → va_E) → Prop} {C host : String} {As : List Value} {fs : List Value} {st0 : List Value} (hM : Met (xl X) y (.code y bytes mL r2 :: Tg) rm (va_Pc (.ref (F + k) :: As) (fB G F n cf)) (fQ G F post) mc ms (fA F))
    (hst : st0 = As.reverse ++ .ref (F + k) :: st) (hk : k < n) (he : cf k = .inr (ci, fs)) (hci : (fCl[ci]?).map (fun q => q.1) = some C) (hc : Cond.code y bytes mL r2 ∈ Tg) (hl : Cond.methodLinkNest own index y host ∈ Tn) (hi : Cond.instanceMethod y ∈ Tg) (hse : Cond.selects C y y ∈ Tg) (hin : Cond.initialized C ∈ Tg) (hrc : rm.cells = mc) (hrs : rm.slots = ms) (hd : y.cls = C ∧ y.cls ≠ "java/lang/invoke/MethodHandle" ∧ y.cls ≠ "java/lang/invoke/VarHandle" ∧ (parseMethodDescriptor y.desc).map (fun d => d.parameters.length) = some np) (hn : As.length = np) (hR : rm.frames + 1 ≤ (xR X).frames ∧ 8 + (mL + 11) + rm.locals ≤ (xR X).locals) (hW : (st.map fun v => v.category).sum ≤ 8) (hf : cells + mc ≤ (xR X).cells ∧ slots + ms ≤ (xR X).slots) (d : decode cc pc = .ok (.invokevirtual index, 3))
    (kk : ∀ r n2 cf2, post r n2 cf2 → Vg X Q G F nL n2 cf2 (cells + mc) (slots + ms) (pc + 3) loc (r.toList ++ st)) : Vg X Q G F nL n cf cells slots pc loc st0 := by
  subst hst
  intro H locs ls a1 a2 a3 a4
  obtain ⟨q, hq, hq2⟩ : ∃ q, fCl[ci]? = some q ∧ q.1 = C := by
    cases hz : fCl[ci]? with
    | none => rw [hz] at hci; cases hci
    | some q => rw [hz] at hci; exact ⟨q, rfl, Option.some.inj hci⟩
  have hrecv := va_recv (s := xs X) h.2.2.2.2.2.1 a2 hq (wl_get hk he)
  rw [hq2] at hrecv
  have hts := h.2.2.2.2.1
  exact g_run h.2.2.2.2.2.2.2.2.1 (va_runVN (As := As) (rest := st) (C := C) ⟨h.1, h.2.1, h.2.2.1, h.2.2.2.1, hts⟩ hM ⟨va_cnB np hts (tg_in hc) rfl hrc hrs (h.2.2.2.2.2.2.2.1.1 _ hl) (by rw [hd.1]; exact hts _ hin) hd.2 hR, hts _ hi, hts _ hse⟩ ⟨fB_blind, hrecv, fun U hU hW2 => ⟨rfl, fB_at h a1 a2 a3 U hU hW2⟩⟩ rfl hn a4.1 rfl (lv_room hW) d hf) a3 a4 kk
theorem tg_S {index : Nat} {y : MethodName} {bytes : ByteArray} {mL : Nat} {r : Option FieldType} (hc : Cond.code y bytes mL r ∈ Tg) (h1 : Cond.methodLink own index y ∈ Tg) (h2 : Cond.static y ∈ Tg) (h4 : Cond.initialized own ∈ Tg) : GoodIn Tg (wsS own index y (.code y bytes mL r :: Tg)) := by
  have g : ∀ w ∈ Tg, w ∈ Tg ∧ ((w.onTables && w.keeps) = true ∨ ∃ ty, w = .arrayClass ty) := fun w hw => ⟨hw, good_of_word (List.all_eq_true.mp tg_good _ hw)⟩
  intro w hw
  unfold wsS at hw
  rcases List.mem_append.mp hw with hw | hw
  · simp only [List.mem_cons, List.not_mem_nil, or_false] at hw
    rcases hw with rfl | rfl | rfl
    · exact g _ h1
    · exact g _ h2
    · exact g _ h4
  · exact tg_in hc w hw
theorem g_callS (h : Cx X G F nL cc own ret) {y : MethodName} {bytes : ByteArray} {mL np mc ms index : Nat} {r2 : Option FieldType} {rm : Room} {post : Option Value → Nat → (Nat → va_E) → Prop} {As : List Value} {st0 : List Value} (hM : Met (xl X) y (.code y bytes mL r2 :: Tg) rm (va_Pc As (fB G F n cf)) (fQ G F post) mc ms (fA F))
    (hst : st0 = As.reverse ++ st) (hc : Cond.code y bytes mL r2 ∈ Tg) (hl : Cond.methodLink own index y ∈ Tg) (hsta : Cond.static y ∈ Tg) (hin : Cond.initialized own ∈ Tg) (hrc : rm.cells = mc) (hrs : rm.slots = ms) (hd : y.cls = own ∧ y.cls ≠ "java/lang/invoke/MethodHandle" ∧ y.cls ≠ "java/lang/invoke/VarHandle" ∧ (parseMethodDescriptor y.desc).map (fun d => d.parameters.length) = some np) (hn : As.length = np) (hR : rm.frames + 1 ≤ (xR X).frames ∧ 8 + (mL + 11) + rm.locals ≤ (xR X).locals) (hW : (st.map fun v => v.category).sum ≤ 8) (hf : cells + mc ≤ (xR X).cells ∧ slots + ms ≤ (xR X).slots) (d : decode cc pc = .ok (.invokestatic index, 3))
    (kk : ∀ r n2 cf2, post r n2 cf2 → Vg X Q G F nL n2 cf2 (cells + mc) (slots + ms) (pc + 3) loc (r.toList ++ st)) : Vg X Q G F nL n cf cells slots pc loc st0 := by
  subst hst
  intro H locs ls a1 a2 a3 a4
  exact g_run h.2.2.2.2.2.2.2.2.1 (va_runS (As := As) (rest := st) ⟨h.1, h.2.1, h.2.2.1, h.2.2.2.1, h.2.2.2.2.1⟩ hM (cwS np h.2.2.2.2.1 (tg_S hc hl hsta hin) rfl hrc hrs hd hR) ⟨fB_blind, fun U hU hW2 => ⟨rfl, fB_at h a1 a2 a3 U hU hW2⟩⟩ rfl hn a4.1 rfl (lv_room hW) d hf) a3 a4 kk
theorem g_callSN (h : Cx X G F nL cc own ret) {y : MethodName} {bytes : ByteArray} {mL np mc ms index : Nat} {r2 : Option FieldType} {rm : Room} {post : Option Value → Nat → (Nat → va_E) → Prop} {C host : String} {As : List Value} {st0 : List Value} (hM : Met (xl X) y (.code y bytes mL r2 :: Tg) rm (va_Pc As (fB G F n cf)) (fQ G F post) mc ms (fA F))
    (hst : st0 = As.reverse ++ st) (hc : Cond.code y bytes mL r2 ∈ Tg) (hl : Cond.methodLinkNest own index y host ∈ Tn) (hsta : Cond.static y ∈ Tg) (hin : Cond.initialized C ∈ Tg) (hrc : rm.cells = mc) (hrs : rm.slots = ms) (hd : y.cls = C ∧ y.cls ≠ "java/lang/invoke/MethodHandle" ∧ y.cls ≠ "java/lang/invoke/VarHandle" ∧ (parseMethodDescriptor y.desc).map (fun d => d.parameters.length) = some np) (hn : As.length = np) (hR : rm.frames + 1 ≤ (xR X).frames ∧ 8 + (mL + 11) + rm.locals ≤ (xR X).locals) (hW : (st.map fun v => v.category).sum ≤ 8) (hf : cells + mc ≤ (xR X).cells ∧ slots + ms ≤ (xR X).slots) (d : decode cc pc = .ok (.invokestatic index, 3))
    (kk : ∀ r n2 cf2, post r n2 cf2 → Vg X Q G F nL n2 cf2 (cells + mc) (slots + ms) (pc + 3) loc (r.toList ++ st)) : Vg X Q G F nL n cf cells slots pc loc st0 := by
  subst hst
  intro H locs ls a1 a2 a3 a4
  have hts := h.2.2.2.2.1
  exact g_run h.2.2.2.2.2.2.2.2.1 (va_runSN (As := As) (rest := st) ⟨h.1, h.2.1, h.2.2.1, h.2.2.2.1, hts⟩ hM ⟨va_cnB np hts (tg_in hc) rfl hrc hrs (h.2.2.2.2.2.2.2.1.1 _ hl) (by rw [hd.1]; exact hts _ hin) hd.2 hR, hts _ hsta, trivial⟩ ⟨fB_blind, fun U hU hW2 => ⟨rfl, fB_at h a1 a2 a3 U hU hW2⟩⟩ rfl hn a4.1 rfl (lv_room hW) d hf) a3 a4 kk
theorem g_callI (h : Cx X G F nL cc own ret) {y : MethodName} {bytes : ByteArray} {mL np mc ms index k : Nat} {rm : Room} {post : Option Value → Nat → (Nat → va_E) → Prop} {C : String} {As : List Value} {st0 : List Value} (hM : Met (xl X) y (.code y bytes mL none :: Tg) rm (va_Pc (.ref (F + k) :: As) (fB G F n cf)) (fQ G F post) mc ms (fA F))
    (hst : st0 = As.reverse ++ .ref (F + k) :: st) (hc : Cond.code y bytes mL none ∈ Tg) (hl : Cond.methodLink own index y ∈ Tg) (hi : Cond.instanceMethod y ∈ Tg) (hin : Cond.initialized C ∈ Tg) (hy : y.name = "<init>") (hrc : rm.cells = mc) (hrs : rm.slots = ms) (hd : y.cls = C ∧ y.cls ≠ "java/lang/invoke/MethodHandle" ∧ y.cls ≠ "java/lang/invoke/VarHandle" ∧ (parseMethodDescriptor y.desc).map (fun d => d.parameters.length) = some np) (hn : As.length = np) (hR : rm.frames + 1 ≤ (xR X).frames ∧ 8 + (mL + 11) + rm.locals ≤ (xR X).locals) (hW : (st.map fun v => v.category).sum ≤ 8) (hf : cells + mc ≤ (xR X).cells ∧ slots + ms ≤ (xR X).slots) (d : decode cc pc = .ok (.invokespecial index, 3))
    (kk : ∀ r n2 cf2, post r n2 cf2 → Vg X Q G F nL n2 cf2 (cells + mc) (slots + ms) (pc + 3) loc (r.toList ++ st)) : Vg X Q G F nL n cf cells slots pc loc st0 := by
  subst hst
  intro H locs ls a1 a2 a3 a4
  have hts := h.2.2.2.2.1
  exact g_run h.2.2.2.2.2.2.2.2.1 (va_runI (As := As) (rest := st) ⟨h.1, h.2.1, h.2.2.1, h.2.2.2.1, hts⟩ hM (cwI np hts (tg_in hc) rfl hrc hrs (by rw [hd.1]; exact hts _ hin) (hts _ hl) (hts _ hi) hy hd.2 hR) ⟨fB_blind, fun U hU hW2 => ⟨rfl, fB_at h a1 a2 a3 U hU hW2⟩⟩ rfl hn a4.1 rfl (lv_room hW) d hf) a3 a4 kk
theorem g_callIN (h : Cx X G F nL cc own ret) {y : MethodName} {bytes : ByteArray} {mL np mc ms index k : Nat} {rm : Room} {post : Option Value → Nat → (Nat → va_E) → Prop} {C host : String} {As : List Value} {st0 : List Value} (hM : Met (xl X) y (.code y bytes mL none :: Tg) rm (va_Pc (.ref (F + k) :: As) (fB G F n cf)) (fQ G F post) mc ms (fA F))
    (hst : st0 = As.reverse ++ .ref (F + k) :: st) (hc : Cond.code y bytes mL none ∈ Tg) (hl : Cond.methodLinkNest own index y host ∈ Tn) (hi : Cond.instanceMethod y ∈ Tg) (hin : Cond.initialized C ∈ Tg) (hy : y.name = "<init>") (hrc : rm.cells = mc) (hrs : rm.slots = ms) (hd : y.cls = C ∧ y.cls ≠ "java/lang/invoke/MethodHandle" ∧ y.cls ≠ "java/lang/invoke/VarHandle" ∧ (parseMethodDescriptor y.desc).map (fun d => d.parameters.length) = some np) (hn : As.length = np) (hR : rm.frames + 1 ≤ (xR X).frames ∧ 8 + (mL + 11) + rm.locals ≤ (xR X).locals) (hW : (st.map fun v => v.category).sum ≤ 8) (hf : cells + mc ≤ (xR X).cells ∧ slots + ms ≤ (xR X).slots) (d : decode cc pc = .ok (.invokespecial index, 3))
    (kk : ∀ r n2 cf2, post r n2 cf2 → Vg X Q G F nL n2 cf2 (cells + mc) (slots + ms) (pc + 3) loc (r.toList ++ st)) : Vg X Q G F nL n cf cells slots pc loc st0 := by
  subst hst
  intro H locs ls a1 a2 a3 a4
  have hts := h.2.2.2.2.1
  exact g_run h.2.2.2.2.2.2.2.2.1 (va_runIN (As := As) (rest := st) ⟨h.1, h.2.1, h.2.2.1, h.2.2.2.1, hts⟩ hM ⟨va_cnB np hts (tg_in hc) rfl hrc hrs (h.2.2.2.2.2.2.2.1.1 _ hl) (by rw [hd.1]; exact hts _ hin) hd.2 hR, hy, hts _ hi⟩ ⟨fB_blind, fun U hU hW2 => ⟨rfl, fB_at h a1 a2 a3 U hU hW2⟩⟩ rfl hn a4.1 rfl (lv_room hW) d hf) a3 a4 kk

end FRX
end
