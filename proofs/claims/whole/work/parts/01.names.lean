-- ===== PART A: goes FIRST, ahead of the names: the tables' words, and 'selects' of the private methods out of them =====
/-- a private method of a class that the tables say can be made, by its rows of tables_1 -/
def lw_okq (q : MethodName × Nat) : Prop := (q.1.cls ≠ "java/lang/invoke/MethodHandle" ∧ q.1.cls ≠ "java/lang/invoke/VarHandle") ∧ Cond.instantiable q.1.cls q.2 ∈ tables_1 ∧ Cond.privateMethod q.1 ∈ tables_1 ∧ Cond.instanceMethod q.1 ∈ tables_1
theorem lw_p0 : lw_okq (⟨"GlulxFrames", "functionOf", "(I)LGlulxFrames$Function;"⟩, 9) := ⟨⟨by decide +kernel, by decide +kernel⟩, List.mem_of_getElem? (i := 7) (by decide +kernel), List.mem_of_getElem? (i := 98) (by decide +kernel), List.mem_of_getElem? (i := 99) (by decide +kernel)⟩
theorem lw_p1 : lw_okq (⟨"GlulxFrames", "valueCount", "()I"⟩, 9) := ⟨⟨by decide +kernel, by decide +kernel⟩, List.mem_of_getElem? (i := 7) (by decide +kernel), List.mem_of_getElem? (i := 164) (by decide +kernel), List.mem_of_getElem? (i := 165) (by decide +kernel)⟩
theorem lw_p2 : lw_okq (⟨"GlulxFrames", "valuesBegin", "()I"⟩, 9) := ⟨⟨by decide +kernel, by decide +kernel⟩, List.mem_of_getElem? (i := 7) (by decide +kernel), List.mem_of_getElem? (i := 172) (by decide +kernel), List.mem_of_getElem? (i := 173) (by decide +kernel)⟩
theorem lw_p3 : lw_okq (⟨"GlulxFrames", "latestToken", "()I"⟩, 9) := ⟨⟨by decide +kernel, by decide +kernel⟩, List.mem_of_getElem? (i := 7) (by decide +kernel), List.mem_of_getElem? (i := 176) (by decide +kernel), List.mem_of_getElem? (i := 177) (by decide +kernel)⟩
theorem lw_p4 : lw_okq (⟨"GlulxFrames", "valuesAt", "(I)I"⟩, 9) := ⟨⟨by decide +kernel, by decide +kernel⟩, List.mem_of_getElem? (i := 7) (by decide +kernel), List.mem_of_getElem? (i := 180) (by decide +kernel), List.mem_of_getElem? (i := 181) (by decide +kernel)⟩
theorem lw_p5 : lw_okq (⟨"GlulxFrames$Row", "byteOrZero", "(I)I"⟩, 2) := ⟨⟨by decide +kernel, by decide +kernel⟩, List.mem_of_getElem? (i := 17) (by decide +kernel), List.mem_of_getElem? (i := 188) (by decide +kernel), List.mem_of_getElem? (i := 189) (by decide +kernel)⟩
theorem lw_p6 : lw_okq (⟨"GlulxFrames", "callAccelerated", "(LGlulxFrames$Function;III)I"⟩, 9) := ⟨⟨by decide +kernel, by decide +kernel⟩, List.mem_of_getElem? (i := 7) (by decide +kernel), List.mem_of_getElem? (i := 196) (by decide +kernel), List.mem_of_getElem? (i := 197) (by decide +kernel)⟩
theorem lw_p7 : lw_okq (⟨"GlulxFrames", "canGo", "(III)Z"⟩, 9) := ⟨⟨by decide +kernel, by decide +kernel⟩, List.mem_of_getElem? (i := 7) (by decide +kernel), List.mem_of_getElem? (i := 200) (by decide +kernel), List.mem_of_getElem? (i := 201) (by decide +kernel)⟩
theorem lw_p8 : lw_okq (⟨"GlulxFrames", "isInLocals", "(III)Z"⟩, 9) := ⟨⟨by decide +kernel, by decide +kernel⟩, List.mem_of_getElem? (i := 7) (by decide +kernel), List.mem_of_getElem? (i := 210) (by decide +kernel), List.mem_of_getElem? (i := 211) (by decide +kernel)⟩
theorem lw_p9 : lw_okq (⟨"GlulxFrames", "localsAt", "(I)I"⟩, 9) := ⟨⟨by decide +kernel, by decide +kernel⟩, List.mem_of_getElem? (i := 7) (by decide +kernel), List.mem_of_getElem? (i := 214) (by decide +kernel), List.mem_of_getElem? (i := 215) (by decide +kernel)⟩
theorem lw_p10 : lw_okq (⟨"GlulxFrames", "givenBy", "(II)I"⟩, 9) := ⟨⟨by decide +kernel, by decide +kernel⟩, List.mem_of_getElem? (i := 7) (by decide +kernel), List.mem_of_getElem? (i := 222) (by decide +kernel), List.mem_of_getElem? (i := 223) (by decide +kernel)⟩
theorem lw_p11 : lw_okq (⟨"GlulxFrames", "valueFromLast", "(I)I"⟩, 9) := ⟨⟨by decide +kernel, by decide +kernel⟩, List.mem_of_getElem? (i := 7) (by decide +kernel), List.mem_of_getElem? (i := 226) (by decide +kernel), List.mem_of_getElem? (i := 227) (by decide +kernel)⟩
theorem lw_p12 : lw_okq (⟨"GlulxFrames", "send", "(III)V"⟩, 9) := ⟨⟨by decide +kernel, by decide +kernel⟩, List.mem_of_getElem? (i := 7) (by decide +kernel), List.mem_of_getElem? (i := 234) (by decide +kernel), List.mem_of_getElem? (i := 235) (by decide +kernel)⟩
theorem lw_p13 : lw_okq (⟨"GlulxFrames$Row", "setByte", "(II)V"⟩, 2) := ⟨⟨by decide +kernel, by decide +kernel⟩, List.mem_of_getElem? (i := 17) (by decide +kernel), List.mem_of_getElem? (i := 242) (by decide +kernel), List.mem_of_getElem? (i := 243) (by decide +kernel)⟩
theorem lw_p14 : lw_okq (⟨"GlulxFrames", "takeValues", "(I)V"⟩, 9) := ⟨⟨by decide +kernel, by decide +kernel⟩, List.mem_of_getElem? (i := 7) (by decide +kernel), List.mem_of_getElem? (i := 268) (by decide +kernel), List.mem_of_getElem? (i := 269) (by decide +kernel)⟩
theorem lw_p15 : lw_okq (⟨"GlulxFrames", "pushStub", "(III)V"⟩, 9) := ⟨⟨by decide +kernel, by decide +kernel⟩, List.mem_of_getElem? (i := 7) (by decide +kernel), List.mem_of_getElem? (i := 272) (by decide +kernel), List.mem_of_getElem? (i := 273) (by decide +kernel)⟩
def lw_privs_1 : List (MethodName × Nat) := [(⟨"GlulxFrames", "functionOf", "(I)LGlulxFrames$Function;"⟩, 9), (⟨"GlulxFrames", "valueCount", "()I"⟩, 9), (⟨"GlulxFrames", "valuesBegin", "()I"⟩, 9), (⟨"GlulxFrames", "latestToken", "()I"⟩, 9), (⟨"GlulxFrames", "valuesAt", "(I)I"⟩, 9), (⟨"GlulxFrames$Row", "byteOrZero", "(I)I"⟩, 2), (⟨"GlulxFrames", "callAccelerated", "(LGlulxFrames$Function;III)I"⟩, 9), (⟨"GlulxFrames", "canGo", "(III)Z"⟩, 9), (⟨"GlulxFrames", "isInLocals", "(III)Z"⟩, 9), (⟨"GlulxFrames", "localsAt", "(I)I"⟩, 9), (⟨"GlulxFrames", "givenBy", "(II)I"⟩, 9), (⟨"GlulxFrames", "valueFromLast", "(I)I"⟩, 9), (⟨"GlulxFrames", "send", "(III)V"⟩, 9), (⟨"GlulxFrames$Row", "setByte", "(II)V"⟩, 2), (⟨"GlulxFrames", "takeValues", "(I)V"⟩, 9), (⟨"GlulxFrames", "pushStub", "(III)V"⟩, 9)]
theorem lw_r1 : ∀ q ∈ lw_privs_1, lw_okq q := List.forall_mem_cons.mpr ⟨lw_p0, List.forall_mem_cons.mpr ⟨lw_p1, List.forall_mem_cons.mpr ⟨lw_p2, List.forall_mem_cons.mpr ⟨lw_p3, List.forall_mem_cons.mpr ⟨lw_p4, List.forall_mem_cons.mpr ⟨lw_p5, List.forall_mem_cons.mpr ⟨lw_p6, List.forall_mem_cons.mpr ⟨lw_p7, List.forall_mem_cons.mpr ⟨lw_p8, List.forall_mem_cons.mpr ⟨lw_p9, List.forall_mem_cons.mpr ⟨lw_p10, List.forall_mem_cons.mpr ⟨lw_p11, List.forall_mem_cons.mpr ⟨lw_p12, List.forall_mem_cons.mpr ⟨lw_p13, List.forall_mem_cons.mpr ⟨lw_p14, List.forall_mem_cons.mpr ⟨lw_p15, fun _ h => absurd h List.not_mem_nil⟩⟩⟩⟩⟩⟩⟩⟩⟩⟩⟩⟩⟩⟩⟩⟩
theorem lw_p16 : lw_okq (⟨"GlulxFrames", "pushFrame", "(LGlulxFrames$Function;I)V"⟩, 9) := ⟨⟨by decide +kernel, by decide +kernel⟩, List.mem_of_getElem? (i := 7) (by decide +kernel), List.mem_of_getElem? (i := 276) (by decide +kernel), List.mem_of_getElem? (i := 277) (by decide +kernel)⟩
theorem lw_p17 : lw_okq (⟨"GlulxFrames", "pushArguments", "(I)V"⟩, 9) := ⟨⟨by decide +kernel, by decide +kernel⟩, List.mem_of_getElem? (i := 7) (by decide +kernel), List.mem_of_getElem? (i := 284) (by decide +kernel), List.mem_of_getElem? (i := 285) (by decide +kernel)⟩
theorem lw_p18 : lw_okq (⟨"GlulxFrames", "takenValue", "(I)I"⟩, 9) := ⟨⟨by decide +kernel, by decide +kernel⟩, List.mem_of_getElem? (i := 7) (by decide +kernel), List.mem_of_getElem? (i := 288) (by decide +kernel), List.mem_of_getElem? (i := 289) (by decide +kernel)⟩
theorem lw_p19 : lw_okq (⟨"GlulxFrames", "setLocals", "(LGlulxFrames$Function;I)V"⟩, 9) := ⟨⟨by decide +kernel, by decide +kernel⟩, List.mem_of_getElem? (i := 7) (by decide +kernel), List.mem_of_getElem? (i := 292) (by decide +kernel), List.mem_of_getElem? (i := 293) (by decide +kernel)⟩
theorem lw_p20 : lw_okq (⟨"GlulxFrames", "goBack", "(II)I"⟩, 9) := ⟨⟨by decide +kernel, by decide +kernel⟩, List.mem_of_getElem? (i := 7) (by decide +kernel), List.mem_of_getElem? (i := 300) (by decide +kernel), List.mem_of_getElem? (i := 301) (by decide +kernel)⟩
theorem lw_p21 : lw_okq (⟨"GlulxFrames", "frameBelow", "(I)I"⟩, 9) := ⟨⟨by decide +kernel, by decide +kernel⟩, List.mem_of_getElem? (i := 7) (by decide +kernel), List.mem_of_getElem? (i := 304) (by decide +kernel), List.mem_of_getElem? (i := 305) (by decide +kernel)⟩
theorem lw_p22 : lw_okq (⟨"GlulxFrames", "dropTokensFrom", "(I)V"⟩, 9) := ⟨⟨by decide +kernel, by decide +kernel⟩, List.mem_of_getElem? (i := 7) (by decide +kernel), List.mem_of_getElem? (i := 308) (by decide +kernel), List.mem_of_getElem? (i := 309) (by decide +kernel)⟩
theorem lw_p23 : lw_okq (⟨"GlulxFrames", "addToken", "(I)V"⟩, 9) := ⟨⟨by decide +kernel, by decide +kernel⟩, List.mem_of_getElem? (i := 7) (by decide +kernel), List.mem_of_getElem? (i := 320) (by decide +kernel), List.mem_of_getElem? (i := 321) (by decide +kernel)⟩
theorem lw_p24 : lw_okq (⟨"GlulxFrames", "isLive", "(I)Z"⟩, 9) := ⟨⟨by decide +kernel, by decide +kernel⟩, List.mem_of_getElem? (i := 7) (by decide +kernel), List.mem_of_getElem? (i := 328) (by decide +kernel), List.mem_of_getElem? (i := 329) (by decide +kernel)⟩
theorem lw_p25 : lw_okq (⟨"GlulxFrames", "faultOfLast", "(I)I"⟩, 9) := ⟨⟨by decide +kernel, by decide +kernel⟩, List.mem_of_getElem? (i := 7) (by decide +kernel), List.mem_of_getElem? (i := 340) (by decide +kernel), List.mem_of_getElem? (i := 341) (by decide +kernel)⟩
theorem lw_p26 : lw_okq (⟨"GlulxFrames", "rollLast", "(II)V"⟩, 9) := ⟨⟨by decide +kernel, by decide +kernel⟩, List.mem_of_getElem? (i := 7) (by decide +kernel), List.mem_of_getElem? (i := 363) (by decide +kernel), List.mem_of_getElem? (i := 364) (by decide +kernel)⟩
theorem lw_p27 : lw_okq (⟨"GlulxFrames", "faultOfLocal", "(II)I"⟩, 9) := ⟨⟨by decide +kernel, by decide +kernel⟩, List.mem_of_getElem? (i := 7) (by decide +kernel), List.mem_of_getElem? (i := 375) (by decide +kernel), List.mem_of_getElem? (i := 376) (by decide +kernel)⟩
theorem lw_p28 : lw_okq (⟨"GlulxFrames", "frameCount", "()I"⟩, 9) := ⟨⟨by decide +kernel, by decide +kernel⟩, List.mem_of_getElem? (i := 7) (by decide +kernel), List.mem_of_getElem? (i := 395) (by decide +kernel), List.mem_of_getElem? (i := 396) (by decide +kernel)⟩
theorem lw_p29 : lw_okq (⟨"GlulxFramesModel", "locals", "(I)I"⟩, 15) := ⟨⟨by decide +kernel, by decide +kernel⟩, List.mem_of_getElem? (i := 402) (by decide +kernel), List.mem_of_getElem? (i := 483) (by decide +kernel), List.mem_of_getElem? (i := 484) (by decide +kernel)⟩
theorem lw_p30 : lw_okq (⟨"GlulxFramesModel", "lengthOf", "(I)I"⟩, 15) := ⟨⟨by decide +kernel, by decide +kernel⟩, List.mem_of_getElem? (i := 402) (by decide +kernel), List.mem_of_getElem? (i := 487) (by decide +kernel), List.mem_of_getElem? (i := 488) (by decide +kernel)⟩
theorem lw_p31 : lw_okq (⟨"GlulxFramesModel", "placeOf", "(II)I"⟩, 15) := ⟨⟨by decide +kernel, by decide +kernel⟩, List.mem_of_getElem? (i := 402) (by decide +kernel), List.mem_of_getElem? (i := 491) (by decide +kernel), List.mem_of_getElem? (i := 492) (by decide +kernel)⟩
def lw_privs_2 : List (MethodName × Nat) := [(⟨"GlulxFrames", "pushFrame", "(LGlulxFrames$Function;I)V"⟩, 9), (⟨"GlulxFrames", "pushArguments", "(I)V"⟩, 9), (⟨"GlulxFrames", "takenValue", "(I)I"⟩, 9), (⟨"GlulxFrames", "setLocals", "(LGlulxFrames$Function;I)V"⟩, 9), (⟨"GlulxFrames", "goBack", "(II)I"⟩, 9), (⟨"GlulxFrames", "frameBelow", "(I)I"⟩, 9), (⟨"GlulxFrames", "dropTokensFrom", "(I)V"⟩, 9), (⟨"GlulxFrames", "addToken", "(I)V"⟩, 9), (⟨"GlulxFrames", "isLive", "(I)Z"⟩, 9), (⟨"GlulxFrames", "faultOfLast", "(I)I"⟩, 9), (⟨"GlulxFrames", "rollLast", "(II)V"⟩, 9), (⟨"GlulxFrames", "faultOfLocal", "(II)I"⟩, 9), (⟨"GlulxFrames", "frameCount", "()I"⟩, 9), (⟨"GlulxFramesModel", "locals", "(I)I"⟩, 15), (⟨"GlulxFramesModel", "lengthOf", "(I)I"⟩, 15), (⟨"GlulxFramesModel", "placeOf", "(II)I"⟩, 15)]
theorem lw_r2 : ∀ q ∈ lw_privs_2, lw_okq q := List.forall_mem_cons.mpr ⟨lw_p16, List.forall_mem_cons.mpr ⟨lw_p17, List.forall_mem_cons.mpr ⟨lw_p18, List.forall_mem_cons.mpr ⟨lw_p19, List.forall_mem_cons.mpr ⟨lw_p20, List.forall_mem_cons.mpr ⟨lw_p21, List.forall_mem_cons.mpr ⟨lw_p22, List.forall_mem_cons.mpr ⟨lw_p23, List.forall_mem_cons.mpr ⟨lw_p24, List.forall_mem_cons.mpr ⟨lw_p25, List.forall_mem_cons.mpr ⟨lw_p26, List.forall_mem_cons.mpr ⟨lw_p27, List.forall_mem_cons.mpr ⟨lw_p28, List.forall_mem_cons.mpr ⟨lw_p29, List.forall_mem_cons.mpr ⟨lw_p30, List.forall_mem_cons.mpr ⟨lw_p31, fun _ h => absurd h List.not_mem_nil⟩⟩⟩⟩⟩⟩⟩⟩⟩⟩⟩⟩⟩⟩⟩⟩
theorem lw_p32 : lw_okq (⟨"GlulxFramesModel", "begin", "(I)I"⟩, 15) := ⟨⟨by decide +kernel, by decide +kernel⟩, List.mem_of_getElem? (i := 402) (by decide +kernel), List.mem_of_getElem? (i := 495) (by decide +kernel), List.mem_of_getElem? (i := 496) (by decide +kernel)⟩
theorem lw_p33 : lw_okq (⟨"GlulxFramesModel", "hasFrame", "()Z"⟩, 15) := ⟨⟨by decide +kernel, by decide +kernel⟩, List.mem_of_getElem? (i := 402) (by decide +kernel), List.mem_of_getElem? (i := 510) (by decide +kernel), List.mem_of_getElem? (i := 511) (by decide +kernel)⟩
theorem lw_p34 : lw_okq (⟨"GlulxFramesModel", "values", "()I"⟩, 15) := ⟨⟨by decide +kernel, by decide +kernel⟩, List.mem_of_getElem? (i := 402) (by decide +kernel), List.mem_of_getElem? (i := 517) (by decide +kernel), List.mem_of_getElem? (i := 518) (by decide +kernel)⟩
theorem lw_p35 : lw_okq (⟨"GlulxFramesModel", "base", "()I"⟩, 15) := ⟨⟨by decide +kernel, by decide +kernel⟩, List.mem_of_getElem? (i := 402) (by decide +kernel), List.mem_of_getElem? (i := 521) (by decide +kernel), List.mem_of_getElem? (i := 522) (by decide +kernel)⟩
theorem lw_p36 : lw_okq (⟨"GlulxFramesModel", "read", "(II)I"⟩, 15) := ⟨⟨by decide +kernel, by decide +kernel⟩, List.mem_of_getElem? (i := 402) (by decide +kernel), List.mem_of_getElem? (i := 525) (by decide +kernel), List.mem_of_getElem? (i := 526) (by decide +kernel)⟩
theorem lw_p37 : lw_okq (⟨"GlulxFramesModel", "canGo", "(III)Z"⟩, 15) := ⟨⟨by decide +kernel, by decide +kernel⟩, List.mem_of_getElem? (i := 402) (by decide +kernel), List.mem_of_getElem? (i := 529) (by decide +kernel), List.mem_of_getElem? (i := 530) (by decide +kernel)⟩
theorem lw_p38 : lw_okq (⟨"GlulxFramesModel", "lengthAt", "(I)I"⟩, 15) := ⟨⟨by decide +kernel, by decide +kernel⟩, List.mem_of_getElem? (i := 402) (by decide +kernel), List.mem_of_getElem? (i := 534) (by decide +kernel), List.mem_of_getElem? (i := 535) (by decide +kernel)⟩
theorem lw_p39 : lw_okq (⟨"GlulxFramesModel", "localsAt", "(I)I"⟩, 15) := ⟨⟨by decide +kernel, by decide +kernel⟩, List.mem_of_getElem? (i := 402) (by decide +kernel), List.mem_of_getElem? (i := 538) (by decide +kernel), List.mem_of_getElem? (i := 539) (by decide +kernel)⟩
theorem lw_p40 : lw_okq (⟨"GlulxFramesModel", "take", "(I)V"⟩, 15) := ⟨⟨by decide +kernel, by decide +kernel⟩, List.mem_of_getElem? (i := 402) (by decide +kernel), List.mem_of_getElem? (i := 545) (by decide +kernel), List.mem_of_getElem? (i := 546) (by decide +kernel)⟩
theorem lw_p41 : lw_okq (⟨"GlulxFramesModel", "result", "(II)I"⟩, 15) := ⟨⟨by decide +kernel, by decide +kernel⟩, List.mem_of_getElem? (i := 402) (by decide +kernel), List.mem_of_getElem? (i := 549) (by decide +kernel), List.mem_of_getElem? (i := 550) (by decide +kernel)⟩
theorem lw_p42 : lw_okq (⟨"GlulxFramesModel", "go", "(III)V"⟩, 15) := ⟨⟨by decide +kernel, by decide +kernel⟩, List.mem_of_getElem? (i := 402) (by decide +kernel), List.mem_of_getElem? (i := 553) (by decide +kernel), List.mem_of_getElem? (i := 554) (by decide +kernel)⟩
theorem lw_p43 : lw_okq (⟨"GlulxFramesModel", "write", "(III)V"⟩, 15) := ⟨⟨by decide +kernel, by decide +kernel⟩, List.mem_of_getElem? (i := 402) (by decide +kernel), List.mem_of_getElem? (i := 557) (by decide +kernel), List.mem_of_getElem? (i := 558) (by decide +kernel)⟩
theorem lw_p44 : lw_okq (⟨"GlulxFramesModel", "pushes", "(I)V"⟩, 15) := ⟨⟨by decide +kernel, by decide +kernel⟩, List.mem_of_getElem? (i := 402) (by decide +kernel), List.mem_of_getElem? (i := 561) (by decide +kernel), List.mem_of_getElem? (i := 562) (by decide +kernel)⟩
theorem lw_p45 : lw_okq (⟨"GlulxFramesModel", "hasHead", "(I)Z"⟩, 15) := ⟨⟨by decide +kernel, by decide +kernel⟩, List.mem_of_getElem? (i := 402) (by decide +kernel), List.mem_of_getElem? (i := 565) (by decide +kernel), List.mem_of_getElem? (i := 566) (by decide +kernel)⟩
theorem lw_p46 : lw_okq (⟨"GlulxFramesModel", "room", "(II)I"⟩, 15) := ⟨⟨by decide +kernel, by decide +kernel⟩, List.mem_of_getElem? (i := 402) (by decide +kernel), List.mem_of_getElem? (i := 569) (by decide +kernel), List.mem_of_getElem? (i := 570) (by decide +kernel)⟩
theorem lw_p47 : lw_okq (⟨"GlulxFramesModel", "stub", "(III)V"⟩, 15) := ⟨⟨by decide +kernel, by decide +kernel⟩, List.mem_of_getElem? (i := 402) (by decide +kernel), List.mem_of_getElem? (i := 573) (by decide +kernel), List.mem_of_getElem? (i := 574) (by decide +kernel)⟩
def lw_privs_3 : List (MethodName × Nat) := [(⟨"GlulxFramesModel", "begin", "(I)I"⟩, 15), (⟨"GlulxFramesModel", "hasFrame", "()Z"⟩, 15), (⟨"GlulxFramesModel", "values", "()I"⟩, 15), (⟨"GlulxFramesModel", "base", "()I"⟩, 15), (⟨"GlulxFramesModel", "read", "(II)I"⟩, 15), (⟨"GlulxFramesModel", "canGo", "(III)Z"⟩, 15), (⟨"GlulxFramesModel", "lengthAt", "(I)I"⟩, 15), (⟨"GlulxFramesModel", "localsAt", "(I)I"⟩, 15), (⟨"GlulxFramesModel", "take", "(I)V"⟩, 15), (⟨"GlulxFramesModel", "result", "(II)I"⟩, 15), (⟨"GlulxFramesModel", "go", "(III)V"⟩, 15), (⟨"GlulxFramesModel", "write", "(III)V"⟩, 15), (⟨"GlulxFramesModel", "pushes", "(I)V"⟩, 15), (⟨"GlulxFramesModel", "hasHead", "(I)Z"⟩, 15), (⟨"GlulxFramesModel", "room", "(II)I"⟩, 15), (⟨"GlulxFramesModel", "stub", "(III)V"⟩, 15)]
theorem lw_r3 : ∀ q ∈ lw_privs_3, lw_okq q := List.forall_mem_cons.mpr ⟨lw_p32, List.forall_mem_cons.mpr ⟨lw_p33, List.forall_mem_cons.mpr ⟨lw_p34, List.forall_mem_cons.mpr ⟨lw_p35, List.forall_mem_cons.mpr ⟨lw_p36, List.forall_mem_cons.mpr ⟨lw_p37, List.forall_mem_cons.mpr ⟨lw_p38, List.forall_mem_cons.mpr ⟨lw_p39, List.forall_mem_cons.mpr ⟨lw_p40, List.forall_mem_cons.mpr ⟨lw_p41, List.forall_mem_cons.mpr ⟨lw_p42, List.forall_mem_cons.mpr ⟨lw_p43, List.forall_mem_cons.mpr ⟨lw_p44, List.forall_mem_cons.mpr ⟨lw_p45, List.forall_mem_cons.mpr ⟨lw_p46, List.forall_mem_cons.mpr ⟨lw_p47, fun _ h => absurd h List.not_mem_nil⟩⟩⟩⟩⟩⟩⟩⟩⟩⟩⟩⟩⟩⟩⟩⟩
theorem lw_p48 : lw_okq (⟨"GlulxFramesModel", "enter", "(II)V"⟩, 15) := ⟨⟨by decide +kernel, by decide +kernel⟩, List.mem_of_getElem? (i := 402) (by decide +kernel), List.mem_of_getElem? (i := 577) (by decide +kernel), List.mem_of_getElem? (i := 578) (by decide +kernel)⟩
theorem lw_p49 : lw_okq (⟨"GlulxFramesModel", "widthOf", "(II)I"⟩, 15) := ⟨⟨by decide +kernel, by decide +kernel⟩, List.mem_of_getElem? (i := 402) (by decide +kernel), List.mem_of_getElem? (i := 581) (by decide +kernel), List.mem_of_getElem? (i := 582) (by decide +kernel)⟩
theorem lw_p50 : lw_okq (⟨"GlulxFramesModel", "canLeave", "()Z"⟩, 15) := ⟨⟨by decide +kernel, by decide +kernel⟩, List.mem_of_getElem? (i := 402) (by decide +kernel), List.mem_of_getElem? (i := 589) (by decide +kernel), List.mem_of_getElem? (i := 590) (by decide +kernel)⟩
theorem lw_p51 : lw_okq (⟨"GlulxFramesModel", "leaves", "(I)I"⟩, 15) := ⟨⟨by decide +kernel, by decide +kernel⟩, List.mem_of_getElem? (i := 402) (by decide +kernel), List.mem_of_getElem? (i := 593) (by decide +kernel), List.mem_of_getElem? (i := 594) (by decide +kernel)⟩
theorem lw_p52 : lw_okq (⟨"GlulxFramesModel", "forget", "(I)V"⟩, 15) := ⟨⟨by decide +kernel, by decide +kernel⟩, List.mem_of_getElem? (i := 402) (by decide +kernel), List.mem_of_getElem? (i := 597) (by decide +kernel), List.mem_of_getElem? (i := 598) (by decide +kernel)⟩
theorem lw_p53 : lw_okq (⟨"GlulxFramesModel", "against", "(II)I"⟩, 15) := ⟨⟨by decide +kernel, by decide +kernel⟩, List.mem_of_getElem? (i := 402) (by decide +kernel), List.mem_of_getElem? (i := 645) (by decide +kernel), List.mem_of_getElem? (i := 646) (by decide +kernel)⟩
theorem lw_p54 : lw_okq (⟨"GlulxFramesModel", "frames", "()I"⟩, 15) := ⟨⟨by decide +kernel, by decide +kernel⟩, List.mem_of_getElem? (i := 402) (by decide +kernel), List.mem_of_getElem? (i := 665) (by decide +kernel), List.mem_of_getElem? (i := 666) (by decide +kernel)⟩
def lw_privs_4 : List (MethodName × Nat) := [(⟨"GlulxFramesModel", "enter", "(II)V"⟩, 15), (⟨"GlulxFramesModel", "widthOf", "(II)I"⟩, 15), (⟨"GlulxFramesModel", "canLeave", "()Z"⟩, 15), (⟨"GlulxFramesModel", "leaves", "(I)I"⟩, 15), (⟨"GlulxFramesModel", "forget", "(I)V"⟩, 15), (⟨"GlulxFramesModel", "against", "(II)I"⟩, 15), (⟨"GlulxFramesModel", "frames", "()I"⟩, 15)]
theorem lw_r4 : ∀ q ∈ lw_privs_4, lw_okq q := List.forall_mem_cons.mpr ⟨lw_p48, List.forall_mem_cons.mpr ⟨lw_p49, List.forall_mem_cons.mpr ⟨lw_p50, List.forall_mem_cons.mpr ⟨lw_p51, List.forall_mem_cons.mpr ⟨lw_p52, List.forall_mem_cons.mpr ⟨lw_p53, List.forall_mem_cons.mpr ⟨lw_p54, fun _ h => absurd h List.not_mem_nil⟩⟩⟩⟩⟩⟩⟩
def lw_privs : List (MethodName × Nat) := lw_privs_1 ++ (lw_privs_2 ++ (lw_privs_3 ++ (lw_privs_4)))
def lw_tbl : List Cond := k2_sels lw_privs ++ tables_1
theorem lw_privs_ok : ∀ q ∈ lw_privs, lw_okq q := by
  show ∀ q ∈ lw_privs_1 ++ (lw_privs_2 ++ (lw_privs_3 ++ (lw_privs_4))), lw_okq q
  exact List.forall_mem_append.mpr ⟨lw_r1, List.forall_mem_append.mpr ⟨lw_r2, List.forall_mem_append.mpr ⟨lw_r3, lw_r4⟩⟩⟩
def RX0 : String := "GlulxFrames$Function"
def TX0 : u_T := fun k => match k with
  | 0 => ("GlulxFrames$Function", "head", "I", false)
  | 1 => ("GlulxFrames$Function", "acceleration", "I", false)
  | 2 => ("GlulxFrames$Function", "pairs", "I", false)
  | 3 => ("GlulxFrames$Function", "widths", "[I", true)
  | _ => ("GlulxFrames$Function", "counts", "[I", true)
def tyX0 : Nat → FieldType := fun k => match k with
  | 0 => .int
  | 1 => .int
  | 2 => .int
  | 3 => .array .int
  | _ => .array .int
abbrev wsX00 : List Cond := u_ws RX0 TX0 5
theorem nmX0 : ∀ a, a < 5 → ∀ b, b < 5 → a ≠ b → (TX0 a).2.1 ≠ (TX0 b).2.1 := by decide +kernel
theorem tyX0_ok : ∀ k, k < 5 → parseFieldDescriptor (TX0 k).2.2.1 = some (tyX0 k) := by decide +kernel
abbrev cX0_init : ByteArray := prog_2_method_1_code
def yX0_init : MethodName := ⟨RX0, "<init>", "()V"⟩
abbrev cX0_begin : ByteArray := prog_2_method_2_code
def yX0_begin : MethodName := ⟨RX0, "begin", "(I)V"⟩
abbrev cX0_addPair : ByteArray := prog_2_method_3_code
def yX0_addPair : MethodName := ⟨RX0, "addPair", "(II)I"⟩
abbrev cX0_widthOfPair : ByteArray := prog_2_method_4_code
def yX0_widthOfPair : MethodName := ⟨RX0, "widthOfPair", "(I)I"⟩
abbrev cX0_countOfPair : ByteArray := prog_2_method_5_code
def yX0_countOfPair : MethodName := ⟨RX0, "countOfPair", "(I)I"⟩
abbrev cX0_isAccelerated : ByteArray := prog_2_method_6_code
def yX0_isAccelerated : MethodName := ⟨RX0, "isAccelerated", "()Z"⟩
abbrev cX0_hasFrameHead : ByteArray := prog_2_method_7_code
def yX0_hasFrameHead : MethodName := ⟨RX0, "hasFrameHead", "()Z"⟩
abbrev cX0_takesPushed : ByteArray := prog_2_method_8_code
def yX0_takesPushed : MethodName := ⟨RX0, "takesPushed", "()Z"⟩
abbrev cX0_localCount : ByteArray := prog_2_method_9_code
def yX0_localCount : MethodName := ⟨RX0, "localCount", "()I"⟩
abbrev cX0_localsBegin : ByteArray := prog_2_method_10_code
def yX0_localsBegin : MethodName := ⟨RX0, "localsBegin", "()I"⟩
abbrev cX0_placeOfLocal : ByteArray := prog_2_method_11_code
def yX0_placeOfLocal : MethodName := ⟨RX0, "placeOfLocal", "(I)I"⟩
abbrev cX0_frameLength : ByteArray := prog_2_method_12_code
def yX0_frameLength : MethodName := ⟨RX0, "frameLength", "()I"⟩
abbrev cX0_bytesWith : ByteArray := prog_2_method_13_code
def yX0_bytesWith : MethodName := ⟨RX0, "bytesWith", "(I)I"⟩
abbrev cX0_upTo : ByteArray := prog_2_method_14_code
def yX0_upTo : MethodName := ⟨RX0, "upTo", "(II)I"⟩
def RX1 : String := "GlulxFrames$Row"
def TX1 : u_T := fun k => match k with
  | 0 => ("GlulxFrames$Row", "bytes", "[B", true)
  | _ => ("GlulxFrames$Row", "end", "I", false)
def tyX1 : Nat → FieldType := fun k => match k with
  | 0 => .array .byte
  | _ => .int
abbrev wsX10 : List Cond := u_ws RX1 TX1 2
theorem nmX1 : ∀ a, a < 2 → ∀ b, b < 2 → a ≠ b → (TX1 a).2.1 ≠ (TX1 b).2.1 := by decide +kernel
theorem tyX1_ok : ∀ k, k < 2 → parseFieldDescriptor (TX1 k).2.2.1 = some (tyX1 k) := by decide +kernel
abbrev cX1_init : ByteArray := prog_3_method_1_code
def yX1_init : MethodName := ⟨RX1, "<init>", "(I)V"⟩
abbrev cX1_size : ByteArray := prog_3_method_2_code
def yX1_size : MethodName := ⟨RX1, "size", "()I"⟩
abbrev cX1_end : ByteArray := prog_3_method_3_code
def yX1_end : MethodName := ⟨RX1, "end", "()I"⟩
abbrev cX1_reaches : ByteArray := prog_3_method_4_code
def yX1_reaches : MethodName := ⟨RX1, "reaches", "(I)Z"⟩
abbrev cX1_number : ByteArray := prog_3_method_5_code
def yX1_number : MethodName := ⟨RX1, "number", "(II)I"⟩
abbrev cX1_set : ByteArray := prog_3_method_6_code
def yX1_set : MethodName := ⟨RX1, "set", "(III)V"⟩
abbrev cX1_append : ByteArray := prog_3_method_7_code
def yX1_append : MethodName := ⟨RX1, "append", "(I)V"⟩
abbrev cX1_appendZeros : ByteArray := prog_3_method_8_code
def yX1_appendZeros : MethodName := ⟨RX1, "appendZeros", "(I)V"⟩
abbrev cX1_cutTo : ByteArray := prog_3_method_9_code
def yX1_cutTo : MethodName := ⟨RX1, "cutTo", "(I)V"⟩
abbrev cX1_byteOrZero : ByteArray := prog_3_method_10_code
def yX1_byteOrZero : MethodName := ⟨RX1, "byteOrZero", "(I)I"⟩
abbrev cX1_setByte : ByteArray := prog_3_method_11_code
def yX1_setByte : MethodName := ⟨RX1, "setByte", "(II)V"⟩
def RX2 : String := "GlulxFrames"
def TX2 : u_T := fun k => match k with
  | 0 => ("GlulxFrames", "row", "LGlulxFrames$Row;", true)
  | 1 => ("GlulxFrames", "functions", "[LGlulxFrames$Function;", true)
  | 2 => ("GlulxFrames", "cells", "[I", true)
  | 3 => ("GlulxFrames", "tokens", "[I", true)
  | 4 => ("GlulxFrames", "tokenCount", "I", false)
  | 5 => ("GlulxFrames", "taken", "[I", true)
  | 6 => ("GlulxFrames", "fp", "I", false)
  | 7 => ("GlulxFrames", "pc", "I", false)
  | _ => ("GlulxFrames", "latestPopped", "I", false)
def tyX2 : Nat → FieldType := fun k => match k with
  | 0 => .object "GlulxFrames$Row"
  | 1 => .array (.object "GlulxFrames$Function")
  | 2 => .array .int
  | 3 => .array .int
  | 4 => .int
  | 5 => .array .int
  | 6 => .int
  | 7 => .int
  | _ => .int
abbrev wsX20 : List Cond := u_ws RX2 TX2 9
theorem nmX2 : ∀ a, a < 9 → ∀ b, b < 9 → a ≠ b → (TX2 a).2.1 ≠ (TX2 b).2.1 := by decide +kernel
theorem tyX2_ok : ∀ k, k < 9 → parseFieldDescriptor (TX2 k).2.2.1 = some (tyX2 k) := by decide +kernel
abbrev cX2_init : ByteArray := prog_1_method_1_code
def yX2_init : MethodName := ⟨RX2, "<init>", "(I)V"⟩
abbrev cX2_function : ByteArray := prog_1_method_2_code
def yX2_function : MethodName := ⟨RX2, "function", "(II)I"⟩
abbrev cX2_format : ByteArray := prog_1_method_3_code
def yX2_format : MethodName := ⟨RX2, "format", "(III)I"⟩
abbrev cX2_accelerate : ByteArray := prog_1_method_4_code
def yX2_accelerate : MethodName := ⟨RX2, "accelerate", "(II)I"⟩
abbrev cX2_told : ByteArray := prog_1_method_5_code
def yX2_told : MethodName := ⟨RX2, "told", "(II)I"⟩
abbrev cX2_local : ByteArray := prog_1_method_6_code
def yX2_local : MethodName := ⟨RX2, "local", "(II)I"⟩
abbrev cX2_functionOf : ByteArray := prog_1_method_7_code
def yX2_functionOf : MethodName := ⟨RX2, "functionOf", "(I)LGlulxFrames$Function;"⟩
abbrev cX2_isWidth : ByteArray := prog_1_method_8_code
def yX2_isWidth : MethodName := ⟨RX2, "isWidth", "(I)Z"⟩
abbrev cX2_call : ByteArray := prog_1_method_9_code
def yX2_call : MethodName := ⟨RX2, "call", "(IIIII)I"⟩
abbrev cX2_callAccelerated : ByteArray := prog_1_method_10_code
def yX2_callAccelerated : MethodName := ⟨RX2, "callAccelerated", "(LGlulxFrames$Function;III)I"⟩
abbrev cX2_tail : ByteArray := prog_1_method_11_code
def yX2_tail : MethodName := ⟨RX2, "tail", "(II)I"⟩
abbrev cX2_leave : ByteArray := prog_1_method_12_code
def yX2_leave : MethodName := ⟨RX2, "leave", "(I)I"⟩
abbrev cX2_caught : ByteArray := prog_1_method_13_code
def yX2_caught : MethodName := ⟨RX2, "caught", "(III)I"⟩
abbrev cX2_thrown : ByteArray := prog_1_method_14_code
def yX2_thrown : MethodName := ⟨RX2, "thrown", "(II)I"⟩
abbrev cX2_givenBy : ByteArray := prog_1_method_15_code
def yX2_givenBy : MethodName := ⟨RX2, "givenBy", "(II)I"⟩
abbrev cX2_pushStub : ByteArray := prog_1_method_16_code
def yX2_pushStub : MethodName := ⟨RX2, "pushStub", "(III)V"⟩
abbrev cX2_goBack : ByteArray := prog_1_method_17_code
def yX2_goBack : MethodName := ⟨RX2, "goBack", "(II)I"⟩
abbrev cX2_frameBelow : ByteArray := prog_1_method_18_code
def yX2_frameBelow : MethodName := ⟨RX2, "frameBelow", "(I)I"⟩
abbrev cX2_pushFrame : ByteArray := prog_1_method_19_code
def yX2_pushFrame : MethodName := ⟨RX2, "pushFrame", "(LGlulxFrames$Function;I)V"⟩
abbrev cX2_pushArguments : ByteArray := prog_1_method_20_code
def yX2_pushArguments : MethodName := ⟨RX2, "pushArguments", "(I)V"⟩
abbrev cX2_setLocals : ByteArray := prog_1_method_21_code
def yX2_setLocals : MethodName := ⟨RX2, "setLocals", "(LGlulxFrames$Function;I)V"⟩
abbrev cX2_isFrame : ByteArray := prog_1_method_22_code
def yX2_isFrame : MethodName := ⟨RX2, "isFrame", "(I)Z"⟩
abbrev cX2_valuesAt : ByteArray := prog_1_method_23_code
def yX2_valuesAt : MethodName := ⟨RX2, "valuesAt", "(I)I"⟩
abbrev cX2_localsAt : ByteArray := prog_1_method_24_code
def yX2_localsAt : MethodName := ⟨RX2, "localsAt", "(I)I"⟩
abbrev cX2_isInLocals : ByteArray := prog_1_method_25_code
def yX2_isInLocals : MethodName := ⟨RX2, "isInLocals", "(III)Z"⟩
abbrev cX2_frameCount : ByteArray := prog_1_method_26_code
def yX2_frameCount : MethodName := ⟨RX2, "frameCount", "()I"⟩
abbrev cX2_isWay : ByteArray := prog_1_method_27_code
def yX2_isWay : MethodName := ⟨RX2, "isWay", "(I)Z"⟩
abbrev cX2_canGo : ByteArray := prog_1_method_28_code
def yX2_canGo : MethodName := ⟨RX2, "canGo", "(III)Z"⟩
abbrev cX2_send : ByteArray := prog_1_method_29_code
def yX2_send : MethodName := ⟨RX2, "send", "(III)V"⟩
abbrev cX2_isCell : ByteArray := prog_1_method_30_code
def yX2_isCell : MethodName := ⟨RX2, "isCell", "(I)Z"⟩
abbrev cX2_addToken : ByteArray := prog_1_method_31_code
def yX2_addToken : MethodName := ⟨RX2, "addToken", "(I)V"⟩
abbrev cX2_latestToken : ByteArray := prog_1_method_32_code
def yX2_latestToken : MethodName := ⟨RX2, "latestToken", "()I"⟩
abbrev cX2_isLive : ByteArray := prog_1_method_33_code
def yX2_isLive : MethodName := ⟨RX2, "isLive", "(I)Z"⟩
abbrev cX2_dropTokensFrom : ByteArray := prog_1_method_34_code
def yX2_dropTokensFrom : MethodName := ⟨RX2, "dropTokensFrom", "(I)V"⟩
abbrev cX2_push : ByteArray := prog_1_method_35_code
def yX2_push : MethodName := ⟨RX2, "push", "(I)I"⟩
abbrev cX2_pop : ByteArray := prog_1_method_36_code
def yX2_pop : MethodName := ⟨RX2, "pop", "()I"⟩
abbrev cX2_popped : ByteArray := prog_1_method_37_code
def yX2_popped : MethodName := ⟨RX2, "popped", "()I"⟩
abbrev cX2_peek : ByteArray := prog_1_method_38_code
def yX2_peek : MethodName := ⟨RX2, "peek", "(I)I"⟩
abbrev cX2_copy : ByteArray := prog_1_method_39_code
def yX2_copy : MethodName := ⟨RX2, "copy", "(I)I"⟩
abbrev cX2_roll : ByteArray := prog_1_method_40_code
def yX2_roll : MethodName := ⟨RX2, "roll", "(II)I"⟩
abbrev cX2_swap : ByteArray := prog_1_method_41_code
def yX2_swap : MethodName := ⟨RX2, "swap", "()I"⟩
abbrev cX2_faultOfLast : ByteArray := prog_1_method_42_code
def yX2_faultOfLast : MethodName := ⟨RX2, "faultOfLast", "(I)I"⟩
abbrev cX2_rollLast : ByteArray := prog_1_method_43_code
def yX2_rollLast : MethodName := ⟨RX2, "rollLast", "(II)V"⟩
abbrev cX2_valuesBegin : ByteArray := prog_1_method_44_code
def yX2_valuesBegin : MethodName := ⟨RX2, "valuesBegin", "()I"⟩
abbrev cX2_valueCount : ByteArray := prog_1_method_45_code
def yX2_valueCount : MethodName := ⟨RX2, "valueCount", "()I"⟩
abbrev cX2_valueFromLast : ByteArray := prog_1_method_46_code
def yX2_valueFromLast : MethodName := ⟨RX2, "valueFromLast", "(I)I"⟩
abbrev cX2_takeValues : ByteArray := prog_1_method_47_code
def yX2_takeValues : MethodName := ⟨RX2, "takeValues", "(I)V"⟩
abbrev cX2_takenValue : ByteArray := prog_1_method_48_code
def yX2_takenValue : MethodName := ⟨RX2, "takenValue", "(I)I"⟩
abbrev cX2_load : ByteArray := prog_1_method_49_code
def yX2_load : MethodName := ⟨RX2, "load", "(II)I"⟩
abbrev cX2_store : ByteArray := prog_1_method_50_code
def yX2_store : MethodName := ⟨RX2, "store", "(III)I"⟩
abbrev cX2_faultOfLocal : ByteArray := prog_1_method_51_code
def yX2_faultOfLocal : MethodName := ⟨RX2, "faultOfLocal", "(II)I"⟩
abbrev cX2_byteAt : ByteArray := prog_1_method_52_code
def yX2_byteAt : MethodName := ⟨RX2, "byteAt", "(I)I"⟩
abbrev cX2_cell : ByteArray := prog_1_method_53_code
def yX2_cell : MethodName := ⟨RX2, "cell", "(I)I"⟩
abbrev cX2_count : ByteArray := prog_1_method_54_code
def yX2_count : MethodName := ⟨RX2, "count", "(I)I"⟩
def RX3 : String := "GlulxFramesModel"
def TX3 : u_T := fun k => match k with
  | 0 => ("GlulxFramesModel", "size", "I", true)
  | 1 => ("GlulxFramesModel", "row", "[I", true)
  | 2 => ("GlulxFramesModel", "sp", "I", false)
  | 3 => ("GlulxFramesModel", "fp", "I", false)
  | 4 => ("GlulxFramesModel", "pc", "I", false)
  | 5 => ("GlulxFramesModel", "cells", "[I", true)
  | 6 => ("GlulxFramesModel", "heads", "[I", true)
  | 7 => ("GlulxFramesModel", "pairs", "[I", true)
  | 8 => ("GlulxFramesModel", "widths", "[I", true)
  | 9 => ("GlulxFramesModel", "counts", "[I", true)
  | 10 => ("GlulxFramesModel", "fast", "[I", true)
  | 11 => ("GlulxFramesModel", "tokens", "[I", true)
  | 12 => ("GlulxFramesModel", "live", "I", false)
  | 13 => ("GlulxFramesModel", "popped", "I", false)
  | _ => ("GlulxFramesModel", "given", "[I", true)
def tyX3 : Nat → FieldType := fun k => match k with
  | 0 => .int
  | 1 => .array .int
  | 2 => .int
  | 3 => .int
  | 4 => .int
  | 5 => .array .int
  | 6 => .array .int
  | 7 => .array .int
  | 8 => .array .int
  | 9 => .array .int
  | 10 => .array .int
  | 11 => .array .int
  | 12 => .int
  | 13 => .int
  | _ => .array .int
abbrev wsX30 : List Cond := u_ws RX3 TX3 15
theorem nmX3 : ∀ a, a < 15 → ∀ b, b < 15 → a ≠ b → (TX3 a).2.1 ≠ (TX3 b).2.1 := by decide +kernel
theorem tyX3_ok : ∀ k, k < 15 → parseFieldDescriptor (TX3 k).2.2.1 = some (tyX3 k) := by decide +kernel
abbrev cX3_init : ByteArray := prog_5_method_1_code
def yX3_init : MethodName := ⟨RX3, "<init>", "(I)V"⟩
abbrev cX3_in : ByteArray := prog_5_method_2_code
def yX3_in : MethodName := ⟨RX3, "in", "(JJJ)Z"⟩
abbrev cX3_fault : ByteArray := prog_5_method_3_code
def yX3_fault : MethodName := ⟨RX3, "fault", "(I)I"⟩
abbrev cX3_read : ByteArray := prog_5_method_4_code
def yX3_read : MethodName := ⟨RX3, "read", "(II)I"⟩
abbrev cX3_write : ByteArray := prog_5_method_5_code
def yX3_write : MethodName := ⟨RX3, "write", "(III)V"⟩
abbrev cX3_isFunction : ByteArray := prog_5_method_6_code
def yX3_isFunction : MethodName := ⟨RX3, "isFunction", "(I)Z"⟩
abbrev cX3_function : ByteArray := prog_5_method_7_code
def yX3_function : MethodName := ⟨RX3, "function", "(II)I"⟩
abbrev cX3_isWidth : ByteArray := prog_5_method_8_code
def yX3_isWidth : MethodName := ⟨RX3, "isWidth", "(I)Z"⟩
abbrev cX3_format : ByteArray := prog_5_method_9_code
def yX3_format : MethodName := ⟨RX3, "format", "(III)I"⟩
abbrev cX3_accelerate : ByteArray := prog_5_method_10_code
def yX3_accelerate : MethodName := ⟨RX3, "accelerate", "(II)I"⟩
abbrev cX3_up : ByteArray := prog_5_method_11_code
def yX3_up : MethodName := ⟨RX3, "up", "(II)I"⟩
abbrev cX3_begin : ByteArray := prog_5_method_12_code
def yX3_begin : MethodName := ⟨RX3, "begin", "(I)I"⟩
abbrev cX3_locals : ByteArray := prog_5_method_13_code
def yX3_locals : MethodName := ⟨RX3, "locals", "(I)I"⟩
abbrev cX3_placeOf : ByteArray := prog_5_method_14_code
def yX3_placeOf : MethodName := ⟨RX3, "placeOf", "(II)I"⟩
abbrev cX3_widthOf : ByteArray := prog_5_method_15_code
def yX3_widthOf : MethodName := ⟨RX3, "widthOf", "(II)I"⟩
abbrev cX3_lengthOf : ByteArray := prog_5_method_16_code
def yX3_lengthOf : MethodName := ⟨RX3, "lengthOf", "(I)I"⟩
abbrev cX3_told : ByteArray := prog_5_method_17_code
def yX3_told : MethodName := ⟨RX3, "told", "(II)I"⟩
abbrev cX3_local : ByteArray := prog_5_method_18_code
def yX3_local : MethodName := ⟨RX3, "local", "(II)I"⟩
abbrev cX3_hasFrame : ByteArray := prog_5_method_19_code
def yX3_hasFrame : MethodName := ⟨RX3, "hasFrame", "()Z"⟩
abbrev cX3_base : ByteArray := prog_5_method_20_code
def yX3_base : MethodName := ⟨RX3, "base", "()I"⟩
abbrev cX3_values : ByteArray := prog_5_method_21_code
def yX3_values : MethodName := ⟨RX3, "values", "()I"⟩
abbrev cX3_lengthAt : ByteArray := prog_5_method_22_code
def yX3_lengthAt : MethodName := ⟨RX3, "lengthAt", "(I)I"⟩
abbrev cX3_localsAt : ByteArray := prog_5_method_23_code
def yX3_localsAt : MethodName := ⟨RX3, "localsAt", "(I)I"⟩
abbrev cX3_isPlace : ByteArray := prog_5_method_24_code
def yX3_isPlace : MethodName := ⟨RX3, "isPlace", "(II)Z"⟩
abbrev cX3_canGo : ByteArray := prog_5_method_25_code
def yX3_canGo : MethodName := ⟨RX3, "canGo", "(III)Z"⟩
abbrev cX3_pushes : ByteArray := prog_5_method_26_code
def yX3_pushes : MethodName := ⟨RX3, "pushes", "(I)V"⟩
abbrev cX3_go : ByteArray := prog_5_method_27_code
def yX3_go : MethodName := ⟨RX3, "go", "(III)V"⟩
abbrev cX3_stub : ByteArray := prog_5_method_28_code
def yX3_stub : MethodName := ⟨RX3, "stub", "(III)V"⟩
abbrev cX3_forget : ByteArray := prog_5_method_29_code
def yX3_forget : MethodName := ⟨RX3, "forget", "(I)V"⟩
abbrev cX3_result : ByteArray := prog_5_method_30_code
def yX3_result : MethodName := ⟨RX3, "result", "(II)I"⟩
abbrev cX3_take : ByteArray := prog_5_method_31_code
def yX3_take : MethodName := ⟨RX3, "take", "(I)V"⟩
abbrev cX3_room : ByteArray := prog_5_method_32_code
def yX3_room : MethodName := ⟨RX3, "room", "(II)I"⟩
abbrev cX3_enter : ByteArray := prog_5_method_33_code
def yX3_enter : MethodName := ⟨RX3, "enter", "(II)V"⟩
abbrev cX3_hasHead : ByteArray := prog_5_method_34_code
def yX3_hasHead : MethodName := ⟨RX3, "hasHead", "(I)Z"⟩
abbrev cX3_call : ByteArray := prog_5_method_35_code
def yX3_call : MethodName := ⟨RX3, "call", "(IIIII)I"⟩
abbrev cX3_canLeave : ByteArray := prog_5_method_36_code
def yX3_canLeave : MethodName := ⟨RX3, "canLeave", "()Z"⟩
abbrev cX3_leaves : ByteArray := prog_5_method_37_code
def yX3_leaves : MethodName := ⟨RX3, "leaves", "(I)I"⟩
abbrev cX3_leave : ByteArray := prog_5_method_38_code
def yX3_leave : MethodName := ⟨RX3, "leave", "(I)I"⟩
abbrev cX3_caught : ByteArray := prog_5_method_39_code
def yX3_caught : MethodName := ⟨RX3, "caught", "(III)I"⟩
abbrev cX3_thrown : ByteArray := prog_5_method_40_code
def yX3_thrown : MethodName := ⟨RX3, "thrown", "(II)I"⟩
abbrev cX3_tail : ByteArray := prog_5_method_41_code
def yX3_tail : MethodName := ⟨RX3, "tail", "(II)I"⟩
abbrev cX3_push : ByteArray := prog_5_method_42_code
def yX3_push : MethodName := ⟨RX3, "push", "(I)I"⟩
abbrev cX3_pop : ByteArray := prog_5_method_43_code
def yX3_pop : MethodName := ⟨RX3, "pop", "()I"⟩
abbrev cX3_popped : ByteArray := prog_5_method_44_code
def yX3_popped : MethodName := ⟨RX3, "popped", "()I"⟩
abbrev cX3_peek : ByteArray := prog_5_method_45_code
def yX3_peek : MethodName := ⟨RX3, "peek", "(I)I"⟩
abbrev cX3_copy : ByteArray := prog_5_method_46_code
def yX3_copy : MethodName := ⟨RX3, "copy", "(I)I"⟩
abbrev cX3_roll : ByteArray := prog_5_method_47_code
def yX3_roll : MethodName := ⟨RX3, "roll", "(II)I"⟩
abbrev cX3_swap : ByteArray := prog_5_method_48_code
def yX3_swap : MethodName := ⟨RX3, "swap", "()I"⟩
abbrev cX3_against : ByteArray := prog_5_method_49_code
def yX3_against : MethodName := ⟨RX3, "against", "(II)I"⟩
abbrev cX3_load : ByteArray := prog_5_method_50_code
def yX3_load : MethodName := ⟨RX3, "load", "(II)I"⟩
abbrev cX3_store : ByteArray := prog_5_method_51_code
def yX3_store : MethodName := ⟨RX3, "store", "(III)I"⟩
abbrev cX3_byteAt : ByteArray := prog_5_method_52_code
def yX3_byteAt : MethodName := ⟨RX3, "byteAt", "(I)I"⟩
abbrev cX3_cell : ByteArray := prog_5_method_53_code
def yX3_cell : MethodName := ⟨RX3, "cell", "(I)I"⟩
abbrev cX3_frames : ByteArray := prog_5_method_54_code
def yX3_frames : MethodName := ⟨RX3, "frames", "()I"⟩
abbrev cX3_count : ByteArray := prog_5_method_55_code
def yX3_count : MethodName := ⟨RX3, "count", "(I)I"⟩
def RJ9 : String := "java/lang/Math"
def TJ9 : u_T := fun k => match k with
  | _ => ("", "", "", false)
def tyJ9 : Nat → FieldType := fun k => match k with
  | _ => .int
abbrev wsJ90 : List Cond := u_ws RJ9 TJ9 0
theorem nmJ9 : ∀ a, a < 0 → ∀ b, b < 0 → a ≠ b → (TJ9 a).2.1 ≠ (TJ9 b).2.1 := by decide +kernel
theorem tyJ9_ok : ∀ k, k < 0 → parseFieldDescriptor (TJ9 k).2.2.1 = some (tyJ9 k) := by decide +kernel
abbrev cJ9_floorMod_7cf53 : ByteArray := prog_6_method_50_code
def yJ9_floorMod_7cf53 : MethodName := ⟨RJ9, "floorMod", "(II)I"⟩
abbrev cJ9_max_7cf53 : ByteArray := prog_6_method_65_code
def yJ9_max_7cf53 : MethodName := ⟨RJ9, "max", "(II)I"⟩
abbrev cJ9_min_7cf53 : ByteArray := prog_6_method_69_code
def yJ9_min_7cf53 : MethodName := ⟨RJ9, "min", "(II)I"⟩
def RL : String := "GlulxFramesLaw"
abbrev cL_cell : ByteArray := method_2_code
def yL_cell : MethodName := ⟨RL, "cell", "([II)I"⟩
abbrev cL_law : ByteArray := code
def yL_law : MethodName := ⟨RL, "law", "([I)Z"⟩
abbrev vwCl : List vw_C := [(RX0, TX0, 5), (RX1, TX1, 2), (RX2, TX2, 9), (RX3, TX3, 15)]
