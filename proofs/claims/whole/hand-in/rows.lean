section
-- ===== PART A: goes FIRST, ahead of the names: the tables' words, and 'selects' of the private methods out of them =====
/-- a private method of a class that the tables say can be made, by its rows of tables_1 -/
def lw_okq (q : MethodName × Nat) : Prop := (q.1.cls ≠ "java/lang/invoke/MethodHandle" ∧ q.1.cls ≠ "java/lang/invoke/VarHandle") ∧ Cond.instantiable q.1.cls q.2 ∈ tables_1 ∧ Cond.privateMethod q.1 ∈ tables_1 ∧ Cond.instanceMethod q.1 ∈ tables_1
theorem lw_p0 : lw_okq (⟨"GlulxFrames", "functionOf", "(I)LGlulxFrames$Function;"⟩, 9) := ⟨⟨by decide +kernel, by decide +kernel⟩, List.mem_of_getElem? (i := 7) (by decide +kernel), List.mem_of_getElem? (i := 98) (by decide +kernel), List.mem_of_getElem? (i := 99) (by decide +kernel)⟩
theorem lw_p1 : lw_okq (⟨"GlulxFrames", "valueCount", "()I"⟩, 9) := ⟨⟨by decide +kernel, by decide +kernel⟩, List.mem_of_getElem? (i := 7) (by decide +kernel), List.mem_of_getElem? (i := 164) (by decide +kernel), List.mem_of_getElem? (i := 165) (by decide +kernel)⟩
theorem lw_p2 : lw_okq (⟨"GlulxFrames", "valuesBegin", "()I"⟩, 9) := ⟨⟨by decide +kernel, by decide +kernel⟩, List.mem_of_getElem? (i := 7) (by decide +kernel), List.mem_of_getElem? (i := 172) (by decide +kernel), List.mem_of_getElem? (i := 173) (by decide +kernel)⟩
theorem lw_p3 : lw_okq (⟨"GlulxFrames", "latestToken", "()I"⟩, 9) := ⟨⟨by decide +kernel, by decide +kernel⟩, List.mem_of_getElem? (i := 7) (by decide +kernel), List.mem_of_getElem? (i := 176) (by decide +kernel), List.mem_of_getElem? (i := 177) (by decide +kernel)⟩
theorem lw_p4 : lw_okq (⟨"GlulxFrames", "valuesAt", "(I)I"⟩, 9) := ⟨⟨by decide +kernel, by decide +kernel⟩, List.mem_of_getElem? (i := 7) (by decide +kernel), List.mem_of_getElem? (i := 180) (by decide +kernel), List.mem_of_getElem? (i := 181) (by decide +kernel)⟩
theorem lw_p5 : lw_okq (⟨"GlulxFrames$Row", "byteOrZero", "(I)I"⟩, 2) := ⟨⟨by decide +kernel, by decide +kernel⟩, List.mem_of_getElem? (i := 17) (by decide +kernel), List.mem_of_getElem? (i := 188) (by decide +kernel), List.mem_of_getElem? (i := 189) (by decide +kernel)⟩
theorem lw_p6 : lw_okq (⟨"GlulxFrames", "callAccelerated", "(LGlulxFrames$Function;III)I"⟩, 9) := ⟨⟨by decide +kernel, by decide +kernel⟩, List.mem_of_getElem? (i := 7) (by decide +kernel), List.mem_of_getElem? (i := 196) (by decide +kernel), List.mem_of_getElem? (i := 197) (by decide +kernel)⟩
theorem lw_p7 : lw_okq (⟨"GlulxFrames", "canGo", "(III)Z"⟩, 9) := ⟨⟨by decide +kernel, by decide +kernel⟩, List.mem_of_getElem? (i := 7) (by decide +kernel), List.mem_of_getElem? (i := 200) (by decide +kernel), List.mem_of_getElem? (i := 201) (by decide +kernel)⟩
theorem lw_p8 : lw_okq (⟨"GlulxFrames", "isInLocals", "(III)Z"⟩, 9) := ⟨⟨by decide +kernel, by decide +kernel⟩, List.mem_of_getElem? (i := 7) (by decide +kernel), List.mem_of_getElem? (i := 210) (by decide +kernel), List.mem_of_getElem? (i := 211) (by decide +kernel)⟩
theorem lw_p9 : lw_okq (⟨"GlulxFrames", "localsAt", "(I)I"⟩, 9) := ⟨⟨by decide +kernel, by decide +kernel⟩, List.mem_of_getElem? (i := 7) (by decide +kernel), List.mem_of_getElem? (i := 214) (by decide +kernel), List.mem_of_getElem? (i := 215) (by decide +kernel)⟩
theorem lw_p10 : lw_okq (⟨"GlulxFrames", "givenBy", "(II)I"⟩, 9) := ⟨⟨by decide +kernel, by decide +kernel⟩, List.mem_of_getElem? (i := 7) (by decide +kernel), List.mem_of_getElem? (i := 222) (by decide +kernel), List.mem_of_getElem? (i := 223) (by decide +kernel)⟩
theorem lw_p11 : lw_okq (⟨"GlulxFrames", "valueFromLast", "(I)I"⟩, 9) := ⟨⟨by decide +kernel, by decide +kernel⟩, List.mem_of_getElem? (i := 7) (by decide +kernel), List.mem_of_getElem? (i := 226) (by decide +kernel), List.mem_of_getElem? (i := 227) (by decide +kernel)⟩
theorem lw_p12 : lw_okq (⟨"GlulxFrames", "send", "(III)V"⟩, 9) := ⟨⟨by decide +kernel, by decide +kernel⟩, List.mem_of_getElem? (i := 7) (by decide +kernel), List.mem_of_getElem? (i := 234) (by decide +kernel), List.mem_of_getElem? (i := 235) (by decide +kernel)⟩
theorem lw_p13 : lw_okq (⟨"GlulxFrames$Row", "setByte", "(II)V"⟩, 2) := ⟨⟨by decide +kernel, by decide +kernel⟩, List.mem_of_getElem? (i := 17) (by decide +kernel), List.mem_of_getElem? (i := 242) (by decide +kernel), List.mem_of_getElem? (i := 243) (by decide +kernel)⟩
theorem lw_p14 : lw_okq (⟨"GlulxFrames", "takeValues", "(I)V"⟩, 9) := ⟨⟨by decide +kernel, by decide +kernel⟩, List.mem_of_getElem? (i := 7) (by decide +kernel), List.mem_of_getElem? (i := 268) (by decide +kernel), List.mem_of_getElem? (i := 269) (by decide +kernel)⟩
theorem lw_p15 : lw_okq (⟨"GlulxFrames", "pushStub", "(III)V"⟩, 9) := ⟨⟨by decide +kernel, by decide +kernel⟩, List.mem_of_getElem? (i := 7) (by decide +kernel), List.mem_of_getElem? (i := 272) (by decide +kernel), List.mem_of_getElem? (i := 273) (by decide +kernel)⟩
def lw_privs_1 : List (MethodName × Nat) := [(⟨"GlulxFrames", "functionOf", "(I)LGlulxFrames$Function;"⟩, 9), (⟨"GlulxFrames", "valueCount", "()I"⟩, 9), (⟨"GlulxFrames", "valuesBegin", "()I"⟩, 9), (⟨"GlulxFrames", "latestToken", "()I"⟩, 9), (⟨"GlulxFrames", "valuesAt", "(I)I"⟩, 9), (⟨"GlulxFrames$Row", "byteOrZero", "(I)I"⟩, 2), (⟨"GlulxFrames", "callAccelerated", "(LGlulxFrames$Function;III)I"⟩, 9), (⟨"GlulxFrames", "canGo", "(III)Z"⟩, 9), (⟨"GlulxFrames", "isInLocals", "(III)Z"⟩, 9), (⟨"GlulxFrames", "localsAt", "(I)I"⟩, 9), (⟨"GlulxFrames", "givenBy", "(II)I"⟩, 9), (⟨"GlulxFrames", "valueFromLast", "(I)I"⟩, 9), (⟨"GlulxFrames", "send", "(III)V"⟩, 9), (⟨"GlulxFrames$Row", "setByte", "(II)V"⟩, 2), (⟨"GlulxFrames", "takeValues", "(I)V"⟩, 9), (⟨"GlulxFrames", "pushStub", "(III)V"⟩, 9)]
theorem lw_r1 : ∀ q ∈ lw_privs_1, lw_okq q := List.forall_mem_cons.mpr ⟨lw_p0, List.forall_mem_cons.mpr ⟨lw_p1, List.forall_mem_cons.mpr ⟨lw_p2, List.forall_mem_cons.mpr ⟨lw_p3, List.forall_mem_cons.mpr ⟨lw_p4, List.forall_mem_cons.mpr ⟨lw_p5, List.forall_mem_cons.mpr ⟨lw_p6, List.forall_mem_cons.mpr ⟨lw_p7, List.forall_mem_cons.mpr ⟨lw_p8, List.forall_mem_cons.mpr ⟨lw_p9, List.forall_mem_cons.mpr ⟨lw_p10, List.forall_mem_cons.mpr ⟨lw_p11, List.forall_mem_cons.mpr ⟨lw_p12, List.forall_mem_cons.mpr ⟨lw_p13, List.forall_mem_cons.mpr ⟨lw_p14, List.forall_mem_cons.mpr ⟨lw_p15, fun _ h => absurd h List.not_mem_nil⟩⟩⟩⟩⟩⟩⟩⟩⟩⟩⟩⟩⟩⟩⟩⟩
theorem lw_p16 : lw_okq (⟨"GlulxFrames", "pushFrame", "(LGlulxFrames$Function;I)V"⟩, 9) := ⟨⟨by decide +kernel, by decide +kernel⟩, List.mem_of_getElem? (i := 7) (by decide +kernel), List.mem_of_getElem? (i := 276) (by decide +kernel), List.mem_of_getElem? (i := 277) (by decide +kernel)⟩
theorem lw_p17 : lw_okq (⟨"GlulxFrames", "pushArguments", "(I)V"⟩, 9) := ⟨⟨by decide +kernel, by decide +kernel⟩, List.mem_of_getElem? (i := 7) (by decide +kernel), List.mem_of_getElem? (i := 284) (by decide +kernel), List.mem_of_getElem? (i := 285) (by decide +kernel)⟩
theorem lw_p18 : lw_okq (⟨"GlulxFrames", "takenValue", "(I)I"⟩, 9) := ⟨⟨by decide +kernel, by decide +kernel⟩, List.mem_of_getElem? (i := 7) (by decide +kernel), List.mem_of_getElem? (i := 288) (by decide +kernel), List.mem_of_getElem? (i := 289) (by decide +kernel)⟩
theorem lw_p19 : lw_okq (⟨"GlulxFrames", "setLocals", "(LGlulxFrames$Function;I)V"⟩, 9) := ⟨⟨by decide +kernel, by decide +kernel⟩, List.mem_of_getElem? (i := 7) (by decide +kernel), List.mem_of_getElem? (i := 292) (by decide +kernel), List.mem_of_getElem? (i := 293) (by decide +kernel)⟩
theorem lw_p20 : lw_okq (⟨"GlulxFrames", "goBack", "(II)I"⟩, 9) := ⟨⟨by decide +kernel, by decide +kernel⟩, List.mem_of_getElem? (i := 7) (by decide +kernel), List.mem_of_getElem? (i := 300) (by decide +kernel), List.mem_of_getElem? (i := 301) (by decide +kernel)⟩
theorem lw_p21 : lw_okq (⟨"GlulxFrames", "frameBelow", "(I)I"⟩, 9) := ⟨⟨by decide +kernel, by decide +kernel⟩, List.mem_of_getElem? (i := 7) (by decide +kernel), List.mem_of_getElem? (i := 304) (by decide +kernel), List.mem_of_getElem? (i := 305) (by decide +kernel)⟩
theorem lw_p22 : lw_okq (⟨"GlulxFrames", "dropTokensFrom", "(I)V"⟩, 9) := ⟨⟨by decide +kernel, by decide +kernel⟩, List.mem_of_getElem? (i := 7) (by decide +kernel), List.mem_of_getElem? (i := 308) (by decide +kernel), List.mem_of_getElem? (i := 309) (by decide +kernel)⟩
theorem lw_p23 : lw_okq (⟨"GlulxFrames", "addToken", "(I)V"⟩, 9) := ⟨⟨by decide +kernel, by decide +kernel⟩, List.mem_of_getElem? (i := 7) (by decide +kernel), List.mem_of_getElem? (i := 320) (by decide +kernel), List.mem_of_getElem? (i := 321) (by decide +kernel)⟩
theorem lw_p24 : lw_okq (⟨"GlulxFrames", "isLive", "(I)Z"⟩, 9) := ⟨⟨by decide +kernel, by decide +kernel⟩, List.mem_of_getElem? (i := 7) (by decide +kernel), List.mem_of_getElem? (i := 328) (by decide +kernel), List.mem_of_getElem? (i := 329) (by decide +kernel)⟩
theorem lw_p25 : lw_okq (⟨"GlulxFrames", "faultOfLast", "(I)I"⟩, 9) := ⟨⟨by decide +kernel, by decide +kernel⟩, List.mem_of_getElem? (i := 7) (by decide +kernel), List.mem_of_getElem? (i := 340) (by decide +kernel), List.mem_of_getElem? (i := 341) (by decide +kernel)⟩
theorem lw_p26 : lw_okq (⟨"GlulxFrames", "rollLast", "(II)V"⟩, 9) := ⟨⟨by decide +kernel, by decide +kernel⟩, List.mem_of_getElem? (i := 7) (by decide +kernel), List.mem_of_getElem? (i := 363) (by decide +kernel), List.mem_of_getElem? (i := 364) (by decide +kernel)⟩
theorem lw_p27 : lw_okq (⟨"GlulxFrames", "faultOfLocal", "(II)I"⟩, 9) := ⟨⟨by decide +kernel, by decide +kernel⟩, List.mem_of_getElem? (i := 7) (by decide +kernel), List.mem_of_getElem? (i := 375) (by decide +kernel), List.mem_of_getElem? (i := 376) (by decide +kernel)⟩
theorem lw_p28 : lw_okq (⟨"GlulxFrames", "frameCount", "()I"⟩, 9) := ⟨⟨by decide +kernel, by decide +kernel⟩, List.mem_of_getElem? (i := 7) (by decide +kernel), List.mem_of_getElem? (i := 395) (by decide +kernel), List.mem_of_getElem? (i := 396) (by decide +kernel)⟩
theorem lw_p29 : lw_okq (⟨"GlulxFramesModel", "locals", "(I)I"⟩, 15) := ⟨⟨by decide +kernel, by decide +kernel⟩, List.mem_of_getElem? (i := 402) (by decide +kernel), List.mem_of_getElem? (i := 483) (by decide +kernel), List.mem_of_getElem? (i := 484) (by decide +kernel)⟩
theorem lw_p30 : lw_okq (⟨"GlulxFramesModel", "lengthOf", "(I)I"⟩, 15) := ⟨⟨by decide +kernel, by decide +kernel⟩, List.mem_of_getElem? (i := 402) (by decide +kernel), List.mem_of_getElem? (i := 487) (by decide +kernel), List.mem_of_getElem? (i := 488) (by decide +kernel)⟩
theorem lw_p31 : lw_okq (⟨"GlulxFramesModel", "placeOf", "(II)I"⟩, 15) := ⟨⟨by decide +kernel, by decide +kernel⟩, List.mem_of_getElem? (i := 402) (by decide +kernel), List.mem_of_getElem? (i := 491) (by decide +kernel), List.mem_of_getElem? (i := 492) (by decide +kernel)⟩
def lw_privs_2 : List (MethodName × Nat) := [(⟨"GlulxFrames", "pushFrame", "(LGlulxFrames$Function;I)V"⟩, 9), (⟨"GlulxFrames", "pushArguments", "(I)V"⟩, 9), (⟨"GlulxFrames", "takenValue", "(I)I"⟩, 9), (⟨"GlulxFrames", "setLocals", "(LGlulxFrames$Function;I)V"⟩, 9), (⟨"GlulxFrames", "goBack", "(II)I"⟩, 9), (⟨"GlulxFrames", "frameBelow", "(I)I"⟩, 9), (⟨"GlulxFrames", "dropTokensFrom", "(I)V"⟩, 9), (⟨"GlulxFrames", "addToken", "(I)V"⟩, 9), (⟨"GlulxFrames", "isLive", "(I)Z"⟩, 9), (⟨"GlulxFrames", "faultOfLast", "(I)I"⟩, 9), (⟨"GlulxFrames", "rollLast", "(II)V"⟩, 9), (⟨"GlulxFrames", "faultOfLocal", "(II)I"⟩, 9), (⟨"GlulxFrames", "frameCount", "()I"⟩, 9), (⟨"GlulxFramesModel", "locals", "(I)I"⟩, 15), (⟨"GlulxFramesModel", "lengthOf", "(I)I"⟩, 15), (⟨"GlulxFramesModel", "placeOf", "(II)I"⟩, 15)]
theorem lw_r2 : ∀ q ∈ lw_privs_2, lw_okq q := List.forall_mem_cons.mpr ⟨lw_p16, List.forall_mem_cons.mpr ⟨lw_p17, List.forall_mem_cons.mpr ⟨lw_p18, List.forall_mem_cons.mpr ⟨lw_p19, List.forall_mem_cons.mpr ⟨lw_p20, List.forall_mem_cons.mpr ⟨lw_p21, List.forall_mem_cons.mpr ⟨lw_p22, List.forall_mem_cons.mpr ⟨lw_p23, List.forall_mem_cons.mpr ⟨lw_p24, List.forall_mem_cons.mpr ⟨lw_p25, List.forall_mem_cons.mpr ⟨lw_p26, List.forall_mem_cons.mpr ⟨lw_p27, List.forall_mem_cons.mpr ⟨lw_p28, List.forall_mem_cons.mpr ⟨lw_p29, List.forall_mem_cons.mpr ⟨lw_p30, List.forall_mem_cons.mpr ⟨lw_p31, fun _ h => absurd h List.not_mem_nil⟩⟩⟩⟩⟩⟩⟩⟩⟩⟩⟩⟩⟩⟩⟩⟩
theorem lw_p32 : lw_okq (⟨"GlulxFramesModel", "begin", "(I)I"⟩, 15) := ⟨⟨by decide +kernel, by decide +kernel⟩, List.mem_of_getElem? (i := 402) (by decide +kernel), List.mem_of_getElem? (i := 495) (by decide +kernel), List.mem_of_getElem? (i := 496) (by decide +kernel)⟩
theorem lw_p33 : lw_okq (⟨"GlulxFramesModel", "hasFrame", "()Z"⟩, 15) := ⟨⟨by decide +kernel, by decide +kernel⟩, List.mem_of_getElem? (i := 402) (by decide +kernel), List.mem_of_getElem? (i := 510) (by decide +kernel), List.mem_of_getElem? (i := 511) (by decide +kernel)⟩
theorem lw_p34 : lw_okq (⟨"GlulxFramesModel", "values", "()I"⟩, 15) := ⟨⟨by decide +kernel, by decide +kernel⟩, List.mem_of_getElem? (i := 402) (by decide +kernel), List.mem_of_getElem? (i := 517) (by decide +kernel), List.mem_of_getElem? (i := 518) (by decide +kernel)⟩
theorem lw_p35 : lw_okq (⟨"GlulxFramesModel", "base", "()I"⟩, 15) := ⟨⟨by decide +kernel, by decide +kernel⟩, List.mem_of_getElem? (i := 402) (by decide +kernel), List.mem_of_getElem? (i := 521) (by decide +kernel), List.mem_of_getElem? (i := 522) (by decide +kernel)⟩
theorem lw_p36 : lw_okq (⟨"GlulxFramesModel", "read", "(II)I"⟩, 15) := ⟨⟨by decide +kernel, by decide +kernel⟩, List.mem_of_getElem? (i := 402) (by decide +kernel), List.mem_of_getElem? (i := 525) (by decide +kernel), List.mem_of_getElem? (i := 526) (by decide +kernel)⟩
theorem lw_p37 : lw_okq (⟨"GlulxFramesModel", "canGo", "(III)Z"⟩, 15) := ⟨⟨by decide +kernel, by decide +kernel⟩, List.mem_of_getElem? (i := 402) (by decide +kernel), List.mem_of_getElem? (i := 529) (by decide +kernel), List.mem_of_getElem? (i := 530) (by decide +kernel)⟩
theorem lw_p38 : lw_okq (⟨"GlulxFramesModel", "lengthAt", "(I)I"⟩, 15) := ⟨⟨by decide +kernel, by decide +kernel⟩, List.mem_of_getElem? (i := 402) (by decide +kernel), List.mem_of_getElem? (i := 534) (by decide +kernel), List.mem_of_getElem? (i := 535) (by decide +kernel)⟩
theorem lw_p39 : lw_okq (⟨"GlulxFramesModel", "localsAt", "(I)I"⟩, 15) := ⟨⟨by decide +kernel, by decide +kernel⟩, List.mem_of_getElem? (i := 402) (by decide +kernel), List.mem_of_getElem? (i := 538) (by decide +kernel), List.mem_of_getElem? (i := 539) (by decide +kernel)⟩
theorem lw_p40 : lw_okq (⟨"GlulxFramesModel", "take", "(I)V"⟩, 15) := ⟨⟨by decide +kernel, by decide +kernel⟩, List.mem_of_getElem? (i := 402) (by decide +kernel), List.mem_of_getElem? (i := 545) (by decide +kernel), List.mem_of_getElem? (i := 546) (by decide +kernel)⟩
theorem lw_p41 : lw_okq (⟨"GlulxFramesModel", "result", "(II)I"⟩, 15) := ⟨⟨by decide +kernel, by decide +kernel⟩, List.mem_of_getElem? (i := 402) (by decide +kernel), List.mem_of_getElem? (i := 549) (by decide +kernel), List.mem_of_getElem? (i := 550) (by decide +kernel)⟩
theorem lw_p42 : lw_okq (⟨"GlulxFramesModel", "go", "(III)V"⟩, 15) := ⟨⟨by decide +kernel, by decide +kernel⟩, List.mem_of_getElem? (i := 402) (by decide +kernel), List.mem_of_getElem? (i := 553) (by decide +kernel), List.mem_of_getElem? (i := 554) (by decide +kernel)⟩
theorem lw_p43 : lw_okq (⟨"GlulxFramesModel", "write", "(III)V"⟩, 15) := ⟨⟨by decide +kernel, by decide +kernel⟩, List.mem_of_getElem? (i := 402) (by decide +kernel), List.mem_of_getElem? (i := 557) (by decide +kernel), List.mem_of_getElem? (i := 558) (by decide +kernel)⟩
theorem lw_p44 : lw_okq (⟨"GlulxFramesModel", "pushes", "(I)V"⟩, 15) := ⟨⟨by decide +kernel, by decide +kernel⟩, List.mem_of_getElem? (i := 402) (by decide +kernel), List.mem_of_getElem? (i := 561) (by decide +kernel), List.mem_of_getElem? (i := 562) (by decide +kernel)⟩
theorem lw_p45 : lw_okq (⟨"GlulxFramesModel", "hasHead", "(I)Z"⟩, 15) := ⟨⟨by decide +kernel, by decide +kernel⟩, List.mem_of_getElem? (i := 402) (by decide +kernel), List.mem_of_getElem? (i := 565) (by decide +kernel), List.mem_of_getElem? (i := 566) (by decide +kernel)⟩
theorem lw_p46 : lw_okq (⟨"GlulxFramesModel", "room", "(II)I"⟩, 15) := ⟨⟨by decide +kernel, by decide +kernel⟩, List.mem_of_getElem? (i := 402) (by decide +kernel), List.mem_of_getElem? (i := 569) (by decide +kernel), List.mem_of_getElem? (i := 570) (by decide +kernel)⟩
theorem lw_p47 : lw_okq (⟨"GlulxFramesModel", "stub", "(III)V"⟩, 15) := ⟨⟨by decide +kernel, by decide +kernel⟩, List.mem_of_getElem? (i := 402) (by decide +kernel), List.mem_of_getElem? (i := 573) (by decide +kernel), List.mem_of_getElem? (i := 574) (by decide +kernel)⟩
def lw_privs_3 : List (MethodName × Nat) := [(⟨"GlulxFramesModel", "begin", "(I)I"⟩, 15), (⟨"GlulxFramesModel", "hasFrame", "()Z"⟩, 15), (⟨"GlulxFramesModel", "values", "()I"⟩, 15), (⟨"GlulxFramesModel", "base", "()I"⟩, 15), (⟨"GlulxFramesModel", "read", "(II)I"⟩, 15), (⟨"GlulxFramesModel", "canGo", "(III)Z"⟩, 15), (⟨"GlulxFramesModel", "lengthAt", "(I)I"⟩, 15), (⟨"GlulxFramesModel", "localsAt", "(I)I"⟩, 15), (⟨"GlulxFramesModel", "take", "(I)V"⟩, 15), (⟨"GlulxFramesModel", "result", "(II)I"⟩, 15), (⟨"GlulxFramesModel", "go", "(III)V"⟩, 15), (⟨"GlulxFramesModel", "write", "(III)V"⟩, 15), (⟨"GlulxFramesModel", "pushes", "(I)V"⟩, 15), (⟨"GlulxFramesModel", "hasHead", "(I)Z"⟩, 15), (⟨"GlulxFramesModel", "room", "(II)I"⟩, 15), (⟨"GlulxFramesModel", "stub", "(III)V"⟩, 15)]
theorem lw_r3 : ∀ q ∈ lw_privs_3, lw_okq q := List.forall_mem_cons.mpr ⟨lw_p32, List.forall_mem_cons.mpr ⟨lw_p33, List.forall_mem_cons.mpr ⟨lw_p34, List.forall_mem_cons.mpr ⟨lw_p35, List.forall_mem_cons.mpr ⟨lw_p36, List.forall_mem_cons.mpr ⟨lw_p37, List.forall_mem_cons.mpr ⟨lw_p38, List.forall_mem_cons.mpr ⟨lw_p39, List.forall_mem_cons.mpr ⟨lw_p40, List.forall_mem_cons.mpr ⟨lw_p41, List.forall_mem_cons.mpr ⟨lw_p42, List.forall_mem_cons.mpr ⟨lw_p43, List.forall_mem_cons.mpr ⟨lw_p44, List.forall_mem_cons.mpr ⟨lw_p45, List.forall_mem_cons.mpr ⟨lw_p46, List.forall_mem_cons.mpr ⟨lw_p47, fun _ h => absurd h List.not_mem_nil⟩⟩⟩⟩⟩⟩⟩⟩⟩⟩⟩⟩⟩⟩⟩⟩
theorem lw_p48 : lw_okq (⟨"GlulxFramesModel", "enter", "(II)V"⟩, 15) := ⟨⟨by decide +kernel, by decide +kernel⟩, List.mem_of_getElem? (i := 402) (by decide +kernel), List.mem_of_getElem? (i := 577) (by decide +kernel), List.mem_of_getElem? (i := 578) (by decide +kernel)⟩
theorem lw_p49 : lw_okq (⟨"GlulxFramesModel", "widthOf", "(II)I"⟩, 15) := ⟨⟨by decide +kernel, by decide +kernel⟩, List.mem_of_getElem? (i := 402) (by decide +kernel), List.mem_of_getElem? (i := 581) (by decide +kernel), List.mem_of_getElem? (i := 582) (by decide +kernel)⟩
theorem lw_p50 : lw_okq (⟨"GlulxFramesModel", "canLeave", "()Z"⟩, 15) := ⟨⟨by decide +kernel, by decide +kernel⟩, List.mem_of_getElem? (i := 402) (by decide +kernel), List.mem_of_getElem? (i := 589) (by decide +kernel), List.mem_of_getElem? (i := 590) (by decide +kernel)⟩
theorem lw_p51 : lw_okq (⟨"GlulxFramesModel", "leaves", "(I)I"⟩, 15) := ⟨⟨by decide +kernel, by decide +kernel⟩, List.mem_of_getElem? (i := 402) (by decide +kernel), List.mem_of_getElem? (i := 593) (by decide +kernel), List.mem_of_getElem? (i := 594) (by decide +kernel)⟩
theorem lw_p52 : lw_okq (⟨"GlulxFramesModel", "forget", "(I)V"⟩, 15) := ⟨⟨by decide +kernel, by decide +kernel⟩, List.mem_of_getElem? (i := 402) (by decide +kernel), List.mem_of_getElem? (i := 597) (by decide +kernel), List.mem_of_getElem? (i := 598) (by decide +kernel)⟩
theorem lw_p53 : lw_okq (⟨"GlulxFramesModel", "against", "(II)I"⟩, 15) := ⟨⟨by decide +kernel, by decide +kernel⟩, List.mem_of_getElem? (i := 402) (by decide +kernel), List.mem_of_getElem? (i := 645) (by decide +kernel), List.mem_of_getElem? (i := 646) (by decide +kernel)⟩
theorem lw_p54 : lw_okq (⟨"GlulxFramesModel", "frames", "()I"⟩, 15) := ⟨⟨by decide +kernel, by decide +kernel⟩, List.mem_of_getElem? (i := 402) (by decide +kernel), List.mem_of_getElem? (i := 665) (by decide +kernel), List.mem_of_getElem? (i := 666) (by decide +kernel)⟩
def lw_privs_4 : List (MethodName × Nat) := [(⟨"GlulxFramesModel", "enter", "(II)V"⟩, 15), (⟨"GlulxFramesModel", "widthOf", "(II)I"⟩, 15), (⟨"GlulxFramesModel", "canLeave", "()Z"⟩, 15), (⟨"GlulxFramesModel", "leaves", "(I)I"⟩, 15), (⟨"GlulxFramesModel", "forget", "(I)V"⟩, 15), (⟨"GlulxFramesModel", "against", "(II)I"⟩, 15), (⟨"GlulxFramesModel", "frames", "()I"⟩, 15)]
theorem lw_r4 : ∀ q ∈ lw_privs_4, lw_okq q := List.forall_mem_cons.mpr ⟨lw_p48, List.forall_mem_cons.mpr ⟨lw_p49, List.forall_mem_cons.mpr ⟨lw_p50, List.forall_mem_cons.mpr ⟨lw_p51, List.forall_mem_cons.mpr ⟨lw_p52, List.forall_mem_cons.mpr ⟨lw_p53, List.forall_mem_cons.mpr ⟨lw_p54, fun _ h => absurd h List.not_mem_nil⟩⟩⟩⟩⟩⟩⟩
def lw_privs : List (MethodName × Nat) := lw_privs_1 ++ (lw_privs_2 ++ (lw_privs_3 ++ (lw_privs_4)))
def lw_tbl : List Cond := k2_sels lw_privs ++ tables_1
theorem lw_privs_ok : ∀ q ∈ lw_privs, lw_okq q := by
  show ∀ q ∈ lw_privs_1 ++ (lw_privs_2 ++ (lw_privs_3 ++ (lw_privs_4))), lw_okq q
  exact List.forall_mem_append.mpr ⟨lw_r1, List.forall_mem_append.mpr ⟨lw_r2, List.forall_mem_append.mpr ⟨lw_r3, lw_r4⟩⟩⟩
def RX0 : String := "GlulxFrames$Function"
def TX0 : u_T := fun k => match k with
  | 0 => ("GlulxFrames$Function", "head", "I", false)
  | 1 => ("GlulxFrames$Function", "acceleration", "I", false)
  | 2 => ("GlulxFrames$Function", "pairs", "I", false)
  | 3 => ("GlulxFrames$Function", "widths", "[I", true)
  | _ => ("GlulxFrames$Function", "counts", "[I", true)
def tyX0 : Nat → FieldType := fun k => match k with
  | 0 => .int
  | 1 => .int
  | 2 => .int
  | 3 => .array .int
  | _ => .array .int
abbrev wsX00 : List Cond := u_ws RX0 TX0 5
theorem nmX0 : ∀ a, a < 5 → ∀ b, b < 5 → a ≠ b → (TX0 a).2.1 ≠ (TX0 b).2.1 := by decide +kernel
theorem tyX0_ok : ∀ k, k < 5 → parseFieldDescriptor (TX0 k).2.2.1 = some (tyX0 k) := by decide +kernel
abbrev cX0_init : ByteArray := prog_2_method_1_code
def yX0_init : MethodName := ⟨RX0, "<init>", "()V"⟩
abbrev cX0_begin : ByteArray := prog_2_method_2_code
def yX0_begin : MethodName := ⟨RX0, "begin", "(I)V"⟩
abbrev cX0_addPair : ByteArray := prog_2_method_3_code
def yX0_addPair : MethodName := ⟨RX0, "addPair", "(II)I"⟩
abbrev cX0_widthOfPair : ByteArray := prog_2_method_4_code
def yX0_widthOfPair : MethodName := ⟨RX0, "widthOfPair", "(I)I"⟩
abbrev cX0_countOfPair : ByteArray := prog_2_method_5_code
def yX0_countOfPair : MethodName := ⟨RX0, "countOfPair", "(I)I"⟩
abbrev cX0_isAccelerated : ByteArray := prog_2_method_6_code
def yX0_isAccelerated : MethodName := ⟨RX0, "isAccelerated", "()Z"⟩
abbrev cX0_hasFrameHead : ByteArray := prog_2_method_7_code
def yX0_hasFrameHead : MethodName := ⟨RX0, "hasFrameHead", "()Z"⟩
abbrev cX0_takesPushed : ByteArray := prog_2_method_8_code
def yX0_takesPushed : MethodName := ⟨RX0, "takesPushed", "()Z"⟩
abbrev cX0_localCount : ByteArray := prog_2_method_9_code
def yX0_localCount : MethodName := ⟨RX0, "localCount", "()I"⟩
abbrev cX0_localsBegin : ByteArray := prog_2_method_10_code
def yX0_localsBegin : MethodName := ⟨RX0, "localsBegin", "()I"⟩
abbrev cX0_placeOfLocal : ByteArray := prog_2_method_11_code
def yX0_placeOfLocal : MethodName := ⟨RX0, "placeOfLocal", "(I)I"⟩
abbrev cX0_frameLength : ByteArray := prog_2_method_12_code
def yX0_frameLength : MethodName := ⟨RX0, "frameLength", "()I"⟩
abbrev cX0_bytesWith : ByteArray := prog_2_method_13_code
def yX0_bytesWith : MethodName := ⟨RX0, "bytesWith", "(I)I"⟩
abbrev cX0_upTo : ByteArray := prog_2_method_14_code
def yX0_upTo : MethodName := ⟨RX0, "upTo", "(II)I"⟩
def RX1 : String := "GlulxFrames$Row"
def TX1 : u_T := fun k => match k with
  | 0 => ("GlulxFrames$Row", "bytes", "[B", true)
  | _ => ("GlulxFrames$Row", "end", "I", false)
def tyX1 : Nat → FieldType := fun k => match k with
  | 0 => .array .byte
  | _ => .int
abbrev wsX10 : List Cond := u_ws RX1 TX1 2
theorem nmX1 : ∀ a, a < 2 → ∀ b, b < 2 → a ≠ b → (TX1 a).2.1 ≠ (TX1 b).2.1 := by decide +kernel
theorem tyX1_ok : ∀ k, k < 2 → parseFieldDescriptor (TX1 k).2.2.1 = some (tyX1 k) := by decide +kernel
abbrev cX1_init : ByteArray := prog_3_method_1_code
def yX1_init : MethodName := ⟨RX1, "<init>", "(I)V"⟩
abbrev cX1_size : ByteArray := prog_3_method_2_code
def yX1_size : MethodName := ⟨RX1, "size", "()I"⟩
abbrev cX1_end : ByteArray := prog_3_method_3_code
def yX1_end : MethodName := ⟨RX1, "end", "()I"⟩
abbrev cX1_reaches : ByteArray := prog_3_method_4_code
def yX1_reaches : MethodName := ⟨RX1, "reaches", "(I)Z"⟩
abbrev cX1_number : ByteArray := prog_3_method_5_code
def yX1_number : MethodName := ⟨RX1, "number", "(II)I"⟩
abbrev cX1_set : ByteArray := prog_3_method_6_code
def yX1_set : MethodName := ⟨RX1, "set", "(III)V"⟩
abbrev cX1_append : ByteArray := prog_3_method_7_code
def yX1_append : MethodName := ⟨RX1, "append", "(I)V"⟩
abbrev cX1_appendZeros : ByteArray := prog_3_method_8_code
def yX1_appendZeros : MethodName := ⟨RX1, "appendZeros", "(I)V"⟩
abbrev cX1_cutTo : ByteArray := prog_3_method_9_code
def yX1_cutTo : MethodName := ⟨RX1, "cutTo", "(I)V"⟩
abbrev cX1_byteOrZero : ByteArray := prog_3_method_10_code
def yX1_byteOrZero : MethodName := ⟨RX1, "byteOrZero", "(I)I"⟩
abbrev cX1_setByte : ByteArray := prog_3_method_11_code
def yX1_setByte : MethodName := ⟨RX1, "setByte", "(II)V"⟩
def RX2 : String := "GlulxFrames"
def TX2 : u_T := fun k => match k with
  | 0 => ("GlulxFrames", "row", "LGlulxFrames$Row;", true)
  | 1 => ("GlulxFrames", "functions", "[LGlulxFrames$Function;", true)
  | 2 => ("GlulxFrames", "cells", "[I", true)
  | 3 => ("GlulxFrames", "tokens", "[I", true)
  | 4 => ("GlulxFrames", "tokenCount", "I", false)
  | 5 => ("GlulxFrames", "taken", "[I", true)
  | 6 => ("GlulxFrames", "fp", "I", false)
  | 7 => ("GlulxFrames", "pc", "I", false)
  | _ => ("GlulxFrames", "latestPopped", "I", false)
def tyX2 : Nat → FieldType := fun k => match k with
  | 0 => .object "GlulxFrames$Row"
  | 1 => .array (.object "GlulxFrames$Function")
  | 2 => .array .int
  | 3 => .array .int
  | 4 => .int
  | 5 => .array .int
  | 6 => .int
  | 7 => .int
  | _ => .int
abbrev wsX20 : List Cond := u_ws RX2 TX2 9
theorem nmX2 : ∀ a, a < 9 → ∀ b, b < 9 → a ≠ b → (TX2 a).2.1 ≠ (TX2 b).2.1 := by decide +kernel
theorem tyX2_ok : ∀ k, k < 9 → parseFieldDescriptor (TX2 k).2.2.1 = some (tyX2 k) := by decide +kernel
abbrev cX2_init : ByteArray := prog_1_method_1_code
def yX2_init : MethodName := ⟨RX2, "<init>", "(I)V"⟩
abbrev cX2_function : ByteArray := prog_1_method_2_code
def yX2_function : MethodName := ⟨RX2, "function", "(II)I"⟩
abbrev cX2_format : ByteArray := prog_1_method_3_code
def yX2_format : MethodName := ⟨RX2, "format", "(III)I"⟩
abbrev cX2_accelerate : ByteArray := prog_1_method_4_code
def yX2_accelerate : MethodName := ⟨RX2, "accelerate", "(II)I"⟩
abbrev cX2_told : ByteArray := prog_1_method_5_code
def yX2_told : MethodName := ⟨RX2, "told", "(II)I"⟩
abbrev cX2_local : ByteArray := prog_1_method_6_code
def yX2_local : MethodName := ⟨RX2, "local", "(II)I"⟩
abbrev cX2_functionOf : ByteArray := prog_1_method_7_code
def yX2_functionOf : MethodName := ⟨RX2, "functionOf", "(I)LGlulxFrames$Function;"⟩
abbrev cX2_isWidth : ByteArray := prog_1_method_8_code
def yX2_isWidth : MethodName := ⟨RX2, "isWidth", "(I)Z"⟩
abbrev cX2_call : ByteArray := prog_1_method_9_code
def yX2_call : MethodName := ⟨RX2, "call", "(IIIII)I"⟩
abbrev cX2_callAccelerated : ByteArray := prog_1_method_10_code
def yX2_callAccelerated : MethodName := ⟨RX2, "callAccelerated", "(LGlulxFrames$Function;III)I"⟩
abbrev cX2_tail : ByteArray := prog_1_method_11_code
def yX2_tail : MethodName := ⟨RX2, "tail", "(II)I"⟩
abbrev cX2_leave : ByteArray := prog_1_method_12_code
def yX2_leave : MethodName := ⟨RX2, "leave", "(I)I"⟩
abbrev cX2_caught : ByteArray := prog_1_method_13_code
def yX2_caught : MethodName := ⟨RX2, "caught", "(III)I"⟩
abbrev cX2_thrown : ByteArray := prog_1_method_14_code
def yX2_thrown : MethodName := ⟨RX2, "thrown", "(II)I"⟩
abbrev cX2_givenBy : ByteArray := prog_1_method_15_code
def yX2_givenBy : MethodName := ⟨RX2, "givenBy", "(II)I"⟩
abbrev cX2_pushStub : ByteArray := prog_1_method_16_code
def yX2_pushStub : MethodName := ⟨RX2, "pushStub", "(III)V"⟩
abbrev cX2_goBack : ByteArray := prog_1_method_17_code
def yX2_goBack : MethodName := ⟨RX2, "goBack", "(II)I"⟩
abbrev cX2_frameBelow : ByteArray := prog_1_method_18_code
def yX2_frameBelow : MethodName := ⟨RX2, "frameBelow", "(I)I"⟩
abbrev cX2_pushFrame : ByteArray := prog_1_method_19_code
def yX2_pushFrame : MethodName := ⟨RX2, "pushFrame", "(LGlulxFrames$Function;I)V"⟩
abbrev cX2_pushArguments : ByteArray := prog_1_method_20_code
def yX2_pushArguments : MethodName := ⟨RX2, "pushArguments", "(I)V"⟩
abbrev cX2_setLocals : ByteArray := prog_1_method_21_code
def yX2_setLocals : MethodName := ⟨RX2, "setLocals", "(LGlulxFrames$Function;I)V"⟩
abbrev cX2_isFrame : ByteArray := prog_1_method_22_code
def yX2_isFrame : MethodName := ⟨RX2, "isFrame", "(I)Z"⟩
abbrev cX2_valuesAt : ByteArray := prog_1_method_23_code
def yX2_valuesAt : MethodName := ⟨RX2, "valuesAt", "(I)I"⟩
abbrev cX2_localsAt : ByteArray := prog_1_method_24_code
def yX2_localsAt : MethodName := ⟨RX2, "localsAt", "(I)I"⟩
abbrev cX2_isInLocals : ByteArray := prog_1_method_25_code
def yX2_isInLocals : MethodName := ⟨RX2, "isInLocals", "(III)Z"⟩
abbrev cX2_frameCount : ByteArray := prog_1_method_26_code
def yX2_frameCount : MethodName := ⟨RX2, "frameCount", "()I"⟩
abbrev cX2_isWay : ByteArray := prog_1_method_27_code
def yX2_isWay : MethodName := ⟨RX2, "isWay", "(I)Z"⟩
abbrev cX2_canGo : ByteArray := prog_1_method_28_code
def yX2_canGo : MethodName := ⟨RX2, "canGo", "(III)Z"⟩
abbrev cX2_send : ByteArray := prog_1_method_29_code
def yX2_send : MethodName := ⟨RX2, "send", "(III)V"⟩
abbrev cX2_isCell : ByteArray := prog_1_method_30_code
def yX2_isCell : MethodName := ⟨RX2, "isCell", "(I)Z"⟩
abbrev cX2_addToken : ByteArray := prog_1_method_31_code
def yX2_addToken : MethodName := ⟨RX2, "addToken", "(I)V"⟩
abbrev cX2_latestToken : ByteArray := prog_1_method_32_code
def yX2_latestToken : MethodName := ⟨RX2, "latestToken", "()I"⟩
abbrev cX2_isLive : ByteArray := prog_1_method_33_code
def yX2_isLive : MethodName := ⟨RX2, "isLive", "(I)Z"⟩
abbrev cX2_dropTokensFrom : ByteArray := prog_1_method_34_code
def yX2_dropTokensFrom : MethodName := ⟨RX2, "dropTokensFrom", "(I)V"⟩
abbrev cX2_push : ByteArray := prog_1_method_35_code
def yX2_push : MethodName := ⟨RX2, "push", "(I)I"⟩
abbrev cX2_pop : ByteArray := prog_1_method_36_code
def yX2_pop : MethodName := ⟨RX2, "pop", "()I"⟩
abbrev cX2_popped : ByteArray := prog_1_method_37_code
def yX2_popped : MethodName := ⟨RX2, "popped", "()I"⟩
abbrev cX2_peek : ByteArray := prog_1_method_38_code
def yX2_peek : MethodName := ⟨RX2, "peek", "(I)I"⟩
abbrev cX2_copy : ByteArray := prog_1_method_39_code
def yX2_copy : MethodName := ⟨RX2, "copy", "(I)I"⟩
abbrev cX2_roll : ByteArray := prog_1_method_40_code
def yX2_roll : MethodName := ⟨RX2, "roll", "(II)I"⟩
abbrev cX2_swap : ByteArray := prog_1_method_41_code
def yX2_swap : MethodName := ⟨RX2, "swap", "()I"⟩
abbrev cX2_faultOfLast : ByteArray := prog_1_method_42_code
def yX2_faultOfLast : MethodName := ⟨RX2, "faultOfLast", "(I)I"⟩
abbrev cX2_rollLast : ByteArray := prog_1_method_43_code
def yX2_rollLast : MethodName := ⟨RX2, "rollLast", "(II)V"⟩
abbrev cX2_valuesBegin : ByteArray := prog_1_method_44_code
def yX2_valuesBegin : MethodName := ⟨RX2, "valuesBegin", "()I"⟩
abbrev cX2_valueCount : ByteArray := prog_1_method_45_code
def yX2_valueCount : MethodName := ⟨RX2, "valueCount", "()I"⟩
abbrev cX2_valueFromLast : ByteArray := prog_1_method_46_code
def yX2_valueFromLast : MethodName := ⟨RX2, "valueFromLast", "(I)I"⟩
abbrev cX2_takeValues : ByteArray := prog_1_method_47_code
def yX2_takeValues : MethodName := ⟨RX2, "takeValues", "(I)V"⟩
abbrev cX2_takenValue : ByteArray := prog_1_method_48_code
def yX2_takenValue : MethodName := ⟨RX2, "takenValue", "(I)I"⟩
abbrev cX2_load : ByteArray := prog_1_method_49_code
def yX2_load : MethodName := ⟨RX2, "load", "(II)I"⟩
abbrev cX2_store : ByteArray := prog_1_method_50_code
def yX2_store : MethodName := ⟨RX2, "store", "(III)I"⟩
abbrev cX2_faultOfLocal : ByteArray := prog_1_method_51_code
def yX2_faultOfLocal : MethodName := ⟨RX2, "faultOfLocal", "(II)I"⟩
abbrev cX2_byteAt : ByteArray := prog_1_method_52_code
def yX2_byteAt : MethodName := ⟨RX2, "byteAt", "(I)I"⟩
abbrev cX2_cell : ByteArray := prog_1_method_53_code
def yX2_cell : MethodName := ⟨RX2, "cell", "(I)I"⟩
abbrev cX2_count : ByteArray := prog_1_method_54_code
def yX2_count : MethodName := ⟨RX2, "count", "(I)I"⟩
def RX3 : String := "GlulxFramesModel"
def TX3 : u_T := fun k => match k with
  | 0 => ("GlulxFramesModel", "size", "I", true)
  | 1 => ("GlulxFramesModel", "row", "[I", true)
  | 2 => ("GlulxFramesModel", "sp", "I", false)
  | 3 => ("GlulxFramesModel", "fp", "I", false)
  | 4 => ("GlulxFramesModel", "pc", "I", false)
  | 5 => ("GlulxFramesModel", "cells", "[I", true)
  | 6 => ("GlulxFramesModel", "heads", "[I", true)
  | 7 => ("GlulxFramesModel", "pairs", "[I", true)
  | 8 => ("GlulxFramesModel", "widths", "[I", true)
  | 9 => ("GlulxFramesModel", "counts", "[I", true)
  | 10 => ("GlulxFramesModel", "fast", "[I", true)
  | 11 => ("GlulxFramesModel", "tokens", "[I", true)
  | 12 => ("GlulxFramesModel", "live", "I", false)
  | 13 => ("GlulxFramesModel", "popped", "I", false)
  | _ => ("GlulxFramesModel", "given", "[I", true)
def tyX3 : Nat → FieldType := fun k => match k with
  | 0 => .int
  | 1 => .array .int
  | 2 => .int
  | 3 => .int
  | 4 => .int
  | 5 => .array .int
  | 6 => .array .int
  | 7 => .array .int
  | 8 => .array .int
  | 9 => .array .int
  | 10 => .array .int
  | 11 => .array .int
  | 12 => .int
  | 13 => .int
  | _ => .array .int
abbrev wsX30 : List Cond := u_ws RX3 TX3 15
theorem nmX3 : ∀ a, a < 15 → ∀ b, b < 15 → a ≠ b → (TX3 a).2.1 ≠ (TX3 b).2.1 := by decide +kernel
theorem tyX3_ok : ∀ k, k < 15 → parseFieldDescriptor (TX3 k).2.2.1 = some (tyX3 k) := by decide +kernel
abbrev cX3_init : ByteArray := prog_5_method_1_code
def yX3_init : MethodName := ⟨RX3, "<init>", "(I)V"⟩
abbrev cX3_in : ByteArray := prog_5_method_2_code
def yX3_in : MethodName := ⟨RX3, "in", "(JJJ)Z"⟩
abbrev cX3_fault : ByteArray := prog_5_method_3_code
def yX3_fault : MethodName := ⟨RX3, "fault", "(I)I"⟩
abbrev cX3_read : ByteArray := prog_5_method_4_code
def yX3_read : MethodName := ⟨RX3, "read", "(II)I"⟩
abbrev cX3_write : ByteArray := prog_5_method_5_code
def yX3_write : MethodName := ⟨RX3, "write", "(III)V"⟩
abbrev cX3_isFunction : ByteArray := prog_5_method_6_code
def yX3_isFunction : MethodName := ⟨RX3, "isFunction", "(I)Z"⟩
abbrev cX3_function : ByteArray := prog_5_method_7_code
def yX3_function : MethodName := ⟨RX3, "function", "(II)I"⟩
abbrev cX3_isWidth : ByteArray := prog_5_method_8_code
def yX3_isWidth : MethodName := ⟨RX3, "isWidth", "(I)Z"⟩
abbrev cX3_format : ByteArray := prog_5_method_9_code
def yX3_format : MethodName := ⟨RX3, "format", "(III)I"⟩
abbrev cX3_accelerate : ByteArray := prog_5_method_10_code
def yX3_accelerate : MethodName := ⟨RX3, "accelerate", "(II)I"⟩
abbrev cX3_up : ByteArray := prog_5_method_11_code
def yX3_up : MethodName := ⟨RX3, "up", "(II)I"⟩
abbrev cX3_begin : ByteArray := prog_5_method_12_code
def yX3_begin : MethodName := ⟨RX3, "begin", "(I)I"⟩
abbrev cX3_locals : ByteArray := prog_5_method_13_code
def yX3_locals : MethodName := ⟨RX3, "locals", "(I)I"⟩
abbrev cX3_placeOf : ByteArray := prog_5_method_14_code
def yX3_placeOf : MethodName := ⟨RX3, "placeOf", "(II)I"⟩
abbrev cX3_widthOf : ByteArray := prog_5_method_15_code
def yX3_widthOf : MethodName := ⟨RX3, "widthOf", "(II)I"⟩
abbrev cX3_lengthOf : ByteArray := prog_5_method_16_code
def yX3_lengthOf : MethodName := ⟨RX3, "lengthOf", "(I)I"⟩
abbrev cX3_told : ByteArray := prog_5_method_17_code
def yX3_told : MethodName := ⟨RX3, "told", "(II)I"⟩
abbrev cX3_local : ByteArray := prog_5_method_18_code
def yX3_local : MethodName := ⟨RX3, "local", "(II)I"⟩
abbrev cX3_hasFrame : ByteArray := prog_5_method_19_code
def yX3_hasFrame : MethodName := ⟨RX3, "hasFrame", "()Z"⟩
abbrev cX3_base : ByteArray := prog_5_method_20_code
def yX3_base : MethodName := ⟨RX3, "base", "()I"⟩
abbrev cX3_values : ByteArray := prog_5_method_21_code
def yX3_values : MethodName := ⟨RX3, "values", "()I"⟩
abbrev cX3_lengthAt : ByteArray := prog_5_method_22_code
def yX3_lengthAt : MethodName := ⟨RX3, "lengthAt", "(I)I"⟩
abbrev cX3_localsAt : ByteArray := prog_5_method_23_code
def yX3_localsAt : MethodName := ⟨RX3, "localsAt", "(I)I"⟩
abbrev cX3_isPlace : ByteArray := prog_5_method_24_code
def yX3_isPlace : MethodName := ⟨RX3, "isPlace", "(II)Z"⟩
abbrev cX3_canGo : ByteArray := prog_5_method_25_code
def yX3_canGo : MethodName := ⟨RX3, "canGo", "(III)Z"⟩
abbrev cX3_pushes : ByteArray := prog_5_method_26_code
def yX3_pushes : MethodName := ⟨RX3, "pushes", "(I)V"⟩
abbrev cX3_go : ByteArray := prog_5_method_27_code
def yX3_go : MethodName := ⟨RX3, "go", "(III)V"⟩
abbrev cX3_stub : ByteArray := prog_5_method_28_code
def yX3_stub : MethodName := ⟨RX3, "stub", "(III)V"⟩
abbrev cX3_forget : ByteArray := prog_5_method_29_code
def yX3_forget : MethodName := ⟨RX3, "forget", "(I)V"⟩
abbrev cX3_result : ByteArray := prog_5_method_30_code
def yX3_result : MethodName := ⟨RX3, "result", "(II)I"⟩
abbrev cX3_take : ByteArray := prog_5_method_31_code
def yX3_take : MethodName := ⟨RX3, "take", "(I)V"⟩
abbrev cX3_room : ByteArray := prog_5_method_32_code
def yX3_room : MethodName := ⟨RX3, "room", "(II)I"⟩
abbrev cX3_enter : ByteArray := prog_5_method_33_code
def yX3_enter : MethodName := ⟨RX3, "enter", "(II)V"⟩
abbrev cX3_hasHead : ByteArray := prog_5_method_34_code
def yX3_hasHead : MethodName := ⟨RX3, "hasHead", "(I)Z"⟩
abbrev cX3_call : ByteArray := prog_5_method_35_code
def yX3_call : MethodName := ⟨RX3, "call", "(IIIII)I"⟩
abbrev cX3_canLeave : ByteArray := prog_5_method_36_code
def yX3_canLeave : MethodName := ⟨RX3, "canLeave", "()Z"⟩
abbrev cX3_leaves : ByteArray := prog_5_method_37_code
def yX3_leaves : MethodName := ⟨RX3, "leaves", "(I)I"⟩
abbrev cX3_leave : ByteArray := prog_5_method_38_code
def yX3_leave : MethodName := ⟨RX3, "leave", "(I)I"⟩
abbrev cX3_caught : ByteArray := prog_5_method_39_code
def yX3_caught : MethodName := ⟨RX3, "caught", "(III)I"⟩
abbrev cX3_thrown : ByteArray := prog_5_method_40_code
def yX3_thrown : MethodName := ⟨RX3, "thrown", "(II)I"⟩
abbrev cX3_tail : ByteArray := prog_5_method_41_code
def yX3_tail : MethodName := ⟨RX3, "tail", "(II)I"⟩
abbrev cX3_push : ByteArray := prog_5_method_42_code
def yX3_push : MethodName := ⟨RX3, "push", "(I)I"⟩
abbrev cX3_pop : ByteArray := prog_5_method_43_code
def yX3_pop : MethodName := ⟨RX3, "pop", "()I"⟩
abbrev cX3_popped : ByteArray := prog_5_method_44_code
def yX3_popped : MethodName := ⟨RX3, "popped", "()I"⟩
abbrev cX3_peek : ByteArray := prog_5_method_45_code
def yX3_peek : MethodName := ⟨RX3, "peek", "(I)I"⟩
abbrev cX3_copy : ByteArray := prog_5_method_46_code
def yX3_copy : MethodName := ⟨RX3, "copy", "(I)I"⟩
abbrev cX3_roll : ByteArray := prog_5_method_47_code
def yX3_roll : MethodName := ⟨RX3, "roll", "(II)I"⟩
abbrev cX3_swap : ByteArray := prog_5_method_48_code
def yX3_swap : MethodName := ⟨RX3, "swap", "()I"⟩
abbrev cX3_against : ByteArray := prog_5_method_49_code
def yX3_against : MethodName := ⟨RX3, "against", "(II)I"⟩
abbrev cX3_load : ByteArray := prog_5_method_50_code
def yX3_load : MethodName := ⟨RX3, "load", "(II)I"⟩
abbrev cX3_store : ByteArray := prog_5_method_51_code
def yX3_store : MethodName := ⟨RX3, "store", "(III)I"⟩
abbrev cX3_byteAt : ByteArray := prog_5_method_52_code
def yX3_byteAt : MethodName := ⟨RX3, "byteAt", "(I)I"⟩
abbrev cX3_cell : ByteArray := prog_5_method_53_code
def yX3_cell : MethodName := ⟨RX3, "cell", "(I)I"⟩
abbrev cX3_frames : ByteArray := prog_5_method_54_code
def yX3_frames : MethodName := ⟨RX3, "frames", "()I"⟩
abbrev cX3_count : ByteArray := prog_5_method_55_code
def yX3_count : MethodName := ⟨RX3, "count", "(I)I"⟩
def RJ9 : String := "java/lang/Math"
def TJ9 : u_T := fun k => match k with
  | _ => ("", "", "", false)
def tyJ9 : Nat → FieldType := fun k => match k with
  | _ => .int
abbrev wsJ90 : List Cond := u_ws RJ9 TJ9 0
theorem nmJ9 : ∀ a, a < 0 → ∀ b, b < 0 → a ≠ b → (TJ9 a).2.1 ≠ (TJ9 b).2.1 := by decide +kernel
theorem tyJ9_ok : ∀ k, k < 0 → parseFieldDescriptor (TJ9 k).2.2.1 = some (tyJ9 k) := by decide +kernel
abbrev cJ9_floorMod_7cf53 : ByteArray := prog_6_method_50_code
def yJ9_floorMod_7cf53 : MethodName := ⟨RJ9, "floorMod", "(II)I"⟩
abbrev cJ9_max_7cf53 : ByteArray := prog_6_method_65_code
def yJ9_max_7cf53 : MethodName := ⟨RJ9, "max", "(II)I"⟩
abbrev cJ9_min_7cf53 : ByteArray := prog_6_method_69_code
def yJ9_min_7cf53 : MethodName := ⟨RJ9, "min", "(II)I"⟩
def RL : String := "GlulxFramesLaw"
abbrev cL_cell : ByteArray := method_2_code
def yL_cell : MethodName := ⟨RL, "cell", "([II)I"⟩
abbrev cL_law : ByteArray := code
def yL_law : MethodName := ⟨RL, "law", "([I)Z"⟩
abbrev vwCl : List vw_C := [(RX0, TX0, 5), (RX1, TX1, 2), (RX2, TX2, 9), (RX3, TX3, 15)]
end
section
/-! A small machine of our own over abstract cells (addresses from 0 on), as a least fixed point: gx_E says that the code comes to its end with Q. Part 04 ties it to the kit's machine once for all. -/
/-- a cell: an int or byte array (tag 0, 1), an array of references, an object (class, fields) -/
abbrev gx_A : Type := (Nat × Nat × (Nat → Int32)) ⊕ ((Nat × (Nat → Option Nat)) ⊕ (Nat × List Value))
abbrev gx_H : Type := List gx_A
abbrev gx_L : Type := List (Option Value)
/-- pc, instruction, three numbers (what the instruction's own words come to), places -/
abbrev gx_T : Type := Nat × Instr × Nat × Nat × Nat × List Nat
abbrev gx_Q : Type := Option Value → gx_H → Prop
abbrev gx_K : Type := Nat → gx_L → List Value → gx_H → Nat → Nat → Prop
/-- a call: method, cells and slots that it may make, arguments, heap, what holds behind it -/
abbrev gx_C : Type := Nat → Nat → Nat → List Value → gx_H → gx_Q → Prop
def gx_I1 (st : List Value) (f : Int32 → List Value → Prop) : Prop := match st with
  | .int x :: r => f x r
  | _ => False
def gx_I2 (st : List Value) (f : Int32 → Int32 → List Value → Prop) : Prop := match st with
  | .int y :: .int x :: r => f x y r
  | _ => False
def gx_R1 (st : List Value) (f : Value → List Value → Prop) : Prop := match st with
  | .ref q :: r => f (.ref q) r
  | .null :: r => f .null r
  | .retAddr q :: r => f (.retAddr q) r
  | _ => False
def gx_b (b : Nat) (x y : Prop) : Prop := match b with
  | 0 => x
  | _ => y
def gx_li (L : gx_L) (a : Nat) (f : Int32 → Prop) : Prop := match L[a]? with
  | some (some (.int x)) => f x
  | _ => False
def gx_la (L : gx_L) (a : Nat) (f : Value → Prop) : Prop := match L[a]? with
  | some (some (.ref q)) => f (.ref q)
  | some (some .null) => f .null
  | some (some (.retAddr q)) => f (.retAddr q)
  | _ => False
/-- the fields of an object of a class -/
def gx_ob (h : gx_H) (q ci : Nat) (f : List Value → Prop) : Prop := match h[q]? with
  | some (.inr (.inr (c, fs))) => (match Nat.beq c ci with
    | true => f fs
    | false => False)
  | _ => False
def gx_fd (fs : List Value) (k : Nat) (f : Value → Prop) : Prop := match fs[k]? with
  | some v => f v
  | none => False
/-- a value of the kind of a field: 0 an int, else a reference -/
def gx_kd (c : Nat) (v : Value) (P : Prop) : Prop := match c, v with
  | 0, .int _ => P
  | 1, .ref _ => P
  | _, _ => False
def gx_ln (h : gx_H) (q : Nat) (f : Nat → Prop) : Prop := match h[q]? with
  | some (.inl (0, n, _)) => f n
  | some (.inl (1, n, _)) => f n
  | some (.inr (.inl (n, _))) => f n
  | _ => False
def gx_a0 (h : gx_H) (q : Nat) (f : Nat → (Nat → Int32) → Prop) : Prop := match h[q]? with
  | some (.inl (0, n, g)) => f n g
  | _ => False
def gx_a1 (h : gx_H) (q : Nat) (f : Nat → (Nat → Int32) → Prop) : Prop := match h[q]? with
  | some (.inl (1, n, g)) => f n g
  | _ => False
def gx_a2 (h : gx_H) (q : Nat) (f : Nat → (Nat → Option Nat) → Prop) : Prop := match h[q]? with
  | some (.inr (.inl (n, g))) => f n g
  | _ => False
def gx_cat (vs : List Value) : Nat := (vs.map fun v => v.category).sum
def gx_inv (CALL : gx_C) (z : Nat) (av rest : List Value) (h : gx_H) (cb sb : Nat) (kk : Option Value → gx_H → Nat → Nat → Prop) : Prop :=
  gx_cat rest ≤ 8 ∧ ∃ (mc ms : Nat) (Q' : gx_Q), mc ≤ cb ∧ ms ≤ sb ∧ CALL z mc ms av h Q' ∧ ∀ r h1, Q' r h1 → kk r h1 (cb - mc) (sb - ms)
/-- a call on an object: of its class -/
def gx_own (h : gx_H) (c : Nat) (av : List Value) : Prop := match av with
  | .ref q :: _ => ∃ fs, h[q]? = some (.inr (.inr (c, fs)))
  | _ => False
/-- in(long, long, long) -/
def gx_in (st : List Value) (f : Int64 → Int64 → Int64 → List Value → Prop) : Prop := match st with
  | .long z :: .long y :: .long x :: r => f x y z r
  | _ => False
def gx_sw (x : Int32) (k : Nat → Prop) : List Nat → Nat → Prop
  | [], _ => True
  | t :: ts, j => (x = nI j → k t) ∧ gx_sw x k ts (j + 1)
/-- the fields of a new object -/
def gx_df (a : Nat) : List Value := match a with
  | 0 => [.int 0, .int 0, .int 0, .null, .null]
  | 1 => [.null, .int 0]
  | 2 => [.null, .null, .null, .null, .int 0, .null, .int 0, .int 0, .int 0]
  | 3 => [.int 0, .null, .int 0, .int 0, .int 0, .null, .null, .null, .null, .null, .null, .null, .int 0, .int 0, .null]
  | _ => []
def gx_1 (LL : Nat) (xs : Nat → Int32) (CALL : gx_C) (cd : List gx_T) (Q : gx_Q) (k : gx_K) : gx_K := fun i L st h cb sb =>
  match cd[i]? with
  | none => False
  | some (_, ins, a, b, c, ts) =>
    match ins with
    | .iconst _ => gx_b b (k (i + 1) L (.int (nI a) :: st) h cb sb) (k (i + 1) L (.int (-(nI a)) :: st) h cb sb)
    | .bipush _ => gx_b b (k (i + 1) L (.int (nI a) :: st) h cb sb) (k (i + 1) L (.int (-(nI a)) :: st) h cb sb)
    | .sipush _ => gx_b b (k (i + 1) L (.int (nI a) :: st) h cb sb) (k (i + 1) L (.int (-(nI a)) :: st) h cb sb)
    | .aconst_null => k (i + 1) L (.null :: st) h cb sb
    | .lconst _ => k (i + 1) L (.long (lN a) :: st) h cb sb
    | .ldc2_w _ => k (i + 1) L (.long (lN a) :: st) h cb sb
    | .iload _ => gx_li L a fun x => k (i + 1) L (.int x :: st) h cb sb
    | .iload_n _ => gx_li L a fun x => k (i + 1) L (.int x :: st) h cb sb
    | .aload _ => gx_la L a fun v => k (i + 1) L (v :: st) h cb sb
    | .aload_n _ => gx_la L a fun v => k (i + 1) L (v :: st) h cb sb
    | .istore _ => gx_I1 st fun x r => k (i + 1) (L.set a (some (.int x))) r h cb sb
    | .istore_n _ => gx_I1 st fun x r => k (i + 1) (L.set a (some (.int x))) r h cb sb
    | .astore _ => gx_R1 st fun v r => k (i + 1) (L.set a (some v)) r h cb sb
    | .astore_n _ => gx_R1 st fun v r => k (i + 1) (L.set a (some v)) r h cb sb
    | .iinc _ _ => gx_li L a fun x => gx_b c (k (i + 1) (L.set a (some (.int (x + nI b)))) st h cb sb) (k (i + 1) (L.set a (some (.int (x - nI b)))) st h cb sb)
    | .iadd => gx_I2 st fun x y r => k (i + 1) L (.int (x + y) :: r) h cb sb
    | .isub => gx_I2 st fun x y r => k (i + 1) L (.int (x - y) :: r) h cb sb
    | .imul => gx_I2 st fun x y r => k (i + 1) L (.int (x * y) :: r) h cb sb
    | .idiv => gx_I2 st fun x y r => ¬ y = 0 ∧ k (i + 1) L (.int (x / y) :: r) h cb sb
    | .irem => gx_I2 st fun x y r => ¬ y = 0 ∧ k (i + 1) L (.int (x - x / y * y) :: r) h cb sb
    | .ineg => gx_I1 st fun x r => k (i + 1) L (.int (-x) :: r) h cb sb
    | .ishl => gx_I2 st fun x y r => k (i + 1) L (.int (x <<< (y &&& 31)) :: r) h cb sb
    | .ishr => gx_I2 st fun x y r => k (i + 1) L (.int (x >>> (y &&& 31)) :: r) h cb sb
    | .iand => gx_I2 st fun x y r => k (i + 1) L (.int (x &&& y) :: r) h cb sb
    | .ior => gx_I2 st fun x y r => k (i + 1) L (.int (x ||| y) :: r) h cb sb
    | .ixor => gx_I2 st fun x y r => k (i + 1) L (.int (x ^^^ y) :: r) h cb sb
    | .i2b => gx_I1 st fun x r => k (i + 1) L (.int x.toInt8.toInt32 :: r) h cb sb
    | .i2l => gx_I1 st fun x r => k (i + 1) L (.long x.toInt64 :: r) h cb sb
    | .dup => (match st with
      | .int x :: r => k (i + 1) L (.int x :: .int x :: r) h cb sb
      | .ref x :: r => k (i + 1) L (.ref x :: .ref x :: r) h cb sb
      | _ => False)
    | .dup2 => (match st with
      | .int y :: .ref x :: r => k (i + 1) L (.int y :: .ref x :: .int y :: .ref x :: r) h cb sb
      | _ => False)
    | .goto _ => k a L st h cb sb
    | .if_icmp cnd _ => gx_I2 st fun x y r => (match cnd with
      | .eq => (x = y → k a L r h cb sb) ∧ (¬ x = y → k (i + 1) L r h cb sb)
      | .ne => (¬ x = y → k a L r h cb sb) ∧ (x = y → k (i + 1) L r h cb sb)
      | .lt => (x < y → k a L r h cb sb) ∧ (¬ x < y → k (i + 1) L r h cb sb)
      | .ge => (y ≤ x → k a L r h cb sb) ∧ (¬ y ≤ x → k (i + 1) L r h cb sb)
      | .gt => (y < x → k a L r h cb sb) ∧ (¬ y < x → k (i + 1) L r h cb sb)
      | .le => (x ≤ y → k a L r h cb sb) ∧ (¬ x ≤ y → k (i + 1) L r h cb sb))
    | .ifCond cnd _ => gx_I1 st fun x r => (match cnd with
      | .eq => (x = 0 → k a L r h cb sb) ∧ (¬ x = 0 → k (i + 1) L r h cb sb)
      | .ne => (¬ x = 0 → k a L r h cb sb) ∧ (x = 0 → k (i + 1) L r h cb sb)
      | .lt => (x < 0 → k a L r h cb sb) ∧ (¬ x < 0 → k (i + 1) L r h cb sb)
      | .ge => (0 ≤ x → k a L r h cb sb) ∧ (¬ 0 ≤ x → k (i + 1) L r h cb sb)
      | .gt => (0 < x → k a L r h cb sb) ∧ (¬ 0 < x → k (i + 1) L r h cb sb)
      | .le => (x ≤ 0 → k a L r h cb sb) ∧ (¬ x ≤ 0 → k (i + 1) L r h cb sb))
    | .ifnull _ => (match st with
      | .ref _ :: r => k (i + 1) L r h cb sb
      | .null :: r => k a L r h cb sb
      | _ => False)
    | .ifnonnull _ => (match st with
      | .ref _ :: r => k a L r h cb sb
      | .null :: r => k (i + 1) L r h cb sb
      | _ => False)
    | .tableswitch _ _ _ _ => gx_I1 st fun x r => ((∀ j, j < ts.length → ¬ x = nI (b + j)) → k a L r h cb sb) ∧ gx_sw x (fun t => k t L r h cb sb) ts b
    | .lookupswitch _ _ => gx_I1 st fun x r => ((∀ j, j < ts.length → ¬ x = nI (b + j)) → k a L r h cb sb) ∧ gx_sw x (fun t => k t L r h cb sb) ts b
    | .getfield _ => (match st with
      | .ref q :: r => gx_ob h q a fun fs => gx_fd fs b fun v => k (i + 1) L (v :: r) h cb sb
      | _ => False)
    | .putfield _ => (match st with
      | v :: .ref q :: r => gx_ob h q a fun fs => gx_fd fs b fun _ => gx_kd c v (k (i + 1) L r (h.set q (.inr (.inr (a, fs.set b v)))) cb sb)
      | _ => False)
    | .arraylength => (match st with
      | .ref q :: r => gx_ln h q fun n => k (i + 1) L (.int (nI n) :: r) h cb sb
      | .retAddr _ :: r => k (i + 1) L (.int (nI LL) :: r) h cb sb
      | _ => False)
    | .iaload => (match st with
      | .int x :: .ref q :: r => gx_a0 h q fun n g => ∃ j, x = nI j ∧ j < n ∧ n < 2147483648 ∧ k (i + 1) L (.int (g j) :: r) h cb sb
      | .int x :: .retAddr _ :: r => ∃ j, x = nI j ∧ j < LL ∧ LL < 2147483648 ∧ k (i + 1) L (.int (xs j) :: r) h cb sb
      | _ => False)
    | .baload => (match st with
      | .int x :: .ref q :: r => gx_a1 h q fun n g => ∃ j, x = nI j ∧ j < n ∧ n < 2147483648 ∧ k (i + 1) L (.int (g j) :: r) h cb sb
      | _ => False)
    | .iastore => (match st with
      | .int v :: .int x :: .ref q :: r => gx_a0 h q fun n g => ∃ j, x = nI j ∧ j < n ∧ n < 2147483648 ∧ k (i + 1) L r (h.set q (.inl (0, n, upd g j v))) cb sb
      | _ => False)
    | .bastore => (match st with
      | .int v :: .int x :: .ref q :: r => gx_a1 h q fun n g => ∃ j, x = nI j ∧ j < n ∧ n < 2147483648 ∧ k (i + 1) L r (h.set q (.inl (1, n, upd g j v.toInt8.toInt32))) cb sb
      | _ => False)
    | .aaload => (match st with
      | .int x :: .ref q :: r => gx_a2 h q fun n g => ∃ j, x = nI j ∧ j < n ∧ n < 2147483648 ∧ k (i + 1) L (va_rf (g j) :: r) h cb sb
      | _ => False)
    | .aastore => (match st with
      | .ref w :: .int x :: .ref q :: r => gx_a2 h q fun n g => ∃ j, x = nI j ∧ j < n ∧ n < 2147483648 ∧ gx_own h 0 [.ref w] ∧ k (i + 1) L r (h.set q (.inr (.inl (n, va_up g j (some w))))) cb sb
      | _ => False)
    | .newarray _ => gx_I1 st fun x r => ∃ n, x = nI n ∧ n ≤ 65536 ∧ 1 ≤ cb ∧ n ≤ sb ∧ k (i + 1) L (.ref h.length :: r) (h ++ [.inl (a, n, fun _ => 0)]) (cb - 1) (sb - n)
    | .anewarray _ => gx_I1 st fun x r => ∃ n, x = nI n ∧ n ≤ 65536 ∧ 1 ≤ cb ∧ n ≤ sb ∧ k (i + 1) L (.ref h.length :: r) (h ++ [.inr (.inl (n, fun _ => none))]) (cb - 1) (sb - n)
    | .new _ => 1 ≤ cb ∧ (gx_df a).length ≤ sb ∧ k (i + 1) L (.ref h.length :: st) (h ++ [.inr (.inr (a, gx_df a))]) (cb - 1) (sb - (gx_df a).length)
    | .invokevirtual _ => gx_own h c (st.take b).reverse ∧ gx_inv CALL a (st.take b).reverse (st.drop b) h cb sb fun r h1 cb sb => k (i + 1) L (r.toList ++ st.drop b) h1 cb sb
    | .invokestatic _ => gx_b c (gx_inv CALL a (st.take b).reverse (st.drop b) h cb sb fun r h1 cb sb => k (i + 1) L (r.toList ++ st.drop b) h1 cb sb)
        (gx_in st fun x y z r => gx_cat r ≤ 8 ∧ ((y ≤ x ∧ x ≤ z → k (i + 1) L (.int (nI 1) :: r) h cb sb) ∧ (¬ (y ≤ x ∧ x ≤ z) → k (i + 1) L (.int (nI 0) :: r) h cb sb)))
    | .invokespecial _ => (match c with
      | 99 => (match st with
        | .ref _ :: r => gx_cat r ≤ 8 ∧ k (i + 1) L r h cb sb
        | _ => False)
      | _ => gx_own h (c % 50) (st.take b).reverse ∧ gx_inv CALL a (st.take b).reverse (st.drop b) h cb sb fun r h1 cb sb => r = none ∧ k (i + 1) L (st.drop b) h1 cb sb)
    | .ireturn => (match st with
      | [.int x] => gx_b b (Q (some (.int x)) h) ((x = nI 0 ∨ x = nI 1) ∧ Q (some (.int x)) h)
      | _ => False)
    | .areturn => (match st with
      | [.ref q] => Q (some (.ref q)) h
      | [.null] => Q (some .null) h
      | _ => False)
    | .return_ => (match st with
      | [] => Q none h
      | _ => False)
    | _ => False
/-- comes to its end with Q: the least fixed point of gx_1 -/
def gx_E (LL : Nat) (xs : Nat → Int32) (CALL : gx_C) (cd : List gx_T) (Q : gx_Q) : gx_K := fun i L st h cb sb =>
  ∀ P : gx_K, (∀ k : gx_K, (∀ i L st h cb sb, k i L st h cb sb → P i L st h cb sb) → ∀ i L st h cb sb, gx_1 LL xs CALL cd Q k i L st h cb sb → P i L st h cb sb) → P i L st h cb sb
/-- n instructions on -/
def gx_n (LL : Nat) (xs : Nat → Int32) (CALL : gx_C) (cd : List gx_T) (Q : gx_Q) (z : gx_K) : Nat → gx_K
  | 0 => z
  | n + 1 => gx_1 LL xs CALL cd Q (gx_n LL xs CALL cd Q z n)
theorem gx_fold {LL : Nat} {xs : Nat → Int32} {CALL : gx_C} {cd : List gx_T} {Q : gx_Q} {k : gx_K} (hk : ∀ i L st h cb sb, k i L st h cb sb → gx_E LL xs CALL cd Q i L st h cb sb) {i : Nat} {L : gx_L} {st : List Value} {h : gx_H} {cb sb : Nat}
    (h1 : gx_1 LL xs CALL cd Q k i L st h cb sb) : gx_E LL xs CALL cd Q i L st h cb sb :=
  fun P hP => hP k (fun i L st h cb sb hh => hk i L st h cb sb hh P hP) i L st h cb sb h1
theorem gx_run {LL : Nat} {xs : Nat → Int32} {CALL : gx_C} {cd : List gx_T} {Q : gx_Q} (n : Nat) : ∀ {i : Nat} {L : gx_L} {st : List Value} {h : gx_H} {cb sb : Nat}, gx_n LL xs CALL cd Q (gx_E LL xs CALL cd Q) n i L st h cb sb → gx_E LL xs CALL cd Q i L st h cb sb := by
  induction n with
  | zero => intro i L st h cb sb hh; exact hh
  | succ n ih => intro i L st h cb sb hh; exact gx_fold (k := gx_n LL xs CALL cd Q (gx_E LL xs CALL cd Q) n) (fun i L st h cb sb hx => ih hx) hh
/-- what holds behind it may be weakened -/
theorem gx_1_post {LL : Nat} {xs : Nat → Int32} {CALL : gx_C} {cd : List gx_T} {Q Q2 : gx_Q} {k : gx_K} (hq : ∀ r h, Q r h → Q2 r h) {i : Nat} {L : gx_L} {st : List Value} {h : gx_H} {cb sb : Nat} (h1 : gx_1 LL xs CALL cd Q k i L st h cb sb) : gx_1 LL xs CALL cd Q2 k i L st h cb sb := by
  unfold gx_1 at h1 ⊢
  cases hc : cd[i]? with
  | none => rw [hc] at h1; exact h1
  | some e =>
    obtain ⟨pc, ins, a, b, c, ts⟩ := e
    rw [hc] at h1
    cases ins <;> first | exact h1 | skip
    · -- areturn
      dsimp only at h1 ⊢
      split at h1
      · exact hq _ _ h1
      · exact hq _ _ h1
      · exact h1.elim
    · -- ireturn
      dsimp only at h1 ⊢
      split at h1
      · unfold gx_b at h1 ⊢
        split at h1
        · exact hq _ _ h1
        · exact ⟨h1.1, hq _ _ h1.2⟩
      · exact h1.elim
    · dsimp only at h1 ⊢
      split at h1
      · exact hq _ _ h1
      · exact h1.elim
theorem gx_post {LL : Nat} {xs : Nat → Int32} {CALL : gx_C} {cd : List gx_T} {Q Q2 : gx_Q} (hq : ∀ r h, Q r h → Q2 r h) {i : Nat} {L : gx_L} {st : List Value} {h : gx_H} {cb sb : Nat} (h1 : gx_E LL xs CALL cd Q i L st h cb sb) : gx_E LL xs CALL cd Q2 i L st h cb sb :=
  h1 (gx_E LL xs CALL cd Q2) fun _ hk _ _ _ _ _ _ hh => gx_fold hk (gx_1_post hq hh)
end
section
/-! printed by gen.py: each method as a list of (pc, instruction, numbers, places); the list of all methods -/
/-- name, code, locals, answer, arguments, kind (0 static, 1 on an object), instructions, places of words (code, initialized, static or instanceMethod, selects) -/
abbrev gx_M : Type := MethodName × ByteArray × Nat × Option FieldType × Nat × Nat × List gx_T × List Nat
def cd_F_init : List gx_T := [(0, .aload_n 0, 0, 0, 0, []),
  (1, .invokespecial 3, 0, 0, 99, [96, 67, 68]),
  (4, .aload_n 0, 0, 0, 0, []),
  (5, .iconst 0, 0, 0, 0, []),
  (6, .putfield 9, 0, 0, 0, [97]),
  (9, .aload_n 0, 0, 0, 0, []),
  (10, .iconst 0, 0, 0, 0, []),
  (11, .putfield 15, 0, 1, 0, [99]),
  (14, .aload_n 0, 0, 0, 0, []),
  (15, .iconst 0, 0, 0, 0, []),
  (16, .putfield 18, 0, 2, 0, [101]),
  (19, .aload_n 0, 0, 0, 0, []),
  (20, .bipush 6, 6, 0, 0, []),
  (22, .newarray .int, 0, 0, 0, [90]),
  (24, .putfield 21, 0, 3, 1, [103]),
  (27, .aload_n 0, 0, 0, 0, []),
  (28, .bipush 6, 6, 0, 0, []),
  (30, .newarray .int, 0, 0, 0, [90]),
  (32, .putfield 25, 0, 4, 1, [104]),
  (35, .return_, 0, 0, 0, [])]
def cd_F_begin : List gx_T := [(0, .aload_n 0, 0, 0, 0, []),
  (1, .iload_n 1, 1, 0, 0, []),
  (2, .putfield 9, 0, 0, 0, [97]),
  (5, .aload_n 0, 0, 0, 0, []),
  (6, .iconst 0, 0, 0, 0, []),
  (7, .putfield 18, 0, 2, 0, [101]),
  (10, .return_, 0, 0, 0, [])]
def cd_F_addPair : List gx_T := [(0, .aload_n 0, 0, 0, 0, []),
  (1, .getfield 18, 0, 2, 0, [101]),
  (4, .ifCond .lt 12, 7, 0, 0, []),
  (7, .aload_n 0, 0, 0, 0, []),
  (8, .getfield 18, 0, 2, 0, [101]),
  (11, .bipush 6, 6, 0, 0, []),
  (13, .if_icmp .lt 5, 9, 0, 0, []),
  (16, .iconst (-1), 1, 1, 0, []),
  (17, .ireturn, 0, 0, 0, []),
  (18, .aload_n 0, 0, 0, 0, []),
  (19, .getfield 21, 0, 3, 1, [103]),
  (22, .aload_n 0, 0, 0, 0, []),
  (23, .getfield 18, 0, 2, 0, [101]),
  (26, .iload_n 1, 1, 0, 0, []),
  (27, .iastore, 0, 0, 0, []),
  (28, .aload_n 0, 0, 0, 0, []),
  (29, .getfield 25, 0, 4, 1, [104]),
  (32, .aload_n 0, 0, 0, 0, []),
  (33, .getfield 18, 0, 2, 0, [101]),
  (36, .iload_n 2, 2, 0, 0, []),
  (37, .iastore, 0, 0, 0, []),
  (38, .aload_n 0, 0, 0, 0, []),
  (39, .dup, 0, 0, 0, []),
  (40, .getfield 18, 0, 2, 0, [101]),
  (43, .iconst 1, 1, 0, 0, []),
  (44, .iadd, 0, 0, 0, []),
  (45, .putfield 18, 0, 2, 0, [101]),
  (48, .aload_n 0, 0, 0, 0, []),
  (49, .getfield 18, 0, 2, 0, [101]),
  (52, .ireturn, 0, 0, 0, [])]
def cd_F_widthOfPair : List gx_T := [(0, .iload_n 1, 1, 0, 0, []),
  (1, .ifCond .lt 18, 10, 0, 0, []),
  (4, .iload_n 1, 1, 0, 0, []),
  (5, .bipush 6, 6, 0, 0, []),
  (7, .if_icmp .ge 12, 10, 0, 0, []),
  (10, .aload_n 0, 0, 0, 0, []),
  (11, .getfield 21, 0, 3, 1, [103]),
  (14, .iload_n 1, 1, 0, 0, []),
  (15, .iaload, 0, 0, 0, []),
  (16, .goto 4, 11, 0, 0, []),
  (19, .iconst 1, 1, 0, 0, []),
  (20, .ireturn, 0, 0, 0, [])]
def cd_F_countOfPair : List gx_T := [(0, .iload_n 1, 1, 0, 0, []),
  (1, .ifCond .lt 18, 10, 0, 0, []),
  (4, .iload_n 1, 1, 0, 0, []),
  (5, .bipush 6, 6, 0, 0, []),
  (7, .if_icmp .ge 12, 10, 0, 0, []),
  (10, .aload_n 0, 0, 0, 0, []),
  (11, .getfield 25, 0, 4, 1, [104]),
  (14, .iload_n 1, 1, 0, 0, []),
  (15, .iaload, 0, 0, 0, []),
  (16, .goto 4, 11, 0, 0, []),
  (19, .iconst 0, 0, 0, 0, []),
  (20, .ireturn, 0, 0, 0, [])]
def cd_F_isAccelerated : List gx_T := [(0, .aload_n 0, 0, 0, 0, []),
  (1, .getfield 15, 0, 1, 0, [99]),
  (4, .ifCond .eq 7, 5, 0, 0, []),
  (7, .iconst 1, 1, 0, 0, []),
  (8, .goto 4, 6, 0, 0, []),
  (11, .iconst 0, 0, 0, 0, []),
  (12, .ireturn, 0, 1, 0, [])]
def cd_F_hasFrameHead : List gx_T := [(0, .aload_n 0, 0, 0, 0, []),
  (1, .getfield 9, 0, 0, 0, [97]),
  (4, .sipush 192, 192, 0, 0, []),
  (7, .if_icmp .eq 13, 8, 0, 0, []),
  (10, .aload_n 0, 0, 0, 0, []),
  (11, .getfield 9, 0, 0, 0, [97]),
  (14, .sipush 193, 193, 0, 0, []),
  (17, .if_icmp .ne 7, 10, 0, 0, []),
  (20, .iconst 1, 1, 0, 0, []),
  (21, .goto 4, 11, 0, 0, []),
  (24, .iconst 0, 0, 0, 0, []),
  (25, .ireturn, 0, 1, 0, [])]
def cd_F_takesPushed : List gx_T := [(0, .aload_n 0, 0, 0, 0, []),
  (1, .getfield 9, 0, 0, 0, [97]),
  (4, .sipush 192, 192, 0, 0, []),
  (7, .if_icmp .ne 7, 6, 0, 0, []),
  (10, .iconst 1, 1, 0, 0, []),
  (11, .goto 4, 7, 0, 0, []),
  (14, .iconst 0, 0, 0, 0, []),
  (15, .ireturn, 0, 1, 0, [])]
def cd_F_localCount : List gx_T := [(0, .iconst 0, 0, 0, 0, []),
  (1, .istore_n 1, 1, 0, 0, []),
  (2, .iconst 0, 0, 0, 0, []),
  (3, .istore_n 2, 2, 0, 0, []),
  (4, .iload_n 2, 2, 0, 0, []),
  (5, .aload_n 0, 0, 0, 0, []),
  (6, .getfield 18, 0, 2, 0, [101]),
  (9, .if_icmp .ge 17, 16, 0, 0, []),
  (12, .iload_n 1, 1, 0, 0, []),
  (13, .aload_n 0, 0, 0, 0, []),
  (14, .iload_n 2, 2, 0, 0, []),
  (15, .invokevirtual 28, 4, 2, 0, [183]),
  (18, .iadd, 0, 0, 0, []),
  (19, .istore_n 1, 1, 0, 0, []),
  (20, .iinc 2 1, 2, 1, 0, []),
  (23, .goto (-19), 4, 0, 0, []),
  (26, .iload_n 1, 1, 0, 0, []),
  (27, .ireturn, 0, 0, 0, [])]
def cd_F_localsBegin : List gx_T := [(0, .iconst 4, 4, 0, 0, []),
  (1, .bipush 8, 8, 0, 0, []),
  (3, .iconst 2, 2, 0, 0, []),
  (4, .aload_n 0, 0, 0, 0, []),
  (5, .getfield 18, 0, 2, 0, [101]),
  (8, .imul, 0, 0, 0, []),
  (9, .iadd, 0, 0, 0, []),
  (10, .iconst 2, 2, 0, 0, []),
  (11, .iadd, 0, 0, 0, []),
  (12, .invokestatic 32, 13, 2, 0, [195]),
  (15, .ireturn, 0, 0, 0, [])]
def cd_F_placeOfLocal : List gx_T := [(0, .iconst 0, 0, 0, 0, []),
  (1, .istore_n 2, 2, 0, 0, []),
  (2, .iload_n 1, 1, 0, 0, []),
  (3, .istore_n 3, 3, 0, 0, []),
  (4, .iconst 0, 0, 0, 0, []),
  (5, .istore 4, 4, 0, 0, []),
  (7, .iload 4, 4, 0, 0, []),
  (9, .aload_n 0, 0, 0, 0, []),
  (10, .getfield 18, 0, 2, 0, [101]),
  (13, .if_icmp .ge 66, 47, 0, 0, []),
  (16, .iload_n 3, 3, 0, 0, []),
  (17, .ifCond .lt 62, 47, 0, 0, []),
  (20, .aload_n 0, 0, 0, 0, []),
  (21, .iload 4, 4, 0, 0, []),
  (23, .invokevirtual 36, 3, 2, 0, [198]),
  (26, .istore 5, 5, 0, 0, []),
  (28, .iload 5, 5, 0, 0, []),
  (30, .iload_n 2, 2, 0, 0, []),
  (31, .invokestatic 32, 13, 2, 0, [195]),
  (34, .istore_n 2, 2, 0, 0, []),
  (35, .iload_n 3, 3, 0, 0, []),
  (36, .aload_n 0, 0, 0, 0, []),
  (37, .iload 4, 4, 0, 0, []),
  (39, .invokevirtual 28, 4, 2, 0, [183]),
  (42, .if_icmp .ge 10, 31, 0, 0, []),
  (45, .iload_n 2, 2, 0, 0, []),
  (46, .iload_n 3, 3, 0, 0, []),
  (47, .iload 5, 5, 0, 0, []),
  (49, .imul, 0, 0, 0, []),
  (50, .iadd, 0, 0, 0, []),
  (51, .ireturn, 0, 0, 0, []),
  (52, .iload_n 2, 2, 0, 0, []),
  (53, .aload_n 0, 0, 0, 0, []),
  (54, .iload 4, 4, 0, 0, []),
  (56, .invokevirtual 28, 4, 2, 0, [183]),
  (59, .iload 5, 5, 0, 0, []),
  (61, .imul, 0, 0, 0, []),
  (62, .iadd, 0, 0, 0, []),
  (63, .istore_n 2, 2, 0, 0, []),
  (64, .iload_n 3, 3, 0, 0, []),
  (65, .aload_n 0, 0, 0, 0, []),
  (66, .iload 4, 4, 0, 0, []),
  (68, .invokevirtual 28, 4, 2, 0, [183]),
  (71, .isub, 0, 0, 0, []),
  (72, .istore_n 3, 3, 0, 0, []),
  (73, .iinc 4 1, 4, 1, 0, []),
  (76, .goto (-69), 6, 0, 0, []),
  (79, .iconst (-1), 1, 1, 0, []),
  (80, .ireturn, 0, 0, 0, [])]
def cd_F_frameLength : List gx_T := [(0, .aload_n 0, 0, 0, 0, []),
  (1, .invokevirtual 39, 9, 1, 0, [191]),
  (4, .istore_n 1, 1, 0, 0, []),
  (5, .iconst 0, 0, 0, 0, []),
  (6, .istore_n 2, 2, 0, 0, []),
  (7, .iload_n 2, 2, 0, 0, []),
  (8, .aload_n 0, 0, 0, 0, []),
  (9, .getfield 18, 0, 2, 0, [101]),
  (12, .if_icmp .ge 29, 25, 0, 0, []),
  (15, .aload_n 0, 0, 0, 0, []),
  (16, .iload_n 2, 2, 0, 0, []),
  (17, .invokevirtual 36, 3, 2, 0, [198]),
  (20, .istore_n 3, 3, 0, 0, []),
  (21, .iload_n 3, 3, 0, 0, []),
  (22, .iload_n 1, 1, 0, 0, []),
  (23, .invokestatic 32, 13, 2, 0, [195]),
  (26, .aload_n 0, 0, 0, 0, []),
  (27, .iload_n 2, 2, 0, 0, []),
  (28, .invokevirtual 28, 4, 2, 0, [183]),
  (31, .iload_n 3, 3, 0, 0, []),
  (32, .imul, 0, 0, 0, []),
  (33, .iadd, 0, 0, 0, []),
  (34, .istore_n 1, 1, 0, 0, []),
  (35, .iinc 2 1, 2, 1, 0, []),
  (38, .goto (-31), 5, 0, 0, []),
  (41, .iconst 4, 4, 0, 0, []),
  (42, .iload_n 1, 1, 0, 0, []),
  (43, .invokestatic 32, 13, 2, 0, [195]),
  (46, .ireturn, 0, 0, 0, [])]
def cd_F_bytesWith : List gx_T := [(0, .aload_n 0, 0, 0, 0, []),
  (1, .invokevirtual 43, 7, 1, 0, [317]),
  (4, .ifCond .eq 16, 12, 0, 0, []),
  (7, .aload_n 0, 0, 0, 0, []),
  (8, .invokevirtual 47, 11, 1, 0, [321]),
  (11, .iconst 4, 4, 0, 0, []),
  (12, .iload_n 1, 1, 0, 0, []),
  (13, .iconst 1, 1, 0, 0, []),
  (14, .iadd, 0, 0, 0, []),
  (15, .imul, 0, 0, 0, []),
  (16, .iadd, 0, 0, 0, []),
  (17, .goto 7, 14, 0, 0, []),
  (20, .aload_n 0, 0, 0, 0, []),
  (21, .invokevirtual 47, 11, 1, 0, [321]),
  (24, .ireturn, 0, 0, 0, [])]
def cd_F_upTo : List gx_T := [(0, .iload_n 1, 1, 0, 0, []),
  (1, .iload_n 0, 0, 0, 0, []),
  (2, .iadd, 0, 0, 0, []),
  (3, .iconst 1, 1, 0, 0, []),
  (4, .isub, 0, 0, 0, []),
  (5, .iload_n 0, 0, 0, 0, []),
  (6, .ineg, 0, 0, 0, []),
  (7, .iand, 0, 0, 0, []),
  (8, .ireturn, 0, 0, 0, [])]
def cd_R_init : List gx_T := [(0, .aload_n 0, 0, 0, 0, []),
  (1, .invokespecial 1, 0, 0, 99, [76, 67, 68]),
  (4, .aload_n 0, 0, 0, 0, []),
  (5, .iconst 0, 0, 0, 0, []),
  (6, .putfield 7, 1, 1, 0, [84]),
  (9, .bipush 64, 64, 0, 0, []),
  (11, .sipush 1024, 1024, 0, 0, []),
  (14, .iload_n 1, 1, 0, 0, []),
  (15, .invokestatic 13, 136, 2, 0, [77]),
  (18, .invokestatic 19, 135, 2, 0, [80]),
  (21, .istore_n 2, 2, 0, 0, []),
  (22, .aload_n 0, 0, 0, 0, []),
  (23, .iload_n 2, 2, 0, 0, []),
  (24, .iload_n 2, 2, 0, 0, []),
  (25, .iconst 4, 4, 0, 0, []),
  (26, .irem, 0, 0, 0, []),
  (27, .isub, 0, 0, 0, []),
  (28, .newarray .byte, 1, 0, 0, [91]),
  (30, .putfield 22, 1, 0, 1, [83]),
  (33, .return_, 0, 0, 0, [])]
def cd_R_size : List gx_T := [(0, .aload_n 0, 0, 0, 0, []),
  (1, .getfield 22, 1, 0, 1, [83]),
  (4, .arraylength, 0, 0, 0, []),
  (5, .ireturn, 0, 0, 0, [])]
def cd_R_end : List gx_T := [(0, .aload_n 0, 0, 0, 0, []),
  (1, .getfield 7, 1, 1, 0, [84]),
  (4, .ireturn, 0, 0, 0, [])]
def cd_R_reaches : List gx_T := [(0, .iload_n 1, 1, 0, 0, []),
  (1, .aload_n 0, 0, 0, 0, []),
  (2, .getfield 22, 1, 0, 1, [83]),
  (5, .arraylength, 0, 0, 0, []),
  (6, .if_icmp .gt 7, 7, 0, 0, []),
  (9, .iconst 1, 1, 0, 0, []),
  (10, .goto 4, 8, 0, 0, []),
  (13, .iconst 0, 0, 0, 0, []),
  (14, .ireturn, 0, 1, 0, [])]
def cd_R_number : List gx_T := [(0, .iconst 0, 0, 0, 0, []),
  (1, .istore_n 3, 3, 0, 0, []),
  (2, .iconst 0, 0, 0, 0, []),
  (3, .istore 4, 4, 0, 0, []),
  (5, .iload 4, 4, 0, 0, []),
  (7, .iload_n 2, 2, 0, 0, []),
  (8, .if_icmp .ge 23, 19, 0, 0, []),
  (11, .iload_n 3, 3, 0, 0, []),
  (12, .bipush 8, 8, 0, 0, []),
  (14, .ishl, 0, 0, 0, []),
  (15, .aload_n 0, 0, 0, 0, []),
  (16, .iload_n 1, 1, 0, 0, []),
  (17, .iload 4, 4, 0, 0, []),
  (19, .iadd, 0, 0, 0, []),
  (20, .invokevirtual 26, 23, 2, 1, [242]),
  (23, .ior, 0, 0, 0, []),
  (24, .istore_n 3, 3, 0, 0, []),
  (25, .iinc 4 1, 4, 1, 0, []),
  (28, .goto (-23), 4, 0, 0, []),
  (31, .iload_n 3, 3, 0, 0, []),
  (32, .ireturn, 0, 0, 0, [])]
def cd_R_set : List gx_T := [(0, .iload_n 3, 3, 0, 0, []),
  (1, .istore 4, 4, 0, 0, []),
  (3, .iload_n 2, 2, 0, 0, []),
  (4, .iconst 1, 1, 0, 0, []),
  (5, .isub, 0, 0, 0, []),
  (6, .istore 5, 5, 0, 0, []),
  (8, .iload 5, 5, 0, 0, []),
  (10, .ifCond .lt 26, 20, 0, 0, []),
  (13, .aload_n 0, 0, 0, 0, []),
  (14, .iload_n 1, 1, 0, 0, []),
  (15, .iload 5, 5, 0, 0, []),
  (17, .iadd, 0, 0, 0, []),
  (18, .iload 4, 4, 0, 0, []),
  (20, .invokevirtual 30, 24, 3, 1, [296]),
  (23, .iload 4, 4, 0, 0, []),
  (25, .bipush 8, 8, 0, 0, []),
  (27, .ishr, 0, 0, 0, []),
  (28, .istore 4, 4, 0, 0, []),
  (30, .iinc 5 (-1), 5, 1, 1, []),
  (33, .goto (-25), 6, 0, 0, []),
  (36, .return_, 0, 0, 0, [])]
def cd_R_append : List gx_T := [(0, .aload_n 0, 0, 0, 0, []),
  (1, .getfield 7, 1, 1, 0, [84]),
  (4, .istore_n 2, 2, 0, 0, []),
  (5, .aload_n 0, 0, 0, 0, []),
  (6, .iconst 4, 4, 0, 0, []),
  (7, .invokevirtual 34, 21, 2, 1, [304]),
  (10, .aload_n 0, 0, 0, 0, []),
  (11, .iload_n 2, 2, 0, 0, []),
  (12, .iconst 4, 4, 0, 0, []),
  (13, .iload_n 1, 1, 0, 0, []),
  (14, .invokevirtual 38, 19, 4, 1, [308]),
  (17, .return_, 0, 0, 0, [])]
def cd_R_appendZeros : List gx_T := [(0, .iconst 0, 0, 0, 0, []),
  (1, .istore_n 2, 2, 0, 0, []),
  (2, .iload_n 2, 2, 0, 0, []),
  (3, .iload_n 1, 1, 0, 0, []),
  (4, .if_icmp .ge 40, 24, 0, 0, []),
  (7, .aload_n 0, 0, 0, 0, []),
  (8, .getfield 7, 1, 1, 0, [84]),
  (11, .aload_n 0, 0, 0, 0, []),
  (12, .getfield 22, 1, 0, 1, [83]),
  (15, .arraylength, 0, 0, 0, []),
  (16, .if_icmp .ge 28, 24, 0, 0, []),
  (19, .aload_n 0, 0, 0, 0, []),
  (20, .aload_n 0, 0, 0, 0, []),
  (21, .getfield 7, 1, 1, 0, [84]),
  (24, .iconst 0, 0, 0, 0, []),
  (25, .invokevirtual 30, 24, 3, 1, [296]),
  (28, .aload_n 0, 0, 0, 0, []),
  (29, .dup, 0, 0, 0, []),
  (30, .getfield 7, 1, 1, 0, [84]),
  (33, .iconst 1, 1, 0, 0, []),
  (34, .iadd, 0, 0, 0, []),
  (35, .putfield 7, 1, 1, 0, [84]),
  (38, .iinc 2 1, 2, 1, 0, []),
  (41, .goto (-39), 2, 0, 0, []),
  (44, .return_, 0, 0, 0, [])]
def cd_R_cutTo : List gx_T := [(0, .iload_n 1, 1, 0, 0, []),
  (1, .ifCond .lt 16, 9, 0, 0, []),
  (4, .iload_n 1, 1, 0, 0, []),
  (5, .aload_n 0, 0, 0, 0, []),
  (6, .getfield 7, 1, 1, 0, [84]),
  (9, .if_icmp .gt 8, 9, 0, 0, []),
  (12, .aload_n 0, 0, 0, 0, []),
  (13, .iload_n 1, 1, 0, 0, []),
  (14, .putfield 7, 1, 1, 0, [84]),
  (17, .return_, 0, 0, 0, [])]
def cd_R_byteOrZero : List gx_T := [(0, .iload_n 1, 1, 0, 0, []),
  (1, .ifCond .lt 25, 14, 0, 0, []),
  (4, .iload_n 1, 1, 0, 0, []),
  (5, .aload_n 0, 0, 0, 0, []),
  (6, .getfield 22, 1, 0, 1, [83]),
  (9, .arraylength, 0, 0, 0, []),
  (10, .if_icmp .ge 16, 14, 0, 0, []),
  (13, .aload_n 0, 0, 0, 0, []),
  (14, .getfield 22, 1, 0, 1, [83]),
  (17, .iload_n 1, 1, 0, 0, []),
  (18, .baload, 0, 0, 0, []),
  (19, .sipush 255, 255, 0, 0, []),
  (22, .iand, 0, 0, 0, []),
  (23, .goto 4, 15, 0, 0, []),
  (26, .iconst 0, 0, 0, 0, []),
  (27, .ireturn, 0, 0, 0, [])]
def cd_R_setByte : List gx_T := [(0, .iload_n 1, 1, 0, 0, []),
  (1, .ifCond .lt 20, 13, 0, 0, []),
  (4, .iload_n 1, 1, 0, 0, []),
  (5, .aload_n 0, 0, 0, 0, []),
  (6, .getfield 22, 1, 0, 1, [83]),
  (9, .arraylength, 0, 0, 0, []),
  (10, .if_icmp .ge 11, 13, 0, 0, []),
  (13, .aload_n 0, 0, 0, 0, []),
  (14, .getfield 22, 1, 0, 1, [83]),
  (17, .iload_n 1, 1, 0, 0, []),
  (18, .iload_n 2, 2, 0, 0, []),
  (19, .i2b, 0, 0, 0, []),
  (20, .bastore, 0, 0, 0, []),
  (21, .return_, 0, 0, 0, [])]
def cd_G_init : List gx_T := [(0, .aload_n 0, 0, 0, 0, []),
  (1, .invokespecial 1, 0, 0, 99, [66, 67, 68]),
  (4, .aload_n 0, 0, 0, 0, []),
  (5, .bipush 12, 12, 0, 0, []),
  (7, .anewarray 9, 0, 0, 0, [69, 70]),
  (10, .putfield 11, 2, 1, 1, [121]),
  (13, .aload_n 0, 0, 0, 0, []),
  (14, .bipush 16, 16, 0, 0, []),
  (16, .newarray .int, 0, 0, 0, [90]),
  (18, .putfield 15, 2, 2, 1, [122]),
  (21, .aload_n 0, 0, 0, 0, []),
  (22, .iconst 0, 0, 0, 0, []),
  (23, .putfield 19, 2, 4, 0, [124]),
  (26, .aload_n 0, 0, 0, 0, []),
  (27, .iconst (-1), 1, 1, 0, []),
  (28, .putfield 23, 2, 6, 0, [126]),
  (31, .aload_n 0, 0, 0, 0, []),
  (32, .iconst 0, 0, 0, 0, []),
  (33, .putfield 26, 2, 7, 0, [127]),
  (36, .aload_n 0, 0, 0, 0, []),
  (37, .iconst 0, 0, 0, 0, []),
  (38, .putfield 29, 2, 8, 0, [128]),
  (41, .aload_n 0, 0, 0, 0, []),
  (42, .new 32, 1, 0, 0, [71, 72, 57]),
  (45, .dup, 0, 0, 0, []),
  (46, .iload_n 1, 1, 0, 0, []),
  (47, .invokespecial 34, 14, 2, 1, [73]),
  (50, .putfield 37, 2, 0, 1, [120]),
  (53, .iconst 0, 0, 0, 0, []),
  (54, .istore_n 2, 2, 0, 0, []),
  (55, .iload_n 2, 2, 0, 0, []),
  (56, .aload_n 0, 0, 0, 0, []),
  (57, .getfield 11, 2, 1, 1, [121]),
  (60, .arraylength, 0, 0, 0, []),
  (61, .if_icmp .ge 22, 44, 0, 0, []),
  (64, .aload_n 0, 0, 0, 0, []),
  (65, .getfield 11, 2, 1, 1, [121]),
  (68, .iload_n 2, 2, 0, 0, []),
  (69, .new 9, 0, 0, 0, [69, 92, 59]),
  (72, .dup, 0, 0, 0, []),
  (73, .invokespecial 41, 0, 1, 50, [93]),
  (76, .aastore, 0, 0, 0, []),
  (77, .iinc 2 1, 2, 1, 0, []),
  (80, .goto (-25), 30, 0, 0, []),
  (83, .aload_n 0, 0, 0, 0, []),
  (84, .aload_n 0, 0, 0, 0, []),
  (85, .getfield 37, 2, 0, 1, [120]),
  (88, .invokevirtual 42, 15, 1, 1, [116]),
  (91, .bipush 16, 16, 0, 0, []),
  (93, .idiv, 0, 0, 0, []),
  (94, .iconst 1, 1, 0, 0, []),
  (95, .iadd, 0, 0, 0, []),
  (96, .newarray .int, 0, 0, 0, [90]),
  (98, .putfield 46, 2, 3, 1, [123]),
  (101, .aload_n 0, 0, 0, 0, []),
  (102, .aload_n 0, 0, 0, 0, []),
  (103, .getfield 37, 2, 0, 1, [120]),
  (106, .invokevirtual 42, 15, 1, 1, [116]),
  (109, .iconst 4, 4, 0, 0, []),
  (110, .idiv, 0, 0, 0, []),
  (111, .iconst 1, 1, 0, 0, []),
  (112, .iadd, 0, 0, 0, []),
  (113, .newarray .int, 0, 0, 0, [90]),
  (115, .putfield 49, 2, 5, 1, [125]),
  (118, .return_, 0, 0, 0, [])]
def cd_G_function : List gx_T := [(0, .aload_n 0, 0, 0, 0, []),
  (1, .iload_n 1, 1, 0, 0, []),
  (2, .invokevirtual 52, 31, 2, 2, [152]),
  (5, .astore_n 3, 3, 0, 0, []),
  (6, .aload_n 3, 3, 0, 0, []),
  (7, .ifnull 14, 11, 0, 0, []),
  (10, .iload_n 2, 2, 0, 0, []),
  (11, .ifCond .lt 10, 11, 0, 0, []),
  (14, .iload_n 2, 2, 0, 0, []),
  (15, .sipush 255, 255, 0, 0, []),
  (18, .if_icmp .le 5, 13, 0, 0, []),
  (21, .iconst (-1), 1, 1, 0, []),
  (22, .ireturn, 0, 0, 0, []),
  (23, .aload_n 3, 3, 0, 0, []),
  (24, .iload_n 2, 2, 0, 0, []),
  (25, .invokevirtual 56, 1, 2, 0, [156]),
  (28, .iconst 1, 1, 0, 0, []),
  (29, .ireturn, 0, 0, 0, [])]
def cd_G_format : List gx_T := [(0, .aload_n 0, 0, 0, 0, []),
  (1, .iload_n 1, 1, 0, 0, []),
  (2, .invokevirtual 52, 31, 2, 2, [152]),
  (5, .astore 4, 4, 0, 0, []),
  (7, .aload 4, 4, 0, 0, []),
  (9, .ifnull 22, 15, 0, 0, []),
  (12, .iload_n 2, 2, 0, 0, []),
  (13, .invokestatic 59, 32, 1, 0, [164]),
  (16, .ifCond .eq 15, 15, 0, 0, []),
  (19, .iload_n 3, 3, 0, 0, []),
  (20, .iconst 1, 1, 0, 0, []),
  (21, .if_icmp .lt 10, 15, 0, 0, []),
  (24, .iload_n 3, 3, 0, 0, []),
  (25, .sipush 255, 255, 0, 0, []),
  (28, .if_icmp .le 5, 17, 0, 0, []),
  (31, .iconst (-1), 1, 1, 0, []),
  (32, .ireturn, 0, 0, 0, []),
  (33, .aload 4, 4, 0, 0, []),
  (35, .iload_n 2, 2, 0, 0, []),
  (36, .iload_n 3, 3, 0, 0, []),
  (37, .invokevirtual 63, 2, 3, 0, [167]),
  (40, .ireturn, 0, 0, 0, [])]
def cd_G_accelerate : List gx_T := [(0, .aload_n 0, 0, 0, 0, []),
  (1, .iload_n 1, 1, 0, 0, []),
  (2, .invokevirtual 52, 31, 2, 2, [152]),
  (5, .astore_n 3, 3, 0, 0, []),
  (6, .aload_n 3, 3, 0, 0, []),
  (7, .ifnull 12, 11, 0, 0, []),
  (10, .iload_n 2, 2, 0, 0, []),
  (11, .ifCond .lt 8, 11, 0, 0, []),
  (14, .iload_n 2, 2, 0, 0, []),
  (15, .iconst 3, 3, 0, 0, []),
  (16, .if_icmp .le 5, 13, 0, 0, []),
  (19, .iconst (-1), 1, 1, 0, []),
  (20, .ireturn, 0, 0, 0, []),
  (21, .aload_n 3, 3, 0, 0, []),
  (22, .getfield 67, 0, 1, 0, [100]),
  (25, .istore 4, 4, 0, 0, []),
  (27, .aload_n 3, 3, 0, 0, []),
  (28, .iload_n 2, 2, 0, 0, []),
  (29, .putfield 67, 0, 1, 0, [100]),
  (32, .iload 4, 4, 0, 0, []),
  (34, .ireturn, 0, 0, 0, [])]
def cd_G_told : List gx_T := [(0, .aload_n 0, 0, 0, 0, []),
  (1, .iload_n 1, 1, 0, 0, []),
  (2, .invokevirtual 52, 31, 2, 2, [152]),
  (5, .astore_n 3, 3, 0, 0, []),
  (6, .aload_n 3, 3, 0, 0, []),
  (7, .ifnonnull 5, 8, 0, 0, []),
  (10, .iconst (-1), 1, 1, 0, []),
  (11, .ireturn, 0, 0, 0, []),
  (12, .iload_n 2, 2, 0, 0, []),
  (13, .tableswitch 60 0 4 #[35, 40, 45, 50, 55], 25, 0, 35, [10, 13, 16, 19, 22]),
  (48, .aload_n 3, 3, 0, 0, []),
  (49, .getfield 70, 0, 0, 0, [98]),
  (52, .ireturn, 0, 0, 0, []),
  (53, .aload_n 3, 3, 0, 0, []),
  (54, .getfield 73, 0, 2, 0, [102]),
  (57, .ireturn, 0, 0, 0, []),
  (58, .aload_n 3, 3, 0, 0, []),
  (59, .invokevirtual 76, 8, 1, 0, [179]),
  (62, .ireturn, 0, 0, 0, []),
  (63, .aload_n 3, 3, 0, 0, []),
  (64, .invokevirtual 79, 11, 1, 0, [187]),
  (67, .ireturn, 0, 0, 0, []),
  (68, .aload_n 3, 3, 0, 0, []),
  (69, .invokevirtual 82, 9, 1, 0, [202]),
  (72, .ireturn, 0, 0, 0, []),
  (73, .iconst (-1), 1, 1, 0, []),
  (74, .ireturn, 0, 0, 0, [])]
def cd_G_local : List gx_T := [(0, .aload_n 0, 0, 0, 0, []),
  (1, .iload_n 1, 1, 0, 0, []),
  (2, .invokevirtual 52, 31, 2, 2, [152]),
  (5, .astore_n 3, 3, 0, 0, []),
  (6, .aload_n 3, 3, 0, 0, []),
  (7, .ifnonnull 7, 8, 0, 0, []),
  (10, .iconst (-1), 1, 1, 0, []),
  (11, .goto 8, 11, 0, 0, []),
  (14, .aload_n 3, 3, 0, 0, []),
  (15, .iload_n 2, 2, 0, 0, []),
  (16, .invokevirtual 85, 10, 2, 0, [207]),
  (19, .ireturn, 0, 0, 0, [])]
def cd_G_functionOf : List gx_T := [(0, .iload_n 1, 1, 0, 0, []),
  (1, .ifCond .lt 21, 12, 0, 0, []),
  (4, .iload_n 1, 1, 0, 0, []),
  (5, .aload_n 0, 0, 0, 0, []),
  (6, .getfield 11, 2, 1, 1, [121]),
  (9, .arraylength, 0, 0, 0, []),
  (10, .if_icmp .ge 12, 12, 0, 0, []),
  (13, .aload_n 0, 0, 0, 0, []),
  (14, .getfield 11, 2, 1, 1, [121]),
  (17, .iload_n 1, 1, 0, 0, []),
  (18, .aaload, 0, 0, 0, []),
  (19, .goto 4, 13, 0, 0, []),
  (22, .aconst_null, 0, 0, 0, []),
  (23, .areturn, 0, 0, 0, [])]
def cd_G_isWidth : List gx_T := [(0, .iload_n 0, 0, 0, 0, []),
  (1, .iconst 1, 1, 0, 0, []),
  (2, .if_icmp .eq 13, 9, 0, 0, []),
  (5, .iload_n 0, 0, 0, 0, []),
  (6, .iconst 2, 2, 0, 0, []),
  (7, .if_icmp .eq 8, 9, 0, 0, []),
  (10, .iload_n 0, 0, 0, 0, []),
  (11, .iconst 4, 4, 0, 0, []),
  (12, .if_icmp .ne 7, 11, 0, 0, []),
  (15, .iconst 1, 1, 0, 0, []),
  (16, .goto 4, 12, 0, 0, []),
  (19, .iconst 0, 0, 0, 0, []),
  (20, .ireturn, 0, 1, 0, [])]
def cd_G_call : List gx_T := [(0, .aload_n 0, 0, 0, 0, []),
  (1, .iload_n 1, 1, 0, 0, []),
  (2, .invokevirtual 52, 31, 2, 2, [152]),
  (5, .astore 6, 6, 0, 0, []),
  (7, .aload 6, 6, 0, 0, []),
  (9, .ifnull 14, 11, 0, 0, []),
  (12, .iload_n 2, 2, 0, 0, []),
  (13, .ifCond .lt 10, 11, 0, 0, []),
  (16, .iload_n 3, 3, 0, 0, []),
  (17, .invokestatic 89, 51, 1, 0, [215]),
  (20, .ifCond .ne 5, 13, 0, 0, []),
  (23, .iconst (-1), 1, 1, 0, []),
  (24, .ireturn, 0, 0, 0, []),
  (25, .iload_n 2, 2, 0, 0, []),
  (26, .ifCond .le 14, 21, 0, 0, []),
  (29, .aload_n 0, 0, 0, 0, []),
  (30, .getfield 23, 2, 6, 0, [126]),
  (33, .iconst (-1), 1, 1, 0, []),
  (34, .if_icmp .ne 6, 21, 0, 0, []),
  (37, .bipush (-16), 16, 1, 0, []),
  (39, .ireturn, 0, 0, 0, []),
  (40, .iload_n 2, 2, 0, 0, []),
  (41, .aload_n 0, 0, 0, 0, []),
  (42, .invokevirtual 92, 69, 1, 2, [218]),
  (45, .if_icmp .le 6, 27, 0, 0, []),
  (48, .bipush (-12), 12, 1, 0, []),
  (50, .ireturn, 0, 0, 0, []),
  (51, .aload 6, 6, 0, 0, []),
  (53, .invokevirtual 95, 5, 1, 0, [246]),
  (56, .ifCond .eq 14, 37, 0, 0, []),
  (59, .aload_n 0, 0, 0, 0, []),
  (60, .aload 6, 6, 0, 0, []),
  (62, .iload_n 2, 2, 0, 0, []),
  (63, .iload_n 3, 3, 0, 0, []),
  (64, .iload 4, 4, 0, 0, []),
  (66, .invokevirtual 99, 34, 5, 2, [250]),
  (69, .ireturn, 0, 0, 0, []),
  (70, .aload 6, 6, 0, 0, []),
  (72, .invokevirtual 103, 6, 1, 0, [309]),
  (75, .ifCond .ne 6, 42, 0, 0, []),
  (78, .bipush (-11), 11, 1, 0, []),
  (80, .ireturn, 0, 0, 0, []),
  (81, .aload_n 0, 0, 0, 0, []),
  (82, .getfield 37, 2, 0, 1, [120]),
  (85, .invokevirtual 106, 16, 1, 1, [222]),
  (88, .iconst 4, 4, 0, 0, []),
  (89, .iload_n 2, 2, 0, 0, []),
  (90, .imul, 0, 0, 0, []),
  (91, .isub, 0, 0, 0, []),
  (92, .bipush 16, 16, 0, 0, []),
  (94, .iadd, 0, 0, 0, []),
  (95, .istore 7, 7, 0, 0, []),
  (97, .aload_n 0, 0, 0, 0, []),
  (98, .getfield 37, 2, 0, 1, [120]),
  (101, .iload 7, 7, 0, 0, []),
  (103, .aload 6, 6, 0, 0, []),
  (105, .iload_n 2, 2, 0, 0, []),
  (106, .invokevirtual 109, 12, 2, 0, [313]),
  (109, .iadd, 0, 0, 0, []),
  (110, .invokevirtual 112, 17, 2, 1, [272]),
  (113, .ifCond .ne 6, 63, 0, 0, []),
  (116, .bipush (-15), 15, 1, 0, []),
  (118, .ireturn, 0, 0, 0, []),
  (119, .aload_n 0, 0, 0, 0, []),
  (120, .iload_n 2, 2, 0, 0, []),
  (121, .invokevirtual 115, 71, 2, 2, [322]),
  (124, .aload_n 0, 0, 0, 0, []),
  (125, .iload_n 3, 3, 0, 0, []),
  (126, .iload 4, 4, 0, 0, []),
  (128, .iload 5, 5, 0, 0, []),
  (130, .invokevirtual 118, 40, 4, 2, [326]),
  (133, .aload_n 0, 0, 0, 0, []),
  (134, .aload 6, 6, 0, 0, []),
  (136, .iload_n 2, 2, 0, 0, []),
  (137, .invokevirtual 122, 43, 3, 2, [330]),
  (140, .aload_n 0, 0, 0, 0, []),
  (141, .getfield 23, 2, 6, 0, [126]),
  (144, .ireturn, 0, 0, 0, [])]
def cd_G_callAccelerated : List gx_T := [(0, .aload_n 0, 0, 0, 0, []),
  (1, .iload_n 3, 3, 0, 0, []),
  (2, .iload 4, 4, 0, 0, []),
  (4, .aload_n 0, 0, 0, 0, []),
  (5, .getfield 23, 2, 6, 0, [126]),
  (8, .invokevirtual 126, 52, 4, 2, [254]),
  (11, .ifCond .ne 6, 9, 0, 0, []),
  (14, .bipush (-13), 13, 1, 0, []),
  (16, .ireturn, 0, 0, 0, []),
  (17, .aload_n 0, 0, 0, 0, []),
  (18, .getfield 37, 2, 0, 1, [120]),
  (21, .invokevirtual 106, 16, 1, 1, [222]),
  (24, .iconst 4, 4, 0, 0, []),
  (25, .iload_n 2, 2, 0, 0, []),
  (26, .imul, 0, 0, 0, []),
  (27, .isub, 0, 0, 0, []),
  (28, .istore 5, 5, 0, 0, []),
  (30, .iload_n 3, 3, 0, 0, []),
  (31, .iconst 3, 3, 0, 0, []),
  (32, .if_icmp .ne 20, 29, 0, 0, []),
  (35, .aload_n 0, 0, 0, 0, []),
  (36, .getfield 37, 2, 0, 1, [120]),
  (39, .iload 5, 5, 0, 0, []),
  (41, .iconst 4, 4, 0, 0, []),
  (42, .iadd, 0, 0, 0, []),
  (43, .invokevirtual 112, 17, 2, 1, [272]),
  (46, .ifCond .ne 6, 29, 0, 0, []),
  (49, .bipush (-15), 15, 1, 0, []),
  (51, .ireturn, 0, 0, 0, []),
  (52, .aload_n 0, 0, 0, 0, []),
  (53, .aload_n 1, 1, 0, 0, []),
  (54, .getfield 67, 0, 1, 0, [100]),
  (57, .iload_n 2, 2, 0, 0, []),
  (58, .invokevirtual 130, 39, 3, 2, [276]),
  (61, .istore 6, 6, 0, 0, []),
  (63, .aload_n 0, 0, 0, 0, []),
  (64, .getfield 37, 2, 0, 1, [120]),
  (67, .iload 5, 5, 0, 0, []),
  (69, .invokevirtual 133, 22, 2, 1, [284]),
  (72, .aload_n 0, 0, 0, 0, []),
  (73, .iload 6, 6, 0, 0, []),
  (75, .iload_n 3, 3, 0, 0, []),
  (76, .iload 4, 4, 0, 0, []),
  (78, .invokevirtual 136, 53, 4, 2, [288]),
  (81, .iconst 1, 1, 0, 0, []),
  (82, .ireturn, 0, 0, 0, [])]
def cd_G_tail : List gx_T := [(0, .aload_n 0, 0, 0, 0, []),
  (1, .iload_n 1, 1, 0, 0, []),
  (2, .invokevirtual 52, 31, 2, 2, [152]),
  (5, .astore_n 3, 3, 0, 0, []),
  (6, .aload_n 3, 3, 0, 0, []),
  (7, .ifnull 7, 8, 0, 0, []),
  (10, .iload_n 2, 2, 0, 0, []),
  (11, .ifCond .ge 5, 10, 0, 0, []),
  (14, .iconst (-1), 1, 1, 0, []),
  (15, .ireturn, 0, 0, 0, []),
  (16, .aload_n 0, 0, 0, 0, []),
  (17, .getfield 23, 2, 6, 0, [126]),
  (20, .iconst (-1), 1, 1, 0, []),
  (21, .if_icmp .ne 6, 16, 0, 0, []),
  (24, .bipush (-16), 16, 1, 0, []),
  (26, .ireturn, 0, 0, 0, []),
  (27, .iload_n 2, 2, 0, 0, []),
  (28, .aload_n 0, 0, 0, 0, []),
  (29, .invokevirtual 92, 69, 1, 2, [218]),
  (32, .if_icmp .le 6, 22, 0, 0, []),
  (35, .bipush (-12), 12, 1, 0, []),
  (37, .ireturn, 0, 0, 0, []),
  (38, .aload_n 3, 3, 0, 0, []),
  (39, .invokevirtual 95, 5, 1, 0, [246]),
  (42, .ifCond .eq 21, 35, 0, 0, []),
  (45, .aload_n 0, 0, 0, 0, []),
  (46, .aload_n 0, 0, 0, 0, []),
  (47, .getfield 23, 2, 6, 0, [126]),
  (50, .aload_n 0, 0, 0, 0, []),
  (51, .aload_n 3, 3, 0, 0, []),
  (52, .getfield 67, 0, 1, 0, [100]),
  (55, .iload_n 2, 2, 0, 0, []),
  (56, .invokevirtual 130, 39, 3, 2, [276]),
  (59, .invokevirtual 139, 41, 3, 2, [354]),
  (62, .ireturn, 0, 0, 0, []),
  (63, .aload_n 3, 3, 0, 0, []),
  (64, .invokevirtual 103, 6, 1, 0, [309]),
  (67, .ifCond .ne 6, 40, 0, 0, []),
  (70, .bipush (-11), 11, 1, 0, []),
  (72, .ireturn, 0, 0, 0, []),
  (73, .aload_n 0, 0, 0, 0, []),
  (74, .getfield 37, 2, 0, 1, [120]),
  (77, .aload_n 0, 0, 0, 0, []),
  (78, .getfield 23, 2, 6, 0, [126]),
  (81, .aload_n 3, 3, 0, 0, []),
  (82, .iload_n 2, 2, 0, 0, []),
  (83, .invokevirtual 109, 12, 2, 0, [313]),
  (86, .iadd, 0, 0, 0, []),
  (87, .invokevirtual 112, 17, 2, 1, [272]),
  (90, .ifCond .ne 6, 52, 0, 0, []),
  (93, .bipush (-15), 15, 1, 0, []),
  (95, .ireturn, 0, 0, 0, []),
  (96, .aload_n 0, 0, 0, 0, []),
  (97, .iload_n 2, 2, 0, 0, []),
  (98, .invokevirtual 115, 71, 2, 2, [322]),
  (101, .aload_n 0, 0, 0, 0, []),
  (102, .aload_n 0, 0, 0, 0, []),
  (103, .getfield 23, 2, 6, 0, [126]),
  (106, .invokevirtual 142, 58, 2, 2, [362]),
  (109, .aload_n 0, 0, 0, 0, []),
  (110, .getfield 37, 2, 0, 1, [120]),
  (113, .aload_n 0, 0, 0, 0, []),
  (114, .getfield 23, 2, 6, 0, [126]),
  (117, .invokevirtual 133, 22, 2, 1, [284]),
  (120, .aload_n 0, 0, 0, 0, []),
  (121, .aload_n 3, 3, 0, 0, []),
  (122, .iload_n 2, 2, 0, 0, []),
  (123, .invokevirtual 122, 43, 3, 2, [330]),
  (126, .aload_n 0, 0, 0, 0, []),
  (127, .getfield 23, 2, 6, 0, [126]),
  (130, .ireturn, 0, 0, 0, [])]
def cd_G_leave : List gx_T := [(0, .aload_n 0, 0, 0, 0, []),
  (1, .getfield 23, 2, 6, 0, [126]),
  (4, .iconst (-1), 1, 1, 0, []),
  (5, .if_icmp .ne 8, 6, 0, 0, []),
  (8, .bipush (-16), 16, 1, 0, []),
  (10, .goto 12, 11, 0, 0, []),
  (13, .aload_n 0, 0, 0, 0, []),
  (14, .aload_n 0, 0, 0, 0, []),
  (15, .getfield 23, 2, 6, 0, [126]),
  (18, .iload_n 1, 1, 0, 0, []),
  (19, .invokevirtual 139, 41, 3, 2, [354]),
  (22, .ireturn, 0, 0, 0, [])]
def cd_G_caught : List gx_T := [(0, .iload_n 1, 1, 0, 0, []),
  (1, .invokestatic 89, 51, 1, 0, [215]),
  (4, .ifCond .ne 5, 5, 0, 0, []),
  (7, .iconst (-1), 1, 1, 0, []),
  (8, .ireturn, 0, 0, 0, []),
  (9, .aload_n 0, 0, 0, 0, []),
  (10, .getfield 23, 2, 6, 0, [126]),
  (13, .iconst (-1), 1, 1, 0, []),
  (14, .if_icmp .ne 6, 11, 0, 0, []),
  (17, .bipush (-16), 16, 1, 0, []),
  (19, .ireturn, 0, 0, 0, []),
  (20, .aload_n 0, 0, 0, 0, []),
  (21, .iload_n 1, 1, 0, 0, []),
  (22, .iload_n 2, 2, 0, 0, []),
  (23, .aload_n 0, 0, 0, 0, []),
  (24, .getfield 23, 2, 6, 0, [126]),
  (27, .invokevirtual 126, 52, 4, 2, [254]),
  (30, .ifCond .ne 6, 20, 0, 0, []),
  (33, .bipush (-13), 13, 1, 0, []),
  (35, .ireturn, 0, 0, 0, []),
  (36, .aload_n 0, 0, 0, 0, []),
  (37, .getfield 37, 2, 0, 1, [120]),
  (40, .invokevirtual 106, 16, 1, 1, [222]),
  (43, .bipush 16, 16, 0, 0, []),
  (45, .iadd, 0, 0, 0, []),
  (46, .istore 4, 4, 0, 0, []),
  (48, .aload_n 0, 0, 0, 0, []),
  (49, .getfield 37, 2, 0, 1, [120]),
  (52, .iload_n 1, 1, 0, 0, []),
  (53, .iconst 3, 3, 0, 0, []),
  (54, .if_icmp .ne 10, 35, 0, 0, []),
  (57, .iload 4, 4, 0, 0, []),
  (59, .iconst 4, 4, 0, 0, []),
  (60, .iadd, 0, 0, 0, []),
  (61, .goto 5, 36, 0, 0, []),
  (64, .iload 4, 4, 0, 0, []),
  (66, .invokevirtual 112, 17, 2, 1, [272]),
  (69, .ifCond .ne 6, 40, 0, 0, []),
  (72, .bipush (-15), 15, 1, 0, []),
  (74, .ireturn, 0, 0, 0, []),
  (75, .aload_n 0, 0, 0, 0, []),
  (76, .iload_n 1, 1, 0, 0, []),
  (77, .iload_n 2, 2, 0, 0, []),
  (78, .iload_n 3, 3, 0, 0, []),
  (79, .invokevirtual 118, 40, 4, 2, [326]),
  (82, .aload_n 0, 0, 0, 0, []),
  (83, .iload 4, 4, 0, 0, []),
  (85, .invokevirtual 145, 55, 2, 2, [374]),
  (88, .aload_n 0, 0, 0, 0, []),
  (89, .iload 4, 4, 0, 0, []),
  (91, .iload_n 1, 1, 0, 0, []),
  (92, .iload_n 2, 2, 0, 0, []),
  (93, .invokevirtual 136, 53, 4, 2, [288]),
  (96, .iload 4, 4, 0, 0, []),
  (98, .ireturn, 0, 0, 0, [])]
def cd_G_thrown : List gx_T := [(0, .aload_n 0, 0, 0, 0, []),
  (1, .iload_n 1, 1, 0, 0, []),
  (2, .invokevirtual 148, 57, 2, 2, [382]),
  (5, .ifCond .eq 12, 9, 0, 0, []),
  (8, .aload_n 0, 0, 0, 0, []),
  (9, .iload_n 1, 1, 0, 0, []),
  (10, .iload_n 2, 2, 0, 0, []),
  (11, .invokevirtual 139, 41, 3, 2, [354]),
  (14, .goto 5, 10, 0, 0, []),
  (17, .bipush (-14), 14, 1, 0, []),
  (19, .ireturn, 0, 0, 0, [])]
def cd_G_givenBy : List gx_T := [(0, .iconst 0, 0, 0, 0, []),
  (1, .istore_n 3, 3, 0, 0, []),
  (2, .iconst 0, 0, 0, 0, []),
  (3, .istore 4, 4, 0, 0, []),
  (5, .iload 4, 4, 0, 0, []),
  (7, .iload_n 2, 2, 0, 0, []),
  (8, .if_icmp .ge 85, 37, 0, 0, []),
  (11, .aload_n 0, 0, 0, 0, []),
  (12, .iload 4, 4, 0, 0, []),
  (14, .invokevirtual 151, 70, 2, 2, [280]),
  (17, .istore 5, 5, 0, 0, []),
  (19, .iload_n 1, 1, 0, 0, []),
  (20, .lookupswitch 54 #[(1, 28), (2, 36)], 27, 1, 28, [13, 18]),
  (48, .iload_n 3, 3, 0, 0, []),
  (49, .iload 5, 5, 0, 0, []),
  (51, .iadd, 0, 0, 0, []),
  (52, .istore_n 3, 3, 0, 0, []),
  (53, .goto 34, 35, 0, 0, []),
  (56, .iload 4, 4, 0, 0, []),
  (58, .ifCond .ne 8, 22, 0, 0, []),
  (61, .iload 5, 5, 0, 0, []),
  (63, .goto 7, 25, 0, 0, []),
  (66, .iload_n 3, 3, 0, 0, []),
  (67, .iload 5, 5, 0, 0, []),
  (69, .isub, 0, 0, 0, []),
  (70, .istore_n 3, 3, 0, 0, []),
  (71, .goto 16, 35, 0, 0, []),
  (74, .iload_n 3, 3, 0, 0, []),
  (75, .iload 5, 5, 0, 0, []),
  (77, .ifCond .le 7, 32, 0, 0, []),
  (80, .iconst 1, 1, 0, 0, []),
  (81, .goto 4, 33, 0, 0, []),
  (84, .iconst 0, 0, 0, 0, []),
  (85, .iadd, 0, 0, 0, []),
  (86, .istore_n 3, 3, 0, 0, []),
  (87, .iinc 4 1, 4, 1, 0, []),
  (90, .goto (-85), 4, 0, 0, []),
  (93, .iload_n 3, 3, 0, 0, []),
  (94, .ireturn, 0, 0, 0, [])]
def cd_G_pushStub : List gx_T := [(0, .aload_n 0, 0, 0, 0, []),
  (1, .getfield 37, 2, 0, 1, [120]),
  (4, .iload_n 1, 1, 0, 0, []),
  (5, .invokevirtual 154, 20, 2, 1, [300]),
  (8, .aload_n 0, 0, 0, 0, []),
  (9, .getfield 37, 2, 0, 1, [120]),
  (12, .iload_n 2, 2, 0, 0, []),
  (13, .invokevirtual 154, 20, 2, 1, [300]),
  (16, .aload_n 0, 0, 0, 0, []),
  (17, .getfield 37, 2, 0, 1, [120]),
  (20, .iload_n 3, 3, 0, 0, []),
  (21, .invokevirtual 154, 20, 2, 1, [300]),
  (24, .aload_n 0, 0, 0, 0, []),
  (25, .getfield 37, 2, 0, 1, [120]),
  (28, .aload_n 0, 0, 0, 0, []),
  (29, .getfield 23, 2, 6, 0, [126]),
  (32, .invokevirtual 154, 20, 2, 1, [300]),
  (35, .return_, 0, 0, 0, [])]
def cd_G_goBack : List gx_T := [(0, .iload_n 1, 1, 0, 0, []),
  (1, .bipush 16, 16, 0, 0, []),
  (3, .isub, 0, 0, 0, []),
  (4, .istore_n 3, 3, 0, 0, []),
  (5, .aload_n 0, 0, 0, 0, []),
  (6, .getfield 37, 2, 0, 1, [120]),
  (9, .iload_n 3, 3, 0, 0, []),
  (10, .iconst 4, 4, 0, 0, []),
  (11, .invokevirtual 157, 18, 3, 1, [238]),
  (14, .istore 4, 4, 0, 0, []),
  (16, .aload_n 0, 0, 0, 0, []),
  (17, .getfield 37, 2, 0, 1, [120]),
  (20, .iload_n 3, 3, 0, 0, []),
  (21, .iconst 4, 4, 0, 0, []),
  (22, .iadd, 0, 0, 0, []),
  (23, .iconst 4, 4, 0, 0, []),
  (24, .invokevirtual 157, 18, 3, 1, [238]),
  (27, .istore 5, 5, 0, 0, []),
  (29, .aload_n 0, 0, 0, 0, []),
  (30, .iload_n 1, 1, 0, 0, []),
  (31, .invokevirtual 160, 42, 2, 2, [358]),
  (34, .istore 6, 6, 0, 0, []),
  (36, .aload_n 0, 0, 0, 0, []),
  (37, .iload 4, 4, 0, 0, []),
  (39, .iload 5, 5, 0, 0, []),
  (41, .iload 6, 6, 0, 0, []),
  (43, .invokevirtual 126, 52, 4, 2, [254]),
  (46, .ifCond .ne 6, 30, 0, 0, []),
  (49, .bipush (-13), 13, 1, 0, []),
  (51, .ireturn, 0, 0, 0, []),
  (52, .aload_n 0, 0, 0, 0, []),
  (53, .aload_n 0, 0, 0, 0, []),
  (54, .getfield 37, 2, 0, 1, [120]),
  (57, .iload_n 3, 3, 0, 0, []),
  (58, .bipush 8, 8, 0, 0, []),
  (60, .iadd, 0, 0, 0, []),
  (61, .iconst 4, 4, 0, 0, []),
  (62, .invokevirtual 157, 18, 3, 1, [238]),
  (65, .putfield 26, 2, 7, 0, [127]),
  (68, .aload_n 0, 0, 0, 0, []),
  (69, .iload 6, 6, 0, 0, []),
  (71, .putfield 23, 2, 6, 0, [126]),
  (74, .aload_n 0, 0, 0, 0, []),
  (75, .iload_n 1, 1, 0, 0, []),
  (76, .invokevirtual 142, 58, 2, 2, [362]),
  (79, .aload_n 0, 0, 0, 0, []),
  (80, .getfield 37, 2, 0, 1, [120]),
  (83, .iload_n 3, 3, 0, 0, []),
  (84, .invokevirtual 133, 22, 2, 1, [284]),
  (87, .aload_n 0, 0, 0, 0, []),
  (88, .iload_n 2, 2, 0, 0, []),
  (89, .iload 4, 4, 0, 0, []),
  (91, .iload 5, 5, 0, 0, []),
  (93, .invokevirtual 136, 53, 4, 2, [288]),
  (96, .aload_n 0, 0, 0, 0, []),
  (97, .getfield 23, 2, 6, 0, [126]),
  (100, .ireturn, 0, 0, 0, [])]
def cd_G_frameBelow : List gx_T := [(0, .aload_n 0, 0, 0, 0, []),
  (1, .getfield 37, 2, 0, 1, [120]),
  (4, .iload_n 1, 1, 0, 0, []),
  (5, .iconst 4, 4, 0, 0, []),
  (6, .isub, 0, 0, 0, []),
  (7, .iconst 4, 4, 0, 0, []),
  (8, .invokevirtual 157, 18, 3, 1, [238]),
  (11, .ireturn, 0, 0, 0, [])]
def cd_G_pushFrame : List gx_T := [(0, .aload_n 0, 0, 0, 0, []),
  (1, .aload_n 0, 0, 0, 0, []),
  (2, .getfield 37, 2, 0, 1, [120]),
  (5, .invokevirtual 106, 16, 1, 1, [222]),
  (8, .putfield 23, 2, 6, 0, [126]),
  (11, .aload_n 0, 0, 0, 0, []),
  (12, .getfield 37, 2, 0, 1, [120]),
  (15, .aload_n 1, 1, 0, 0, []),
  (16, .invokevirtual 79, 11, 1, 0, [187]),
  (19, .invokevirtual 163, 21, 2, 1, [334]),
  (22, .aload_n 0, 0, 0, 0, []),
  (23, .getfield 37, 2, 0, 1, [120]),
  (26, .aload_n 0, 0, 0, 0, []),
  (27, .getfield 23, 2, 6, 0, [126]),
  (30, .iconst 4, 4, 0, 0, []),
  (31, .aload_n 1, 1, 0, 0, []),
  (32, .invokevirtual 79, 11, 1, 0, [187]),
  (35, .invokevirtual 166, 19, 4, 1, [292]),
  (38, .aload_n 0, 0, 0, 0, []),
  (39, .getfield 37, 2, 0, 1, [120]),
  (42, .aload_n 0, 0, 0, 0, []),
  (43, .getfield 23, 2, 6, 0, [126]),
  (46, .iconst 4, 4, 0, 0, []),
  (47, .iadd, 0, 0, 0, []),
  (48, .iconst 4, 4, 0, 0, []),
  (49, .aload_n 1, 1, 0, 0, []),
  (50, .invokevirtual 82, 9, 1, 0, [202]),
  (53, .invokevirtual 166, 19, 4, 1, [292]),
  (56, .iconst 0, 0, 0, 0, []),
  (57, .istore_n 3, 3, 0, 0, []),
  (58, .iload_n 3, 3, 0, 0, []),
  (59, .aload_n 1, 1, 0, 0, []),
  (60, .getfield 73, 0, 2, 0, [102]),
  (63, .if_icmp .ge 59, 68, 0, 0, []),
  (66, .aload_n 0, 0, 0, 0, []),
  (67, .getfield 37, 2, 0, 1, [120]),
  (70, .aload_n 0, 0, 0, 0, []),
  (71, .getfield 23, 2, 6, 0, [126]),
  (74, .bipush 8, 8, 0, 0, []),
  (76, .iadd, 0, 0, 0, []),
  (77, .iconst 2, 2, 0, 0, []),
  (78, .iload_n 3, 3, 0, 0, []),
  (79, .imul, 0, 0, 0, []),
  (80, .iadd, 0, 0, 0, []),
  (81, .iconst 1, 1, 0, 0, []),
  (82, .aload_n 1, 1, 0, 0, []),
  (83, .iload_n 3, 3, 0, 0, []),
  (84, .invokevirtual 169, 3, 2, 0, [335]),
  (87, .invokevirtual 166, 19, 4, 1, [292]),
  (90, .aload_n 0, 0, 0, 0, []),
  (91, .getfield 37, 2, 0, 1, [120]),
  (94, .aload_n 0, 0, 0, 0, []),
  (95, .getfield 23, 2, 6, 0, [126]),
  (98, .bipush 8, 8, 0, 0, []),
  (100, .iadd, 0, 0, 0, []),
  (101, .iconst 2, 2, 0, 0, []),
  (102, .iload_n 3, 3, 0, 0, []),
  (103, .imul, 0, 0, 0, []),
  (104, .iadd, 0, 0, 0, []),
  (105, .iconst 1, 1, 0, 0, []),
  (106, .iadd, 0, 0, 0, []),
  (107, .iconst 1, 1, 0, 0, []),
  (108, .aload_n 1, 1, 0, 0, []),
  (109, .iload_n 3, 3, 0, 0, []),
  (110, .invokevirtual 172, 4, 2, 0, [336]),
  (113, .invokevirtual 166, 19, 4, 1, [292]),
  (116, .iinc 3 1, 3, 1, 0, []),
  (119, .goto (-61), 30, 0, 0, []),
  (122, .aload_n 1, 1, 0, 0, []),
  (123, .invokevirtual 175, 7, 1, 0, [337]),
  (126, .ifCond .eq 11, 75, 0, 0, []),
  (129, .aload_n 0, 0, 0, 0, []),
  (130, .iload_n 2, 2, 0, 0, []),
  (131, .invokevirtual 178, 44, 2, 2, [338]),
  (134, .goto 9, 79, 0, 0, []),
  (137, .aload_n 0, 0, 0, 0, []),
  (138, .aload_n 1, 1, 0, 0, []),
  (139, .iload_n 2, 2, 0, 0, []),
  (140, .invokevirtual 181, 45, 3, 2, [346]),
  (143, .return_, 0, 0, 0, [])]
def cd_G_pushArguments : List gx_T := [(0, .iload_n 1, 1, 0, 0, []),
  (1, .iconst 1, 1, 0, 0, []),
  (2, .isub, 0, 0, 0, []),
  (3, .istore_n 2, 2, 0, 0, []),
  (4, .iload_n 2, 2, 0, 0, []),
  (5, .ifCond .lt 21, 14, 0, 0, []),
  (8, .aload_n 0, 0, 0, 0, []),
  (9, .getfield 37, 2, 0, 1, [120]),
  (12, .aload_n 0, 0, 0, 0, []),
  (13, .iload_n 2, 2, 0, 0, []),
  (14, .invokevirtual 184, 72, 2, 2, [342]),
  (17, .invokevirtual 154, 20, 2, 1, [300]),
  (20, .iinc 2 (-1), 2, 1, 1, []),
  (23, .goto (-19), 4, 0, 0, []),
  (26, .aload_n 0, 0, 0, 0, []),
  (27, .getfield 37, 2, 0, 1, [120]),
  (30, .iload_n 1, 1, 0, 0, []),
  (31, .invokevirtual 154, 20, 2, 1, [300]),
  (34, .return_, 0, 0, 0, [])]
def cd_G_setLocals : List gx_T := [(0, .iconst 0, 0, 0, 0, []),
  (1, .istore_n 3, 3, 0, 0, []),
  (2, .iconst 0, 0, 0, 0, []),
  (3, .istore 4, 4, 0, 0, []),
  (5, .iload 4, 4, 0, 0, []),
  (7, .aload_n 1, 1, 0, 0, []),
  (8, .getfield 73, 0, 2, 0, [102]),
  (11, .if_icmp .ge 73, 42, 0, 0, []),
  (14, .iconst 0, 0, 0, 0, []),
  (15, .istore 5, 5, 0, 0, []),
  (17, .iload 5, 5, 0, 0, []),
  (19, .aload_n 1, 1, 0, 0, []),
  (20, .iload 4, 4, 0, 0, []),
  (22, .invokevirtual 172, 4, 2, 0, [336]),
  (25, .if_icmp .ge 53, 40, 0, 0, []),
  (28, .iload_n 3, 3, 0, 0, []),
  (29, .iload_n 2, 2, 0, 0, []),
  (30, .if_icmp .ge 48, 40, 0, 0, []),
  (33, .aload_n 0, 0, 0, 0, []),
  (34, .aload_n 0, 0, 0, 0, []),
  (35, .getfield 23, 2, 6, 0, [126]),
  (38, .invokevirtual 187, 48, 2, 2, [268]),
  (41, .aload_n 1, 1, 0, 0, []),
  (42, .iload_n 3, 3, 0, 0, []),
  (43, .invokevirtual 85, 10, 2, 0, [207]),
  (46, .iadd, 0, 0, 0, []),
  (47, .istore 6, 6, 0, 0, []),
  (49, .aload_n 0, 0, 0, 0, []),
  (50, .getfield 37, 2, 0, 1, [120]),
  (53, .iload 6, 6, 0, 0, []),
  (55, .aload_n 1, 1, 0, 0, []),
  (56, .iload 4, 4, 0, 0, []),
  (58, .invokevirtual 169, 3, 2, 0, [335]),
  (61, .aload_n 0, 0, 0, 0, []),
  (62, .iload_n 3, 3, 0, 0, []),
  (63, .invokevirtual 184, 72, 2, 2, [342]),
  (66, .invokevirtual 166, 19, 4, 1, [292]),
  (69, .iinc 3 1, 3, 1, 0, []),
  (72, .iinc 5 1, 5, 1, 0, []),
  (75, .goto (-58), 10, 0, 0, []),
  (78, .iinc 4 1, 4, 1, 0, []),
  (81, .goto (-76), 4, 0, 0, []),
  (84, .return_, 0, 0, 0, [])]
def cd_G_isFrame : List gx_T := [(0, .iload_n 0, 0, 0, 0, []),
  (1, .iconst (-1), 1, 1, 0, []),
  (2, .if_icmp .eq 7, 5, 0, 0, []),
  (5, .iconst 1, 1, 0, 0, []),
  (6, .goto 4, 6, 0, 0, []),
  (9, .iconst 0, 0, 0, 0, []),
  (10, .ireturn, 0, 1, 0, [])]
def cd_G_valuesAt : List gx_T := [(0, .iload_n 1, 1, 0, 0, []),
  (1, .aload_n 0, 0, 0, 0, []),
  (2, .getfield 37, 2, 0, 1, [120]),
  (5, .iload_n 1, 1, 0, 0, []),
  (6, .iconst 4, 4, 0, 0, []),
  (7, .invokevirtual 157, 18, 3, 1, [238]),
  (10, .iadd, 0, 0, 0, []),
  (11, .ireturn, 0, 0, 0, [])]
def cd_G_localsAt : List gx_T := [(0, .iload_n 1, 1, 0, 0, []),
  (1, .aload_n 0, 0, 0, 0, []),
  (2, .getfield 37, 2, 0, 1, [120]),
  (5, .iload_n 1, 1, 0, 0, []),
  (6, .iconst 4, 4, 0, 0, []),
  (7, .iadd, 0, 0, 0, []),
  (8, .iconst 4, 4, 0, 0, []),
  (9, .invokevirtual 157, 18, 3, 1, [238]),
  (12, .iadd, 0, 0, 0, []),
  (13, .ireturn, 0, 0, 0, [])]
def cd_G_isInLocals : List gx_T := [(0, .iload_n 2, 2, 0, 0, []),
  (1, .ifCond .lt 24, 15, 0, 0, []),
  (4, .iload_n 2, 2, 0, 0, []),
  (5, .aload_n 0, 0, 0, 0, []),
  (6, .iload_n 1, 1, 0, 0, []),
  (7, .invokevirtual 190, 47, 2, 2, [234]),
  (10, .aload_n 0, 0, 0, 0, []),
  (11, .iload_n 1, 1, 0, 0, []),
  (12, .invokevirtual 187, 48, 2, 2, [268]),
  (15, .isub, 0, 0, 0, []),
  (16, .iload_n 3, 3, 0, 0, []),
  (17, .isub, 0, 0, 0, []),
  (18, .if_icmp .gt 7, 15, 0, 0, []),
  (21, .iconst 1, 1, 0, 0, []),
  (22, .goto 4, 16, 0, 0, []),
  (25, .iconst 0, 0, 0, 0, []),
  (26, .ireturn, 0, 1, 0, [])]
def cd_G_frameCount : List gx_T := [(0, .iconst 0, 0, 0, 0, []),
  (1, .istore_n 1, 1, 0, 0, []),
  (2, .aload_n 0, 0, 0, 0, []),
  (3, .getfield 23, 2, 6, 0, [126]),
  (6, .istore_n 2, 2, 0, 0, []),
  (7, .iload_n 2, 2, 0, 0, []),
  (8, .invokestatic 193, 46, 1, 0, [261]),
  (11, .ifCond .eq 26, 19, 0, 0, []),
  (14, .iload_n 1, 1, 0, 0, []),
  (15, .aload_n 0, 0, 0, 0, []),
  (16, .getfield 37, 2, 0, 1, [120]),
  (19, .invokevirtual 42, 15, 1, 1, [116]),
  (22, .if_icmp .ge 15, 19, 0, 0, []),
  (25, .iinc 1 1, 1, 1, 0, []),
  (28, .aload_n 0, 0, 0, 0, []),
  (29, .iload_n 2, 2, 0, 0, []),
  (30, .invokevirtual 160, 42, 2, 2, [358]),
  (33, .istore_n 2, 2, 0, 0, []),
  (34, .goto (-27), 5, 0, 0, []),
  (37, .iload_n 1, 1, 0, 0, []),
  (38, .ireturn, 0, 0, 0, [])]
def cd_G_isWay : List gx_T := [(0, .iload_n 0, 0, 0, 0, []),
  (1, .ifCond .lt 12, 7, 0, 0, []),
  (4, .iload_n 0, 0, 0, 0, []),
  (5, .iconst 3, 3, 0, 0, []),
  (6, .if_icmp .gt 7, 7, 0, 0, []),
  (9, .iconst 1, 1, 0, 0, []),
  (10, .goto 4, 8, 0, 0, []),
  (13, .iconst 0, 0, 0, 0, []),
  (14, .ireturn, 0, 1, 0, [])]
def cd_G_canGo : List gx_T := [(0, .iload_n 1, 1, 0, 0, []),
  (1, .tableswitch 66 0 3 #[31, 33, 38, 61], 23, 0, 31, [2, 4, 7, 20]),
  (32, .iconst 1, 1, 0, 0, []),
  (33, .ireturn, 0, 1, 0, []),
  (34, .iload_n 2, 2, 0, 0, []),
  (35, .invokestatic 196, 54, 1, 0, [258]),
  (38, .ireturn, 0, 1, 0, []),
  (39, .iload_n 3, 3, 0, 0, []),
  (40, .invokestatic 193, 46, 1, 0, [261]),
  (43, .ifCond .eq 17, 18, 0, 0, []),
  (46, .aload_n 0, 0, 0, 0, []),
  (47, .iload_n 3, 3, 0, 0, []),
  (48, .iload_n 2, 2, 0, 0, []),
  (49, .iconst 4, 4, 0, 0, []),
  (50, .invokevirtual 199, 49, 4, 2, [264]),
  (53, .ifCond .eq 7, 18, 0, 0, []),
  (56, .iconst 1, 1, 0, 0, []),
  (57, .goto 4, 19, 0, 0, []),
  (60, .iconst 0, 0, 0, 0, []),
  (61, .ireturn, 0, 1, 0, []),
  (62, .iload_n 3, 3, 0, 0, []),
  (63, .invokestatic 193, 46, 1, 0, [261]),
  (66, .ireturn, 0, 1, 0, []),
  (67, .iconst 0, 0, 0, 0, []),
  (68, .ireturn, 0, 1, 0, [])]
def cd_G_send : List gx_T := [(0, .iload_n 2, 2, 0, 0, []),
  (1, .tableswitch 77 1 3 #[27, 44, 66], 28, 1, 27, [2, 11, 23]),
  (28, .iload_n 3, 3, 0, 0, []),
  (29, .invokestatic 196, 54, 1, 0, [258]),
  (32, .ifCond .eq 46, 28, 0, 0, []),
  (35, .aload_n 0, 0, 0, 0, []),
  (36, .getfield 15, 2, 2, 1, [122]),
  (39, .iload_n 3, 3, 0, 0, []),
  (40, .iload_n 1, 1, 0, 0, []),
  (41, .iastore, 0, 0, 0, []),
  (42, .goto 36, 28, 0, 0, []),
  (45, .aload_n 0, 0, 0, 0, []),
  (46, .getfield 37, 2, 0, 1, [120]),
  (49, .aload_n 0, 0, 0, 0, []),
  (50, .aload_n 0, 0, 0, 0, []),
  (51, .getfield 23, 2, 6, 0, [126]),
  (54, .invokevirtual 187, 48, 2, 2, [268]),
  (57, .iload_n 3, 3, 0, 0, []),
  (58, .iadd, 0, 0, 0, []),
  (59, .iconst 4, 4, 0, 0, []),
  (60, .iload_n 1, 1, 0, 0, []),
  (61, .invokevirtual 166, 19, 4, 1, [292]),
  (64, .goto 14, 28, 0, 0, []),
  (67, .aload_n 0, 0, 0, 0, []),
  (68, .getfield 37, 2, 0, 1, [120]),
  (71, .iload_n 1, 1, 0, 0, []),
  (72, .invokevirtual 154, 20, 2, 1, [300]),
  (75, .goto 3, 28, 0, 0, []),
  (78, .return_, 0, 0, 0, [])]
def cd_G_isCell : List gx_T := [(0, .iload_n 0, 0, 0, 0, []),
  (1, .ifCond .lt 13, 7, 0, 0, []),
  (4, .iload_n 0, 0, 0, 0, []),
  (5, .bipush 16, 16, 0, 0, []),
  (7, .if_icmp .ge 7, 7, 0, 0, []),
  (10, .iconst 1, 1, 0, 0, []),
  (11, .goto 4, 8, 0, 0, []),
  (14, .iconst 0, 0, 0, 0, []),
  (15, .ireturn, 0, 1, 0, [])]
def cd_G_addToken : List gx_T := [(0, .aload_n 0, 0, 0, 0, []),
  (1, .getfield 19, 2, 4, 0, [124]),
  (4, .ifCond .lt 35, 21, 0, 0, []),
  (7, .aload_n 0, 0, 0, 0, []),
  (8, .getfield 19, 2, 4, 0, [124]),
  (11, .aload_n 0, 0, 0, 0, []),
  (12, .getfield 46, 2, 3, 1, [123]),
  (15, .arraylength, 0, 0, 0, []),
  (16, .if_icmp .ge 23, 21, 0, 0, []),
  (19, .aload_n 0, 0, 0, 0, []),
  (20, .getfield 46, 2, 3, 1, [123]),
  (23, .aload_n 0, 0, 0, 0, []),
  (24, .getfield 19, 2, 4, 0, [124]),
  (27, .iload_n 1, 1, 0, 0, []),
  (28, .iastore, 0, 0, 0, []),
  (29, .aload_n 0, 0, 0, 0, []),
  (30, .dup, 0, 0, 0, []),
  (31, .getfield 19, 2, 4, 0, [124]),
  (34, .iconst 1, 1, 0, 0, []),
  (35, .iadd, 0, 0, 0, []),
  (36, .putfield 19, 2, 4, 0, [124]),
  (39, .return_, 0, 0, 0, [])]
def cd_G_latestToken : List gx_T := [(0, .aload_n 0, 0, 0, 0, []),
  (1, .getfield 19, 2, 4, 0, [124]),
  (4, .iconst 1, 1, 0, 0, []),
  (5, .isub, 0, 0, 0, []),
  (6, .istore_n 1, 1, 0, 0, []),
  (7, .iload_n 1, 1, 0, 0, []),
  (8, .ifCond .lt 21, 17, 0, 0, []),
  (11, .iload_n 1, 1, 0, 0, []),
  (12, .aload_n 0, 0, 0, 0, []),
  (13, .getfield 46, 2, 3, 1, [123]),
  (16, .arraylength, 0, 0, 0, []),
  (17, .if_icmp .ge 12, 17, 0, 0, []),
  (20, .aload_n 0, 0, 0, 0, []),
  (21, .getfield 46, 2, 3, 1, [123]),
  (24, .iload_n 1, 1, 0, 0, []),
  (25, .iaload, 0, 0, 0, []),
  (26, .goto 4, 18, 0, 0, []),
  (29, .iconst (-1), 1, 1, 0, []),
  (30, .ireturn, 0, 0, 0, [])]
def cd_G_isLive : List gx_T := [(0, .iconst 0, 0, 0, 0, []),
  (1, .istore_n 2, 2, 0, 0, []),
  (2, .iload_n 2, 2, 0, 0, []),
  (3, .aload_n 0, 0, 0, 0, []),
  (4, .getfield 19, 2, 4, 0, [124]),
  (7, .if_icmp .ge 30, 21, 0, 0, []),
  (10, .iload_n 2, 2, 0, 0, []),
  (11, .aload_n 0, 0, 0, 0, []),
  (12, .getfield 46, 2, 3, 1, [123]),
  (15, .arraylength, 0, 0, 0, []),
  (16, .if_icmp .ge 21, 21, 0, 0, []),
  (19, .aload_n 0, 0, 0, 0, []),
  (20, .getfield 46, 2, 3, 1, [123]),
  (23, .iload_n 2, 2, 0, 0, []),
  (24, .iaload, 0, 0, 0, []),
  (25, .iload_n 1, 1, 0, 0, []),
  (26, .if_icmp .ne 5, 19, 0, 0, []),
  (29, .iconst 1, 1, 0, 0, []),
  (30, .ireturn, 0, 1, 0, []),
  (31, .iinc 2 1, 2, 1, 0, []),
  (34, .goto (-32), 2, 0, 0, []),
  (37, .iconst 0, 0, 0, 0, []),
  (38, .ireturn, 0, 1, 0, [])]
def cd_G_dropTokensFrom : List gx_T := [(0, .aload_n 0, 0, 0, 0, []),
  (1, .getfield 19, 2, 4, 0, [124]),
  (4, .ifCond .le 24, 14, 0, 0, []),
  (7, .aload_n 0, 0, 0, 0, []),
  (8, .invokevirtual 202, 56, 1, 2, [230]),
  (11, .iload_n 1, 1, 0, 0, []),
  (12, .if_icmp .lt 16, 14, 0, 0, []),
  (15, .aload_n 0, 0, 0, 0, []),
  (16, .dup, 0, 0, 0, []),
  (17, .getfield 19, 2, 4, 0, [124]),
  (20, .iconst 1, 1, 0, 0, []),
  (21, .isub, 0, 0, 0, []),
  (22, .putfield 19, 2, 4, 0, [124]),
  (25, .goto (-25), 0, 0, 0, []),
  (28, .return_, 0, 0, 0, [])]
def cd_G_push : List gx_T := [(0, .aload_n 0, 0, 0, 0, []),
  (1, .getfield 23, 2, 6, 0, [126]),
  (4, .iconst (-1), 1, 1, 0, []),
  (5, .if_icmp .ne 6, 6, 0, 0, []),
  (8, .bipush (-16), 16, 1, 0, []),
  (10, .ireturn, 0, 0, 0, []),
  (11, .aload_n 0, 0, 0, 0, []),
  (12, .getfield 37, 2, 0, 1, [120]),
  (15, .aload_n 0, 0, 0, 0, []),
  (16, .getfield 37, 2, 0, 1, [120]),
  (19, .invokevirtual 106, 16, 1, 1, [222]),
  (22, .iconst 4, 4, 0, 0, []),
  (23, .iadd, 0, 0, 0, []),
  (24, .invokevirtual 112, 17, 2, 1, [272]),
  (27, .ifCond .ne 6, 17, 0, 0, []),
  (30, .bipush (-15), 15, 1, 0, []),
  (32, .ireturn, 0, 0, 0, []),
  (33, .aload_n 0, 0, 0, 0, []),
  (34, .getfield 37, 2, 0, 1, [120]),
  (37, .iload_n 1, 1, 0, 0, []),
  (38, .invokevirtual 154, 20, 2, 1, [300]),
  (41, .aload_n 0, 0, 0, 0, []),
  (42, .invokevirtual 92, 69, 1, 2, [218]),
  (45, .ireturn, 0, 0, 0, [])]
def cd_G_pop : List gx_T := [(0, .aload_n 0, 0, 0, 0, []),
  (1, .iconst 1, 1, 0, 0, []),
  (2, .invokevirtual 205, 66, 2, 2, [394]),
  (5, .istore_n 1, 1, 0, 0, []),
  (6, .iload_n 1, 1, 0, 0, []),
  (7, .ifCond .eq 5, 8, 0, 0, []),
  (10, .iload_n 1, 1, 0, 0, []),
  (11, .ireturn, 0, 0, 0, []),
  (12, .aload_n 0, 0, 0, 0, []),
  (13, .aload_n 0, 0, 0, 0, []),
  (14, .iconst 0, 0, 0, 0, []),
  (15, .invokevirtual 151, 70, 2, 2, [280]),
  (18, .putfield 29, 2, 8, 0, [128]),
  (21, .aload_n 0, 0, 0, 0, []),
  (22, .getfield 37, 2, 0, 1, [120]),
  (25, .aload_n 0, 0, 0, 0, []),
  (26, .getfield 37, 2, 0, 1, [120]),
  (29, .invokevirtual 106, 16, 1, 1, [222]),
  (32, .iconst 4, 4, 0, 0, []),
  (33, .isub, 0, 0, 0, []),
  (34, .invokevirtual 133, 22, 2, 1, [284]),
  (37, .aload_n 0, 0, 0, 0, []),
  (38, .invokevirtual 92, 69, 1, 2, [218]),
  (41, .ireturn, 0, 0, 0, [])]
def cd_G_popped : List gx_T := [(0, .aload_n 0, 0, 0, 0, []),
  (1, .getfield 29, 2, 8, 0, [128]),
  (4, .ireturn, 0, 0, 0, [])]
def cd_G_peek : List gx_T := [(0, .aload_n 0, 0, 0, 0, []),
  (1, .getfield 23, 2, 6, 0, [126]),
  (4, .iconst (-1), 1, 1, 0, []),
  (5, .if_icmp .ne 6, 6, 0, 0, []),
  (8, .bipush (-16), 16, 1, 0, []),
  (10, .ireturn, 0, 0, 0, []),
  (11, .iload_n 1, 1, 0, 0, []),
  (12, .ifCond .lt 11, 12, 0, 0, []),
  (15, .iload_n 1, 1, 0, 0, []),
  (16, .aload_n 0, 0, 0, 0, []),
  (17, .invokevirtual 92, 69, 1, 2, [218]),
  (20, .if_icmp .lt 6, 14, 0, 0, []),
  (23, .bipush (-12), 12, 1, 0, []),
  (25, .ireturn, 0, 0, 0, []),
  (26, .aload_n 0, 0, 0, 0, []),
  (27, .aload_n 0, 0, 0, 0, []),
  (28, .iload_n 1, 1, 0, 0, []),
  (29, .invokevirtual 151, 70, 2, 2, [280]),
  (32, .putfield 29, 2, 8, 0, [128]),
  (35, .iconst 1, 1, 0, 0, []),
  (36, .ireturn, 0, 0, 0, [])]
def cd_G_copy : List gx_T := [(0, .aload_n 0, 0, 0, 0, []),
  (1, .iload_n 1, 1, 0, 0, []),
  (2, .invokevirtual 205, 66, 2, 2, [394]),
  (5, .istore_n 2, 2, 0, 0, []),
  (6, .iload_n 2, 2, 0, 0, []),
  (7, .ifCond .eq 5, 8, 0, 0, []),
  (10, .iload_n 2, 2, 0, 0, []),
  (11, .ireturn, 0, 0, 0, []),
  (12, .aload_n 0, 0, 0, 0, []),
  (13, .getfield 37, 2, 0, 1, [120]),
  (16, .aload_n 0, 0, 0, 0, []),
  (17, .getfield 37, 2, 0, 1, [120]),
  (20, .invokevirtual 106, 16, 1, 1, [222]),
  (23, .iconst 4, 4, 0, 0, []),
  (24, .iload_n 1, 1, 0, 0, []),
  (25, .imul, 0, 0, 0, []),
  (26, .iadd, 0, 0, 0, []),
  (27, .invokevirtual 112, 17, 2, 1, [272]),
  (30, .ifCond .ne 6, 21, 0, 0, []),
  (33, .bipush (-15), 15, 1, 0, []),
  (35, .ireturn, 0, 0, 0, []),
  (36, .iconst 0, 0, 0, 0, []),
  (37, .istore_n 3, 3, 0, 0, []),
  (38, .iload_n 3, 3, 0, 0, []),
  (39, .iload_n 1, 1, 0, 0, []),
  (40, .if_icmp .ge 23, 36, 0, 0, []),
  (43, .aload_n 0, 0, 0, 0, []),
  (44, .getfield 37, 2, 0, 1, [120]),
  (47, .aload_n 0, 0, 0, 0, []),
  (48, .iload_n 1, 1, 0, 0, []),
  (49, .iconst 1, 1, 0, 0, []),
  (50, .isub, 0, 0, 0, []),
  (51, .invokevirtual 151, 70, 2, 2, [280]),
  (54, .invokevirtual 154, 20, 2, 1, [300]),
  (57, .iinc 3 1, 3, 1, 0, []),
  (60, .goto (-22), 23, 0, 0, []),
  (63, .aload_n 0, 0, 0, 0, []),
  (64, .invokevirtual 92, 69, 1, 2, [218]),
  (67, .ireturn, 0, 0, 0, [])]
def cd_G_roll : List gx_T := [(0, .aload_n 0, 0, 0, 0, []),
  (1, .iload_n 1, 1, 0, 0, []),
  (2, .invokevirtual 205, 66, 2, 2, [394]),
  (5, .istore_n 3, 3, 0, 0, []),
  (6, .iload_n 3, 3, 0, 0, []),
  (7, .ifCond .eq 5, 8, 0, 0, []),
  (10, .iload_n 3, 3, 0, 0, []),
  (11, .ireturn, 0, 0, 0, []),
  (12, .iload_n 1, 1, 0, 0, []),
  (13, .ifCond .le 13, 16, 0, 0, []),
  (16, .aload_n 0, 0, 0, 0, []),
  (17, .iload_n 1, 1, 0, 0, []),
  (18, .iload_n 2, 2, 0, 0, []),
  (19, .iload_n 1, 1, 0, 0, []),
  (20, .invokestatic 208, 134, 2, 0, [414]),
  (23, .invokevirtual 213, 67, 3, 2, [417]),
  (26, .iconst 1, 1, 0, 0, []),
  (27, .ireturn, 0, 0, 0, [])]
def cd_G_swap : List gx_T := [(0, .aload_n 0, 0, 0, 0, []),
  (1, .iconst 2, 2, 0, 0, []),
  (2, .invokevirtual 205, 66, 2, 2, [394]),
  (5, .istore_n 1, 1, 0, 0, []),
  (6, .iload_n 1, 1, 0, 0, []),
  (7, .ifCond .eq 5, 8, 0, 0, []),
  (10, .iload_n 1, 1, 0, 0, []),
  (11, .ireturn, 0, 0, 0, []),
  (12, .aload_n 0, 0, 0, 0, []),
  (13, .iconst 2, 2, 0, 0, []),
  (14, .iconst 1, 1, 0, 0, []),
  (15, .invokevirtual 213, 67, 3, 2, [417]),
  (18, .iconst 1, 1, 0, 0, []),
  (19, .ireturn, 0, 0, 0, [])]
def cd_G_faultOfLast : List gx_T := [(0, .iload_n 1, 1, 0, 0, []),
  (1, .ifCond .ge 5, 4, 0, 0, []),
  (4, .iconst (-1), 1, 1, 0, []),
  (5, .ireturn, 0, 0, 0, []),
  (6, .aload_n 0, 0, 0, 0, []),
  (7, .getfield 23, 2, 6, 0, [126]),
  (10, .iconst (-1), 1, 1, 0, []),
  (11, .if_icmp .ne 6, 10, 0, 0, []),
  (14, .bipush (-16), 16, 1, 0, []),
  (16, .ireturn, 0, 0, 0, []),
  (17, .iload_n 1, 1, 0, 0, []),
  (18, .aload_n 0, 0, 0, 0, []),
  (19, .invokevirtual 92, 69, 1, 2, [218]),
  (22, .if_icmp .le 8, 16, 0, 0, []),
  (25, .bipush (-12), 12, 1, 0, []),
  (27, .goto 4, 17, 0, 0, []),
  (30, .iconst 0, 0, 0, 0, []),
  (31, .ireturn, 0, 0, 0, [])]
def cd_G_rollLast : List gx_T := [(0, .aload_n 0, 0, 0, 0, []),
  (1, .iload_n 1, 1, 0, 0, []),
  (2, .invokevirtual 115, 71, 2, 2, [322]),
  (5, .iload_n 1, 1, 0, 0, []),
  (6, .iconst 1, 1, 0, 0, []),
  (7, .isub, 0, 0, 0, []),
  (8, .istore_n 3, 3, 0, 0, []),
  (9, .iload_n 3, 3, 0, 0, []),
  (10, .ifCond .lt 40, 28, 0, 0, []),
  (13, .iload_n 3, 3, 0, 0, []),
  (14, .iload_n 2, 2, 0, 0, []),
  (15, .iadd, 0, 0, 0, []),
  (16, .istore 4, 4, 0, 0, []),
  (18, .aload_n 0, 0, 0, 0, []),
  (19, .getfield 37, 2, 0, 1, [120]),
  (22, .aload_n 0, 0, 0, 0, []),
  (23, .iload 4, 4, 0, 0, []),
  (25, .iload_n 1, 1, 0, 0, []),
  (26, .if_icmp .ge 8, 21, 0, 0, []),
  (29, .iload 4, 4, 0, 0, []),
  (31, .goto 7, 24, 0, 0, []),
  (34, .iload 4, 4, 0, 0, []),
  (36, .iload_n 1, 1, 0, 0, []),
  (37, .isub, 0, 0, 0, []),
  (38, .invokevirtual 184, 72, 2, 2, [342]),
  (41, .invokevirtual 154, 20, 2, 1, [300]),
  (44, .iinc 3 (-1), 3, 1, 1, []),
  (47, .goto (-38), 7, 0, 0, []),
  (50, .return_, 0, 0, 0, [])]
def cd_G_valuesBegin : List gx_T := [(0, .aload_n 0, 0, 0, 0, []),
  (1, .invokevirtual 202, 56, 1, 2, [230]),
  (4, .istore_n 1, 1, 0, 0, []),
  (5, .iload_n 1, 1, 0, 0, []),
  (6, .aload_n 0, 0, 0, 0, []),
  (7, .getfield 23, 2, 6, 0, [126]),
  (10, .if_icmp .le 7, 9, 0, 0, []),
  (13, .iload_n 1, 1, 0, 0, []),
  (14, .goto 11, 13, 0, 0, []),
  (17, .aload_n 0, 0, 0, 0, []),
  (18, .aload_n 0, 0, 0, 0, []),
  (19, .getfield 23, 2, 6, 0, [126]),
  (22, .invokevirtual 190, 47, 2, 2, [234]),
  (25, .ireturn, 0, 0, 0, [])]
def cd_G_valueCount : List gx_T := [(0, .aload_n 0, 0, 0, 0, []),
  (1, .getfield 23, 2, 6, 0, [126]),
  (4, .iconst (-1), 1, 1, 0, []),
  (5, .if_icmp .ne 7, 6, 0, 0, []),
  (8, .iconst 0, 0, 0, 0, []),
  (9, .goto 17, 14, 0, 0, []),
  (12, .aload_n 0, 0, 0, 0, []),
  (13, .getfield 37, 2, 0, 1, [120]),
  (16, .invokevirtual 106, 16, 1, 1, [222]),
  (19, .aload_n 0, 0, 0, 0, []),
  (20, .invokevirtual 217, 68, 1, 2, [226]),
  (23, .isub, 0, 0, 0, []),
  (24, .iconst 4, 4, 0, 0, []),
  (25, .idiv, 0, 0, 0, []),
  (26, .ireturn, 0, 0, 0, [])]
def cd_G_valueFromLast : List gx_T := [(0, .aload_n 0, 0, 0, 0, []),
  (1, .getfield 37, 2, 0, 1, [120]),
  (4, .aload_n 0, 0, 0, 0, []),
  (5, .getfield 37, 2, 0, 1, [120]),
  (8, .invokevirtual 106, 16, 1, 1, [222]),
  (11, .iconst 4, 4, 0, 0, []),
  (12, .iload_n 1, 1, 0, 0, []),
  (13, .iconst 1, 1, 0, 0, []),
  (14, .iadd, 0, 0, 0, []),
  (15, .imul, 0, 0, 0, []),
  (16, .isub, 0, 0, 0, []),
  (17, .iconst 4, 4, 0, 0, []),
  (18, .invokevirtual 157, 18, 3, 1, [238]),
  (21, .ireturn, 0, 0, 0, [])]
def cd_G_takeValues : List gx_T := [(0, .iconst 0, 0, 0, 0, []),
  (1, .istore_n 2, 2, 0, 0, []),
  (2, .iload_n 2, 2, 0, 0, []),
  (3, .iload_n 1, 1, 0, 0, []),
  (4, .if_icmp .ge 29, 19, 0, 0, []),
  (7, .iload_n 2, 2, 0, 0, []),
  (8, .aload_n 0, 0, 0, 0, []),
  (9, .getfield 49, 2, 5, 1, [125]),
  (12, .arraylength, 0, 0, 0, []),
  (13, .if_icmp .ge 20, 19, 0, 0, []),
  (16, .aload_n 0, 0, 0, 0, []),
  (17, .getfield 49, 2, 5, 1, [125]),
  (20, .iload_n 2, 2, 0, 0, []),
  (21, .aload_n 0, 0, 0, 0, []),
  (22, .iload_n 2, 2, 0, 0, []),
  (23, .invokevirtual 151, 70, 2, 2, [280]),
  (26, .iastore, 0, 0, 0, []),
  (27, .iinc 2 1, 2, 1, 0, []),
  (30, .goto (-28), 2, 0, 0, []),
  (33, .aload_n 0, 0, 0, 0, []),
  (34, .getfield 37, 2, 0, 1, [120]),
  (37, .aload_n 0, 0, 0, 0, []),
  (38, .getfield 37, 2, 0, 1, [120]),
  (41, .invokevirtual 106, 16, 1, 1, [222]),
  (44, .iconst 4, 4, 0, 0, []),
  (45, .iload_n 1, 1, 0, 0, []),
  (46, .imul, 0, 0, 0, []),
  (47, .isub, 0, 0, 0, []),
  (48, .invokevirtual 133, 22, 2, 1, [284]),
  (51, .return_, 0, 0, 0, [])]
def cd_G_takenValue : List gx_T := [(0, .iload_n 1, 1, 0, 0, []),
  (1, .ifCond .lt 21, 12, 0, 0, []),
  (4, .iload_n 1, 1, 0, 0, []),
  (5, .aload_n 0, 0, 0, 0, []),
  (6, .getfield 49, 2, 5, 1, [125]),
  (9, .arraylength, 0, 0, 0, []),
  (10, .if_icmp .ge 12, 12, 0, 0, []),
  (13, .aload_n 0, 0, 0, 0, []),
  (14, .getfield 49, 2, 5, 1, [125]),
  (17, .iload_n 1, 1, 0, 0, []),
  (18, .iaload, 0, 0, 0, []),
  (19, .goto 4, 13, 0, 0, []),
  (22, .iconst 0, 0, 0, 0, []),
  (23, .ireturn, 0, 0, 0, [])]
def cd_G_load : List gx_T := [(0, .aload_n 0, 0, 0, 0, []),
  (1, .iload_n 1, 1, 0, 0, []),
  (2, .iload_n 2, 2, 0, 0, []),
  (3, .invokevirtual 220, 75, 3, 2, [429]),
  (6, .istore_n 3, 3, 0, 0, []),
  (7, .iload_n 3, 3, 0, 0, []),
  (8, .ifCond .eq 5, 9, 0, 0, []),
  (11, .iload_n 3, 3, 0, 0, []),
  (12, .ireturn, 0, 0, 0, []),
  (13, .aload_n 0, 0, 0, 0, []),
  (14, .aload_n 0, 0, 0, 0, []),
  (15, .getfield 37, 2, 0, 1, [120]),
  (18, .aload_n 0, 0, 0, 0, []),
  (19, .aload_n 0, 0, 0, 0, []),
  (20, .getfield 23, 2, 6, 0, [126]),
  (23, .invokevirtual 187, 48, 2, 2, [268]),
  (26, .iload_n 1, 1, 0, 0, []),
  (27, .iadd, 0, 0, 0, []),
  (28, .iload_n 2, 2, 0, 0, []),
  (29, .invokevirtual 157, 18, 3, 1, [238]),
  (32, .putfield 29, 2, 8, 0, [128]),
  (35, .iconst 1, 1, 0, 0, []),
  (36, .ireturn, 0, 0, 0, [])]
def cd_G_store : List gx_T := [(0, .aload_n 0, 0, 0, 0, []),
  (1, .iload_n 1, 1, 0, 0, []),
  (2, .iload_n 2, 2, 0, 0, []),
  (3, .invokevirtual 220, 75, 3, 2, [429]),
  (6, .istore 4, 4, 0, 0, []),
  (8, .iload 4, 4, 0, 0, []),
  (10, .ifCond .eq 6, 9, 0, 0, []),
  (13, .iload 4, 4, 0, 0, []),
  (15, .ireturn, 0, 0, 0, []),
  (16, .aload_n 0, 0, 0, 0, []),
  (17, .getfield 37, 2, 0, 1, [120]),
  (20, .aload_n 0, 0, 0, 0, []),
  (21, .aload_n 0, 0, 0, 0, []),
  (22, .getfield 23, 2, 6, 0, [126]),
  (25, .invokevirtual 187, 48, 2, 2, [268]),
  (28, .iload_n 1, 1, 0, 0, []),
  (29, .iadd, 0, 0, 0, []),
  (30, .iload_n 2, 2, 0, 0, []),
  (31, .iload_n 3, 3, 0, 0, []),
  (32, .invokevirtual 166, 19, 4, 1, [292]),
  (35, .iconst 1, 1, 0, 0, []),
  (36, .ireturn, 0, 0, 0, [])]
def cd_G_faultOfLocal : List gx_T := [(0, .iload_n 2, 2, 0, 0, []),
  (1, .invokestatic 59, 32, 1, 0, [164]),
  (4, .ifCond .ne 5, 5, 0, 0, []),
  (7, .iconst (-1), 1, 1, 0, []),
  (8, .ireturn, 0, 0, 0, []),
  (9, .aload_n 0, 0, 0, 0, []),
  (10, .getfield 23, 2, 6, 0, [126]),
  (13, .iconst (-1), 1, 1, 0, []),
  (14, .if_icmp .ne 6, 11, 0, 0, []),
  (17, .bipush (-16), 16, 1, 0, []),
  (19, .ireturn, 0, 0, 0, []),
  (20, .aload_n 0, 0, 0, 0, []),
  (21, .aload_n 0, 0, 0, 0, []),
  (22, .getfield 23, 2, 6, 0, [126]),
  (25, .iload_n 1, 1, 0, 0, []),
  (26, .iload_n 2, 2, 0, 0, []),
  (27, .invokevirtual 199, 49, 4, 2, [264]),
  (30, .ifCond .eq 7, 20, 0, 0, []),
  (33, .iconst 0, 0, 0, 0, []),
  (34, .goto 5, 21, 0, 0, []),
  (37, .bipush (-13), 13, 1, 0, []),
  (39, .ireturn, 0, 0, 0, [])]
def cd_G_byteAt : List gx_T := [(0, .iload_n 1, 1, 0, 0, []),
  (1, .ifCond .lt 26, 13, 0, 0, []),
  (4, .iload_n 1, 1, 0, 0, []),
  (5, .aload_n 0, 0, 0, 0, []),
  (6, .getfield 37, 2, 0, 1, [120]),
  (9, .invokevirtual 106, 16, 1, 1, [222]),
  (12, .if_icmp .ge 15, 13, 0, 0, []),
  (15, .aload_n 0, 0, 0, 0, []),
  (16, .getfield 37, 2, 0, 1, [120]),
  (19, .iload_n 1, 1, 0, 0, []),
  (20, .iconst 1, 1, 0, 0, []),
  (21, .invokevirtual 157, 18, 3, 1, [238]),
  (24, .goto 4, 14, 0, 0, []),
  (27, .iconst (-1), 1, 1, 0, []),
  (28, .ireturn, 0, 0, 0, [])]
def cd_G_cell : List gx_T := [(0, .iload_n 1, 1, 0, 0, []),
  (1, .invokestatic 196, 54, 1, 0, [258]),
  (4, .ifCond .eq 12, 8, 0, 0, []),
  (7, .aload_n 0, 0, 0, 0, []),
  (8, .getfield 15, 2, 2, 1, [122]),
  (11, .iload_n 1, 1, 0, 0, []),
  (12, .iaload, 0, 0, 0, []),
  (13, .goto 4, 9, 0, 0, []),
  (16, .iconst 0, 0, 0, 0, []),
  (17, .ireturn, 0, 0, 0, [])]
def cd_G_count : List gx_T := [(0, .iload_n 1, 1, 0, 0, []),
  (1, .tableswitch 105 0 7 #[47, 55, 60, 77, 82, 90, 95, 100], 34, 0, 47, [2, 6, 9, 18, 21, 25, 28, 31]),
  (48, .aload_n 0, 0, 0, 0, []),
  (49, .getfield 37, 2, 0, 1, [120]),
  (52, .invokevirtual 106, 16, 1, 1, [222]),
  (55, .ireturn, 0, 0, 0, []),
  (56, .aload_n 0, 0, 0, 0, []),
  (57, .getfield 23, 2, 6, 0, [126]),
  (60, .ireturn, 0, 0, 0, []),
  (61, .aload_n 0, 0, 0, 0, []),
  (62, .getfield 23, 2, 6, 0, [126]),
  (65, .iconst (-1), 1, 1, 0, []),
  (66, .if_icmp .ne 7, 15, 0, 0, []),
  (69, .iconst (-1), 1, 1, 0, []),
  (70, .goto 7, 17, 0, 0, []),
  (73, .aload_n 0, 0, 0, 0, []),
  (74, .invokevirtual 92, 69, 1, 2, [218]),
  (77, .ireturn, 0, 0, 0, []),
  (78, .aload_n 0, 0, 0, 0, []),
  (79, .getfield 26, 2, 7, 0, [127]),
  (82, .ireturn, 0, 0, 0, []),
  (83, .aload_n 0, 0, 0, 0, []),
  (84, .getfield 37, 2, 0, 1, [120]),
  (87, .invokevirtual 42, 15, 1, 1, [116]),
  (90, .ireturn, 0, 0, 0, []),
  (91, .aload_n 0, 0, 0, 0, []),
  (92, .getfield 19, 2, 4, 0, [124]),
  (95, .ireturn, 0, 0, 0, []),
  (96, .aload_n 0, 0, 0, 0, []),
  (97, .invokevirtual 202, 56, 1, 2, [230]),
  (100, .ireturn, 0, 0, 0, []),
  (101, .aload_n 0, 0, 0, 0, []),
  (102, .invokevirtual 223, 50, 1, 2, [449]),
  (105, .ireturn, 0, 0, 0, []),
  (106, .iconst (-1), 1, 1, 0, []),
  (107, .ireturn, 0, 0, 0, [])]
def cd_M_init : List gx_T := [(0, .aload_n 0, 0, 0, 0, []),
  (1, .invokespecial 1, 0, 0, 99, [461, 67, 68]),
  (4, .aload_n 0, 0, 0, 0, []),
  (5, .sipush 1024, 1024, 0, 0, []),
  (8, .newarray .int, 0, 0, 0, [90]),
  (10, .putfield 7, 3, 1, 1, [463]),
  (13, .aload_n 0, 0, 0, 0, []),
  (14, .iconst (-1), 1, 1, 0, []),
  (15, .putfield 13, 3, 3, 0, [465]),
  (18, .aload_n 0, 0, 0, 0, []),
  (19, .bipush 16, 16, 0, 0, []),
  (21, .newarray .int, 0, 0, 0, [90]),
  (23, .putfield 17, 3, 5, 1, [467]),
  (26, .aload_n 0, 0, 0, 0, []),
  (27, .bipush 12, 12, 0, 0, []),
  (29, .newarray .int, 0, 0, 0, [90]),
  (31, .putfield 20, 3, 6, 1, [468]),
  (34, .aload_n 0, 0, 0, 0, []),
  (35, .bipush 12, 12, 0, 0, []),
  (37, .newarray .int, 0, 0, 0, [90]),
  (39, .putfield 23, 3, 7, 1, [469]),
  (42, .aload_n 0, 0, 0, 0, []),
  (43, .bipush 72, 72, 0, 0, []),
  (45, .newarray .int, 0, 0, 0, [90]),
  (47, .putfield 26, 3, 8, 1, [470]),
  (50, .aload_n 0, 0, 0, 0, []),
  (51, .bipush 72, 72, 0, 0, []),
  (53, .newarray .int, 0, 0, 0, [90]),
  (55, .putfield 29, 3, 9, 1, [471]),
  (58, .aload_n 0, 0, 0, 0, []),
  (59, .bipush 12, 12, 0, 0, []),
  (61, .newarray .int, 0, 0, 0, [90]),
  (63, .putfield 32, 3, 10, 1, [472]),
  (66, .aload_n 0, 0, 0, 0, []),
  (67, .bipush 64, 64, 0, 0, []),
  (69, .newarray .int, 0, 0, 0, [90]),
  (71, .putfield 35, 3, 11, 1, [473]),
  (74, .aload_n 0, 0, 0, 0, []),
  (75, .sipush 256, 256, 0, 0, []),
  (78, .newarray .int, 0, 0, 0, [90]),
  (80, .putfield 38, 3, 14, 1, [476]),
  (83, .iload_n 1, 1, 0, 0, []),
  (84, .bipush 64, 64, 0, 0, []),
  (86, .if_icmp .ge 8, 46, 0, 0, []),
  (89, .bipush 64, 64, 0, 0, []),
  (91, .goto 17, 52, 0, 0, []),
  (94, .iload_n 1, 1, 0, 0, []),
  (95, .sipush 1024, 1024, 0, 0, []),
  (98, .if_icmp .le 9, 51, 0, 0, []),
  (101, .sipush 1024, 1024, 0, 0, []),
  (104, .goto 4, 52, 0, 0, []),
  (107, .iload_n 1, 1, 0, 0, []),
  (108, .istore_n 2, 2, 0, 0, []),
  (109, .aload_n 0, 0, 0, 0, []),
  (110, .iload_n 2, 2, 0, 0, []),
  (111, .iload_n 2, 2, 0, 0, []),
  (112, .iconst 4, 4, 0, 0, []),
  (113, .irem, 0, 0, 0, []),
  (114, .isub, 0, 0, 0, []),
  (115, .putfield 41, 3, 0, 0, [462]),
  (118, .return_, 0, 0, 0, [])]
def cd_M_in : List gx_T := []
def cd_M_fault : List gx_T := [(0, .bipush (-10), 10, 1, 0, []),
  (2, .iload_n 0, 0, 0, 0, []),
  (3, .isub, 0, 0, 0, []),
  (4, .ireturn, 0, 0, 0, [])]
def cd_M_read : List gx_T := [(0, .iconst 0, 0, 0, 0, []),
  (1, .istore_n 3, 3, 0, 0, []),
  (2, .iconst 0, 0, 0, 0, []),
  (3, .istore 4, 4, 0, 0, []),
  (5, .iload 4, 4, 0, 0, []),
  (7, .iload_n 2, 2, 0, 0, []),
  (8, .if_icmp .ge 24, 20, 0, 0, []),
  (11, .iload_n 3, 3, 0, 0, []),
  (12, .bipush 8, 8, 0, 0, []),
  (14, .ishl, 0, 0, 0, []),
  (15, .aload_n 0, 0, 0, 0, []),
  (16, .getfield 7, 3, 1, 1, [463]),
  (19, .iload_n 1, 1, 0, 0, []),
  (20, .iload 4, 4, 0, 0, []),
  (22, .iadd, 0, 0, 0, []),
  (23, .iaload, 0, 0, 0, []),
  (24, .ior, 0, 0, 0, []),
  (25, .istore_n 3, 3, 0, 0, []),
  (26, .iinc 4 1, 4, 1, 0, []),
  (29, .goto (-24), 4, 0, 0, []),
  (32, .iload_n 3, 3, 0, 0, []),
  (33, .ireturn, 0, 0, 0, [])]
def cd_M_write : List gx_T := [(0, .iload_n 3, 3, 0, 0, []),
  (1, .istore 4, 4, 0, 0, []),
  (3, .iload_n 2, 2, 0, 0, []),
  (4, .iconst 1, 1, 0, 0, []),
  (5, .isub, 0, 0, 0, []),
  (6, .istore 5, 5, 0, 0, []),
  (8, .iload 5, 5, 0, 0, []),
  (10, .ifCond .lt 31, 23, 0, 0, []),
  (13, .aload_n 0, 0, 0, 0, []),
  (14, .getfield 7, 3, 1, 1, [463]),
  (17, .iload_n 1, 1, 0, 0, []),
  (18, .iload 5, 5, 0, 0, []),
  (20, .iadd, 0, 0, 0, []),
  (21, .iload 4, 4, 0, 0, []),
  (23, .sipush 255, 255, 0, 0, []),
  (26, .iand, 0, 0, 0, []),
  (27, .iastore, 0, 0, 0, []),
  (28, .iload 4, 4, 0, 0, []),
  (30, .bipush 8, 8, 0, 0, []),
  (32, .ishr, 0, 0, 0, []),
  (33, .istore 4, 4, 0, 0, []),
  (35, .iinc 5 (-1), 5, 1, 1, []),
  (38, .goto (-30), 6, 0, 0, []),
  (41, .return_, 0, 0, 0, [])]
def cd_M_isFunction : List gx_T := [(0, .iload_n 0, 0, 0, 0, []),
  (1, .i2l, 0, 0, 0, []),
  (2, .lconst 0, 0, 0, 0, []),
  (3, .ldc2_w 44, 11, 0, 0, [515]),
  (6, .invokestatic 46, 80, 3, 1, [516]),
  (9, .ireturn, 0, 1, 0, [])]
def cd_M_function : List gx_T := [(0, .iload_n 1, 1, 0, 0, []),
  (1, .invokestatic 50, 84, 1, 0, [512]),
  (4, .ifCond .eq 15, 9, 0, 0, []),
  (7, .iload_n 2, 2, 0, 0, []),
  (8, .i2l, 0, 0, 0, []),
  (9, .lconst 0, 0, 0, 0, []),
  (10, .ldc2_w 54, 255, 0, 0, [519]),
  (13, .invokestatic 46, 80, 3, 1, [516]),
  (16, .ifCond .ne 5, 11, 0, 0, []),
  (19, .iconst (-1), 1, 1, 0, []),
  (20, .ireturn, 0, 0, 0, []),
  (21, .aload_n 0, 0, 0, 0, []),
  (22, .getfield 20, 3, 6, 1, [468]),
  (25, .iload_n 1, 1, 0, 0, []),
  (26, .iload_n 2, 2, 0, 0, []),
  (27, .iastore, 0, 0, 0, []),
  (28, .aload_n 0, 0, 0, 0, []),
  (29, .getfield 23, 3, 7, 1, [469]),
  (32, .iload_n 1, 1, 0, 0, []),
  (33, .iconst 0, 0, 0, 0, []),
  (34, .iastore, 0, 0, 0, []),
  (35, .iconst 1, 1, 0, 0, []),
  (36, .ireturn, 0, 0, 0, [])]
def cd_M_isWidth : List gx_T := [(0, .iload_n 0, 0, 0, 0, []),
  (1, .iconst 1, 1, 0, 0, []),
  (2, .if_icmp .eq 13, 9, 0, 0, []),
  (5, .iload_n 0, 0, 0, 0, []),
  (6, .iconst 2, 2, 0, 0, []),
  (7, .if_icmp .eq 8, 9, 0, 0, []),
  (10, .iload_n 0, 0, 0, 0, []),
  (11, .iconst 4, 4, 0, 0, []),
  (12, .if_icmp .ne 7, 11, 0, 0, []),
  (15, .iconst 1, 1, 0, 0, []),
  (16, .goto 4, 12, 0, 0, []),
  (19, .iconst 0, 0, 0, 0, []),
  (20, .ireturn, 0, 1, 0, [])]
def cd_M_format : List gx_T := [(0, .iload_n 1, 1, 0, 0, []),
  (1, .invokestatic 50, 84, 1, 0, [512]),
  (4, .ifCond .eq 33, 18, 0, 0, []),
  (7, .iload_n 2, 2, 0, 0, []),
  (8, .invokestatic 56, 86, 1, 0, [524]),
  (11, .ifCond .eq 26, 18, 0, 0, []),
  (14, .iload_n 3, 3, 0, 0, []),
  (15, .i2l, 0, 0, 0, []),
  (16, .lconst 1, 1, 0, 0, []),
  (17, .ldc2_w 54, 255, 0, 0, [519]),
  (20, .invokestatic 46, 80, 3, 1, [516]),
  (23, .ifCond .eq 14, 18, 0, 0, []),
  (26, .aload_n 0, 0, 0, 0, []),
  (27, .getfield 23, 3, 7, 1, [469]),
  (30, .iload_n 1, 1, 0, 0, []),
  (31, .iaload, 0, 0, 0, []),
  (32, .bipush 6, 6, 0, 0, []),
  (34, .if_icmp .ne 5, 20, 0, 0, []),
  (37, .iconst (-1), 1, 1, 0, []),
  (38, .ireturn, 0, 0, 0, []),
  (39, .aload_n 0, 0, 0, 0, []),
  (40, .getfield 26, 3, 8, 1, [470]),
  (43, .bipush 6, 6, 0, 0, []),
  (45, .iload_n 1, 1, 0, 0, []),
  (46, .imul, 0, 0, 0, []),
  (47, .aload_n 0, 0, 0, 0, []),
  (48, .getfield 23, 3, 7, 1, [469]),
  (51, .iload_n 1, 1, 0, 0, []),
  (52, .iaload, 0, 0, 0, []),
  (53, .iadd, 0, 0, 0, []),
  (54, .iload_n 2, 2, 0, 0, []),
  (55, .iastore, 0, 0, 0, []),
  (56, .aload_n 0, 0, 0, 0, []),
  (57, .getfield 29, 3, 9, 1, [471]),
  (60, .bipush 6, 6, 0, 0, []),
  (62, .iload_n 1, 1, 0, 0, []),
  (63, .imul, 0, 0, 0, []),
  (64, .aload_n 0, 0, 0, 0, []),
  (65, .getfield 23, 3, 7, 1, [469]),
  (68, .iload_n 1, 1, 0, 0, []),
  (69, .iaload, 0, 0, 0, []),
  (70, .iadd, 0, 0, 0, []),
  (71, .iload_n 3, 3, 0, 0, []),
  (72, .iastore, 0, 0, 0, []),
  (73, .aload_n 0, 0, 0, 0, []),
  (74, .getfield 23, 3, 7, 1, [469]),
  (77, .iload_n 1, 1, 0, 0, []),
  (78, .dup2, 0, 0, 0, []),
  (79, .iaload, 0, 0, 0, []),
  (80, .iconst 1, 1, 0, 0, []),
  (81, .iadd, 0, 0, 0, []),
  (82, .iastore, 0, 0, 0, []),
  (83, .aload_n 0, 0, 0, 0, []),
  (84, .getfield 23, 3, 7, 1, [469]),
  (87, .iload_n 1, 1, 0, 0, []),
  (88, .iaload, 0, 0, 0, []),
  (89, .ireturn, 0, 0, 0, [])]
def cd_M_accelerate : List gx_T := [(0, .iload_n 1, 1, 0, 0, []),
  (1, .invokestatic 50, 84, 1, 0, [512]),
  (4, .ifCond .eq 15, 9, 0, 0, []),
  (7, .iload_n 2, 2, 0, 0, []),
  (8, .i2l, 0, 0, 0, []),
  (9, .lconst 0, 0, 0, 0, []),
  (10, .ldc2_w 59, 3, 0, 0, [531]),
  (13, .invokestatic 46, 80, 3, 1, [516]),
  (16, .ifCond .ne 5, 11, 0, 0, []),
  (19, .iconst (-1), 1, 1, 0, []),
  (20, .ireturn, 0, 0, 0, []),
  (21, .aload_n 0, 0, 0, 0, []),
  (22, .getfield 32, 3, 10, 1, [472]),
  (25, .iload_n 1, 1, 0, 0, []),
  (26, .iaload, 0, 0, 0, []),
  (27, .istore_n 3, 3, 0, 0, []),
  (28, .aload_n 0, 0, 0, 0, []),
  (29, .getfield 32, 3, 10, 1, [472]),
  (32, .iload_n 1, 1, 0, 0, []),
  (33, .iload_n 2, 2, 0, 0, []),
  (34, .iastore, 0, 0, 0, []),
  (35, .iload_n 3, 3, 0, 0, []),
  (36, .ireturn, 0, 0, 0, [])]
def cd_M_up : List gx_T := [(0, .iload_n 0, 0, 0, 0, []),
  (1, .iload_n 1, 1, 0, 0, []),
  (2, .iadd, 0, 0, 0, []),
  (3, .iconst 1, 1, 0, 0, []),
  (4, .isub, 0, 0, 0, []),
  (5, .iload_n 1, 1, 0, 0, []),
  (6, .idiv, 0, 0, 0, []),
  (7, .iload_n 1, 1, 0, 0, []),
  (8, .imul, 0, 0, 0, []),
  (9, .ireturn, 0, 0, 0, [])]
def cd_M_begin : List gx_T := [(0, .bipush 8, 8, 0, 0, []),
  (2, .iconst 2, 2, 0, 0, []),
  (3, .aload_n 0, 0, 0, 0, []),
  (4, .getfield 23, 3, 7, 1, [469]),
  (7, .iload_n 1, 1, 0, 0, []),
  (8, .iaload, 0, 0, 0, []),
  (9, .iconst 1, 1, 0, 0, []),
  (10, .iadd, 0, 0, 0, []),
  (11, .imul, 0, 0, 0, []),
  (12, .iadd, 0, 0, 0, []),
  (13, .iconst 4, 4, 0, 0, []),
  (14, .invokestatic 61, 89, 2, 0, [553]),
  (17, .ireturn, 0, 0, 0, [])]
def cd_M_locals : List gx_T := [(0, .iconst 0, 0, 0, 0, []),
  (1, .istore_n 2, 2, 0, 0, []),
  (2, .iconst 0, 0, 0, 0, []),
  (3, .istore_n 3, 3, 0, 0, []),
  (4, .iload_n 3, 3, 0, 0, []),
  (5, .aload_n 0, 0, 0, 0, []),
  (6, .getfield 23, 3, 7, 1, [469]),
  (9, .iload_n 1, 1, 0, 0, []),
  (10, .iaload, 0, 0, 0, []),
  (11, .if_icmp .ge 23, 23, 0, 0, []),
  (14, .iload_n 2, 2, 0, 0, []),
  (15, .aload_n 0, 0, 0, 0, []),
  (16, .getfield 29, 3, 9, 1, [471]),
  (19, .bipush 6, 6, 0, 0, []),
  (21, .iload_n 1, 1, 0, 0, []),
  (22, .imul, 0, 0, 0, []),
  (23, .iload_n 3, 3, 0, 0, []),
  (24, .iadd, 0, 0, 0, []),
  (25, .iaload, 0, 0, 0, []),
  (26, .iadd, 0, 0, 0, []),
  (27, .istore_n 2, 2, 0, 0, []),
  (28, .iinc 3 1, 3, 1, 0, []),
  (31, .goto (-27), 4, 0, 0, []),
  (34, .iload_n 2, 2, 0, 0, []),
  (35, .ireturn, 0, 0, 0, [])]
def cd_M_placeOf : List gx_T := [(0, .aload_n 0, 0, 0, 0, []),
  (1, .iload_n 1, 1, 0, 0, []),
  (2, .invokevirtual 65, 90, 2, 3, [549]),
  (5, .istore_n 3, 3, 0, 0, []),
  (6, .iload_n 2, 2, 0, 0, []),
  (7, .istore 4, 4, 0, 0, []),
  (9, .iconst 0, 0, 0, 0, []),
  (10, .istore 5, 5, 0, 0, []),
  (12, .iload 5, 5, 0, 0, []),
  (14, .aload_n 0, 0, 0, 0, []),
  (15, .getfield 23, 3, 7, 1, [469]),
  (18, .iload_n 1, 1, 0, 0, []),
  (19, .iaload, 0, 0, 0, []),
  (20, .if_icmp .ge 74, 57, 0, 0, []),
  (23, .aload_n 0, 0, 0, 0, []),
  (24, .getfield 26, 3, 8, 1, [470]),
  (27, .bipush 6, 6, 0, 0, []),
  (29, .iload_n 1, 1, 0, 0, []),
  (30, .imul, 0, 0, 0, []),
  (31, .iload 5, 5, 0, 0, []),
  (33, .iadd, 0, 0, 0, []),
  (34, .iaload, 0, 0, 0, []),
  (35, .istore 6, 6, 0, 0, []),
  (37, .aload_n 0, 0, 0, 0, []),
  (38, .getfield 29, 3, 9, 1, [471]),
  (41, .bipush 6, 6, 0, 0, []),
  (43, .iload_n 1, 1, 0, 0, []),
  (44, .imul, 0, 0, 0, []),
  (45, .iload 5, 5, 0, 0, []),
  (47, .iadd, 0, 0, 0, []),
  (48, .iaload, 0, 0, 0, []),
  (49, .istore 7, 7, 0, 0, []),
  (51, .iload_n 3, 3, 0, 0, []),
  (52, .iload 6, 6, 0, 0, []),
  (54, .invokestatic 61, 89, 2, 0, [553]),
  (57, .istore_n 3, 3, 0, 0, []),
  (58, .iload 4, 4, 0, 0, []),
  (60, .iload 7, 7, 0, 0, []),
  (62, .if_icmp .ge 11, 45, 0, 0, []),
  (65, .iload_n 3, 3, 0, 0, []),
  (66, .iload 4, 4, 0, 0, []),
  (68, .iload 6, 6, 0, 0, []),
  (70, .imul, 0, 0, 0, []),
  (71, .iadd, 0, 0, 0, []),
  (72, .ireturn, 0, 0, 0, []),
  (73, .iload 4, 4, 0, 0, []),
  (75, .iload 7, 7, 0, 0, []),
  (77, .isub, 0, 0, 0, []),
  (78, .istore 4, 4, 0, 0, []),
  (80, .iload_n 3, 3, 0, 0, []),
  (81, .iload 7, 7, 0, 0, []),
  (83, .iload 6, 6, 0, 0, []),
  (85, .imul, 0, 0, 0, []),
  (86, .iadd, 0, 0, 0, []),
  (87, .istore_n 3, 3, 0, 0, []),
  (88, .iinc 5 1, 5, 1, 0, []),
  (91, .goto (-79), 8, 0, 0, []),
  (94, .iload_n 3, 3, 0, 0, []),
  (95, .ireturn, 0, 0, 0, [])]
def cd_M_widthOf : List gx_T := [(0, .iload_n 2, 2, 0, 0, []),
  (1, .istore_n 3, 3, 0, 0, []),
  (2, .iconst 0, 0, 0, 0, []),
  (3, .istore 4, 4, 0, 0, []),
  (5, .iload 4, 4, 0, 0, []),
  (7, .aload_n 0, 0, 0, 0, []),
  (8, .getfield 23, 3, 7, 1, [469]),
  (11, .iload_n 1, 1, 0, 0, []),
  (12, .iaload, 0, 0, 0, []),
  (13, .if_icmp .ge 53, 42, 0, 0, []),
  (16, .iload_n 3, 3, 0, 0, []),
  (17, .aload_n 0, 0, 0, 0, []),
  (18, .getfield 29, 3, 9, 1, [471]),
  (21, .bipush 6, 6, 0, 0, []),
  (23, .iload_n 1, 1, 0, 0, []),
  (24, .imul, 0, 0, 0, []),
  (25, .iload 4, 4, 0, 0, []),
  (27, .iadd, 0, 0, 0, []),
  (28, .iaload, 0, 0, 0, []),
  (29, .if_icmp .ge 16, 29, 0, 0, []),
  (32, .aload_n 0, 0, 0, 0, []),
  (33, .getfield 26, 3, 8, 1, [470]),
  (36, .bipush 6, 6, 0, 0, []),
  (38, .iload_n 1, 1, 0, 0, []),
  (39, .imul, 0, 0, 0, []),
  (40, .iload 4, 4, 0, 0, []),
  (42, .iadd, 0, 0, 0, []),
  (43, .iaload, 0, 0, 0, []),
  (44, .ireturn, 0, 0, 0, []),
  (45, .iload_n 3, 3, 0, 0, []),
  (46, .aload_n 0, 0, 0, 0, []),
  (47, .getfield 29, 3, 9, 1, [471]),
  (50, .bipush 6, 6, 0, 0, []),
  (52, .iload_n 1, 1, 0, 0, []),
  (53, .imul, 0, 0, 0, []),
  (54, .iload 4, 4, 0, 0, []),
  (56, .iadd, 0, 0, 0, []),
  (57, .iaload, 0, 0, 0, []),
  (58, .isub, 0, 0, 0, []),
  (59, .istore_n 3, 3, 0, 0, []),
  (60, .iinc 4 1, 4, 1, 0, []),
  (63, .goto (-58), 4, 0, 0, []),
  (66, .iconst 0, 0, 0, 0, []),
  (67, .ireturn, 0, 0, 0, [])]
def cd_M_lengthOf : List gx_T := [(0, .aload_n 0, 0, 0, 0, []),
  (1, .iload_n 1, 1, 0, 0, []),
  (2, .aload_n 0, 0, 0, 0, []),
  (3, .iload_n 1, 1, 0, 0, []),
  (4, .invokevirtual 69, 91, 2, 3, [537]),
  (7, .invokevirtual 72, 92, 3, 3, [545]),
  (10, .iconst 4, 4, 0, 0, []),
  (11, .invokestatic 61, 89, 2, 0, [553]),
  (14, .ireturn, 0, 0, 0, [])]
def cd_M_told : List gx_T := [(0, .iload_n 1, 1, 0, 0, []),
  (1, .invokestatic 50, 84, 1, 0, [512]),
  (4, .ifCond .eq 15, 9, 0, 0, []),
  (7, .iload_n 2, 2, 0, 0, []),
  (8, .i2l, 0, 0, 0, []),
  (9, .lconst 0, 0, 0, 0, []),
  (10, .ldc2_w 75, 4, 0, 0, [536]),
  (13, .invokestatic 46, 80, 3, 1, [516]),
  (16, .ifCond .ne 5, 11, 0, 0, []),
  (19, .iconst (-1), 1, 1, 0, []),
  (20, .ireturn, 0, 0, 0, []),
  (21, .iload_n 2, 2, 0, 0, []),
  (22, .tableswitch 56 0 3 #[30, 37, 44, 50], 31, 0, 30, [13, 18, 23, 27]),
  (52, .aload_n 0, 0, 0, 0, []),
  (53, .getfield 20, 3, 6, 1, [468]),
  (56, .iload_n 1, 1, 0, 0, []),
  (57, .iaload, 0, 0, 0, []),
  (58, .ireturn, 0, 0, 0, []),
  (59, .aload_n 0, 0, 0, 0, []),
  (60, .getfield 23, 3, 7, 1, [469]),
  (63, .iload_n 1, 1, 0, 0, []),
  (64, .iaload, 0, 0, 0, []),
  (65, .ireturn, 0, 0, 0, []),
  (66, .aload_n 0, 0, 0, 0, []),
  (67, .iload_n 1, 1, 0, 0, []),
  (68, .invokevirtual 69, 91, 2, 3, [537]),
  (71, .ireturn, 0, 0, 0, []),
  (72, .aload_n 0, 0, 0, 0, []),
  (73, .iload_n 1, 1, 0, 0, []),
  (74, .invokevirtual 77, 94, 2, 3, [541]),
  (77, .ireturn, 0, 0, 0, []),
  (78, .aload_n 0, 0, 0, 0, []),
  (79, .iload_n 1, 1, 0, 0, []),
  (80, .invokevirtual 65, 90, 2, 3, [549]),
  (83, .ireturn, 0, 0, 0, [])]
def cd_M_local : List gx_T := [(0, .iload_n 1, 1, 0, 0, []),
  (1, .invokestatic 50, 84, 1, 0, [512]),
  (4, .ifCond .eq 35, 23, 0, 0, []),
  (7, .iload_n 2, 2, 0, 0, []),
  (8, .i2l, 0, 0, 0, []),
  (9, .lconst 0, 0, 0, 0, []),
  (10, .aload_n 0, 0, 0, 0, []),
  (11, .iload_n 1, 1, 0, 0, []),
  (12, .invokevirtual 69, 91, 2, 3, [537]),
  (15, .iconst 1, 1, 0, 0, []),
  (16, .isub, 0, 0, 0, []),
  (17, .i2l, 0, 0, 0, []),
  (18, .invokestatic 46, 80, 3, 1, [516]),
  (21, .ifCond .eq 18, 23, 0, 0, []),
  (24, .aload_n 0, 0, 0, 0, []),
  (25, .iload_n 1, 1, 0, 0, []),
  (26, .iload_n 2, 2, 0, 0, []),
  (27, .invokevirtual 72, 92, 3, 3, [545]),
  (30, .aload_n 0, 0, 0, 0, []),
  (31, .iload_n 1, 1, 0, 0, []),
  (32, .invokevirtual 65, 90, 2, 3, [549]),
  (35, .isub, 0, 0, 0, []),
  (36, .goto 4, 24, 0, 0, []),
  (39, .iconst (-1), 1, 1, 0, []),
  (40, .ireturn, 0, 0, 0, [])]
def cd_M_hasFrame : List gx_T := [(0, .aload_n 0, 0, 0, 0, []),
  (1, .getfield 13, 3, 3, 0, [465]),
  (4, .ifCond .lt 7, 5, 0, 0, []),
  (7, .iconst 1, 1, 0, 0, []),
  (8, .goto 4, 6, 0, 0, []),
  (11, .iconst 0, 0, 0, 0, []),
  (12, .ireturn, 0, 1, 0, [])]
def cd_M_base : List gx_T := [(0, .aload_n 0, 0, 0, 0, []),
  (1, .getfield 13, 3, 3, 0, [465]),
  (4, .aload_n 0, 0, 0, 0, []),
  (5, .aload_n 0, 0, 0, 0, []),
  (6, .getfield 13, 3, 3, 0, [465]),
  (9, .iconst 4, 4, 0, 0, []),
  (10, .invokevirtual 80, 82, 3, 3, [579]),
  (13, .iadd, 0, 0, 0, []),
  (14, .istore_n 1, 1, 0, 0, []),
  (15, .iconst 0, 0, 0, 0, []),
  (16, .istore_n 2, 2, 0, 0, []),
  (17, .iload_n 2, 2, 0, 0, []),
  (18, .aload_n 0, 0, 0, 0, []),
  (19, .getfield 83, 3, 12, 0, [474]),
  (22, .if_icmp .ge 33, 31, 0, 0, []),
  (25, .aload_n 0, 0, 0, 0, []),
  (26, .getfield 35, 3, 11, 1, [473]),
  (29, .iload_n 2, 2, 0, 0, []),
  (30, .iaload, 0, 0, 0, []),
  (31, .aload_n 0, 0, 0, 0, []),
  (32, .getfield 13, 3, 3, 0, [465]),
  (35, .if_icmp .le 12, 27, 0, 0, []),
  (38, .aload_n 0, 0, 0, 0, []),
  (39, .getfield 35, 3, 11, 1, [473]),
  (42, .iload_n 2, 2, 0, 0, []),
  (43, .iaload, 0, 0, 0, []),
  (44, .goto 4, 28, 0, 0, []),
  (47, .iload_n 1, 1, 0, 0, []),
  (48, .istore_n 1, 1, 0, 0, []),
  (49, .iinc 2 1, 2, 1, 0, []),
  (52, .goto (-35), 11, 0, 0, []),
  (55, .iload_n 1, 1, 0, 0, []),
  (56, .ireturn, 0, 0, 0, [])]
def cd_M_values : List gx_T := [(0, .aload_n 0, 0, 0, 0, []),
  (1, .getfield 86, 3, 2, 0, [464]),
  (4, .aload_n 0, 0, 0, 0, []),
  (5, .invokevirtual 89, 98, 1, 3, [575]),
  (8, .isub, 0, 0, 0, []),
  (9, .iconst 4, 4, 0, 0, []),
  (10, .idiv, 0, 0, 0, []),
  (11, .ireturn, 0, 0, 0, [])]
def cd_M_lengthAt : List gx_T := [(0, .aload_n 0, 0, 0, 0, []),
  (1, .iload_n 1, 1, 0, 0, []),
  (2, .iconst 4, 4, 0, 0, []),
  (3, .invokevirtual 80, 82, 3, 3, [579]),
  (6, .ireturn, 0, 0, 0, [])]
def cd_M_localsAt : List gx_T := [(0, .aload_n 0, 0, 0, 0, []),
  (1, .iload_n 1, 1, 0, 0, []),
  (2, .iconst 4, 4, 0, 0, []),
  (3, .iadd, 0, 0, 0, []),
  (4, .iconst 4, 4, 0, 0, []),
  (5, .invokevirtual 80, 82, 3, 3, [579]),
  (8, .ireturn, 0, 0, 0, [])]
def cd_M_isPlace : List gx_T := [(0, .iload_n 0, 0, 0, 0, []),
  (1, .ifCond .lt 12, 7, 0, 0, []),
  (4, .iload_n 0, 0, 0, 0, []),
  (5, .iload_n 1, 1, 0, 0, []),
  (6, .if_icmp .gt 7, 7, 0, 0, []),
  (9, .iconst 1, 1, 0, 0, []),
  (10, .goto 4, 8, 0, 0, []),
  (13, .iconst 0, 0, 0, 0, []),
  (14, .ireturn, 0, 1, 0, [])]
def cd_M_canGo : List gx_T := [(0, .iload_n 1, 1, 0, 0, []),
  (1, .tableswitch 83 0 3 #[31, 33, 43, 73], 34, 0, 31, [2, 4, 10, 28]),
  (32, .iconst 1, 1, 0, 0, []),
  (33, .ireturn, 0, 1, 0, []),
  (34, .iload_n 2, 2, 0, 0, []),
  (35, .i2l, 0, 0, 0, []),
  (36, .lconst 0, 0, 0, 0, []),
  (37, .ldc2_w 93, 15, 0, 0, [587]),
  (40, .invokestatic 46, 80, 3, 1, [516]),
  (43, .ireturn, 0, 1, 0, []),
  (44, .iload_n 3, 3, 0, 0, []),
  (45, .ifCond .lt 27, 26, 0, 0, []),
  (48, .iload_n 2, 2, 0, 0, []),
  (49, .aload_n 0, 0, 0, 0, []),
  (50, .iload_n 3, 3, 0, 0, []),
  (51, .invokevirtual 95, 100, 2, 3, [588]),
  (54, .aload_n 0, 0, 0, 0, []),
  (55, .iload_n 3, 3, 0, 0, []),
  (56, .invokevirtual 98, 101, 2, 3, [592]),
  (59, .isub, 0, 0, 0, []),
  (60, .iconst 4, 4, 0, 0, []),
  (61, .isub, 0, 0, 0, []),
  (62, .invokestatic 101, 102, 2, 0, [596]),
  (65, .ifCond .eq 7, 26, 0, 0, []),
  (68, .iconst 1, 1, 0, 0, []),
  (69, .goto 4, 27, 0, 0, []),
  (72, .iconst 0, 0, 0, 0, []),
  (73, .ireturn, 0, 1, 0, []),
  (74, .iload_n 3, 3, 0, 0, []),
  (75, .ifCond .lt 7, 32, 0, 0, []),
  (78, .iconst 1, 1, 0, 0, []),
  (79, .goto 4, 33, 0, 0, []),
  (82, .iconst 0, 0, 0, 0, []),
  (83, .ireturn, 0, 1, 0, []),
  (84, .iconst 0, 0, 0, 0, []),
  (85, .ireturn, 0, 1, 0, [])]
def cd_M_pushes : List gx_T := [(0, .aload_n 0, 0, 0, 0, []),
  (1, .aload_n 0, 0, 0, 0, []),
  (2, .getfield 86, 3, 2, 0, [464]),
  (5, .iconst 4, 4, 0, 0, []),
  (6, .iload_n 1, 1, 0, 0, []),
  (7, .invokevirtual 105, 83, 4, 3, [611]),
  (10, .aload_n 0, 0, 0, 0, []),
  (11, .dup, 0, 0, 0, []),
  (12, .getfield 86, 3, 2, 0, [464]),
  (15, .iconst 4, 4, 0, 0, []),
  (16, .iadd, 0, 0, 0, []),
  (17, .putfield 86, 3, 2, 0, [464]),
  (20, .return_, 0, 0, 0, [])]
def cd_M_go : List gx_T := [(0, .iload_n 1, 1, 0, 0, []),
  (1, .iconst 1, 1, 0, 0, []),
  (2, .if_icmp .ne 13, 9, 0, 0, []),
  (5, .aload_n 0, 0, 0, 0, []),
  (6, .getfield 17, 3, 5, 1, [467]),
  (9, .iload_n 2, 2, 0, 0, []),
  (10, .iload_n 3, 3, 0, 0, []),
  (11, .iastore, 0, 0, 0, []),
  (12, .goto 42, 32, 0, 0, []),
  (15, .iload_n 1, 1, 0, 0, []),
  (16, .iconst 2, 2, 0, 0, []),
  (17, .if_icmp .ne 27, 26, 0, 0, []),
  (20, .aload_n 0, 0, 0, 0, []),
  (21, .aload_n 0, 0, 0, 0, []),
  (22, .getfield 13, 3, 3, 0, [465]),
  (25, .aload_n 0, 0, 0, 0, []),
  (26, .aload_n 0, 0, 0, 0, []),
  (27, .getfield 13, 3, 3, 0, [465]),
  (30, .invokevirtual 98, 101, 2, 3, [592]),
  (33, .iadd, 0, 0, 0, []),
  (34, .iload_n 2, 2, 0, 0, []),
  (35, .iadd, 0, 0, 0, []),
  (36, .iconst 4, 4, 0, 0, []),
  (37, .iload_n 3, 3, 0, 0, []),
  (38, .invokevirtual 105, 83, 4, 3, [611]),
  (41, .goto 13, 32, 0, 0, []),
  (44, .iload_n 1, 1, 0, 0, []),
  (45, .iconst 3, 3, 0, 0, []),
  (46, .if_icmp .ne 8, 32, 0, 0, []),
  (49, .aload_n 0, 0, 0, 0, []),
  (50, .iload_n 3, 3, 0, 0, []),
  (51, .invokevirtual 109, 104, 2, 3, [615]),
  (54, .return_, 0, 0, 0, [])]
def cd_M_stub : List gx_T := [(0, .aload_n 0, 0, 0, 0, []),
  (1, .iload_n 1, 1, 0, 0, []),
  (2, .invokevirtual 109, 104, 2, 3, [615]),
  (5, .aload_n 0, 0, 0, 0, []),
  (6, .iload_n 2, 2, 0, 0, []),
  (7, .invokevirtual 109, 104, 2, 3, [615]),
  (10, .aload_n 0, 0, 0, 0, []),
  (11, .iload_n 3, 3, 0, 0, []),
  (12, .invokevirtual 109, 104, 2, 3, [615]),
  (15, .aload_n 0, 0, 0, 0, []),
  (16, .aload_n 0, 0, 0, 0, []),
  (17, .getfield 13, 3, 3, 0, [465]),
  (20, .invokevirtual 109, 104, 2, 3, [615]),
  (23, .return_, 0, 0, 0, [])]
def cd_M_forget : List gx_T := [(0, .aload_n 0, 0, 0, 0, []),
  (1, .getfield 83, 3, 12, 0, [474]),
  (4, .ifCond .le 31, 19, 0, 0, []),
  (7, .aload_n 0, 0, 0, 0, []),
  (8, .getfield 35, 3, 11, 1, [473]),
  (11, .aload_n 0, 0, 0, 0, []),
  (12, .getfield 83, 3, 12, 0, [474]),
  (15, .iconst 1, 1, 0, 0, []),
  (16, .isub, 0, 0, 0, []),
  (17, .iaload, 0, 0, 0, []),
  (18, .iload_n 1, 1, 0, 0, []),
  (19, .if_icmp .lt 16, 19, 0, 0, []),
  (22, .aload_n 0, 0, 0, 0, []),
  (23, .dup, 0, 0, 0, []),
  (24, .getfield 83, 3, 12, 0, [474]),
  (27, .iconst 1, 1, 0, 0, []),
  (28, .isub, 0, 0, 0, []),
  (29, .putfield 83, 3, 12, 0, [474]),
  (32, .goto (-32), 0, 0, 0, []),
  (35, .return_, 0, 0, 0, [])]
def cd_M_result : List gx_T := [(0, .iload_n 1, 1, 0, 0, []),
  (1, .iconst 2, 2, 0, 0, []),
  (2, .if_icmp .ne 16, 10, 0, 0, []),
  (5, .iload_n 2, 2, 0, 0, []),
  (6, .ifCond .le 12, 10, 0, 0, []),
  (9, .aload_n 0, 0, 0, 0, []),
  (10, .getfield 38, 3, 14, 1, [476]),
  (13, .iconst 0, 0, 0, 0, []),
  (14, .iaload, 0, 0, 0, []),
  (15, .goto 4, 11, 0, 0, []),
  (18, .iconst 0, 0, 0, 0, []),
  (19, .istore_n 3, 3, 0, 0, []),
  (20, .iload_n 1, 1, 0, 0, []),
  (21, .iconst 2, 2, 0, 0, []),
  (22, .if_icmp .ne 7, 17, 0, 0, []),
  (25, .iconst 1, 1, 0, 0, []),
  (26, .goto 4, 18, 0, 0, []),
  (29, .iconst 0, 0, 0, 0, []),
  (30, .istore 4, 4, 0, 0, []),
  (32, .iload 4, 4, 0, 0, []),
  (34, .iload_n 2, 2, 0, 0, []),
  (35, .if_icmp .ge 61, 55, 0, 0, []),
  (38, .iload_n 1, 1, 0, 0, []),
  (39, .iconst 1, 1, 0, 0, []),
  (40, .if_icmp .ne 15, 32, 0, 0, []),
  (43, .iload_n 3, 3, 0, 0, []),
  (44, .aload_n 0, 0, 0, 0, []),
  (45, .getfield 38, 3, 14, 1, [476]),
  (48, .iload 4, 4, 0, 0, []),
  (50, .iaload, 0, 0, 0, []),
  (51, .iadd, 0, 0, 0, []),
  (52, .goto 37, 52, 0, 0, []),
  (55, .iload_n 1, 1, 0, 0, []),
  (56, .iconst 2, 2, 0, 0, []),
  (57, .if_icmp .ne 15, 42, 0, 0, []),
  (60, .iload_n 3, 3, 0, 0, []),
  (61, .aload_n 0, 0, 0, 0, []),
  (62, .getfield 38, 3, 14, 1, [476]),
  (65, .iload 4, 4, 0, 0, []),
  (67, .iaload, 0, 0, 0, []),
  (68, .isub, 0, 0, 0, []),
  (69, .goto 20, 52, 0, 0, []),
  (72, .aload_n 0, 0, 0, 0, []),
  (73, .getfield 38, 3, 14, 1, [476]),
  (76, .iload 4, 4, 0, 0, []),
  (78, .iaload, 0, 0, 0, []),
  (79, .ifCond .le 9, 51, 0, 0, []),
  (82, .iload_n 3, 3, 0, 0, []),
  (83, .iconst 1, 1, 0, 0, []),
  (84, .iadd, 0, 0, 0, []),
  (85, .goto 4, 52, 0, 0, []),
  (88, .iload_n 3, 3, 0, 0, []),
  (89, .istore_n 3, 3, 0, 0, []),
  (90, .iinc 4 1, 4, 1, 0, []),
  (93, .goto (-61), 19, 0, 0, []),
  (96, .iload_n 3, 3, 0, 0, []),
  (97, .ireturn, 0, 0, 0, [])]
def cd_M_take : List gx_T := [(0, .iconst 0, 0, 0, 0, []),
  (1, .istore_n 2, 2, 0, 0, []),
  (2, .iload_n 2, 2, 0, 0, []),
  (3, .iload_n 1, 1, 0, 0, []),
  (4, .if_icmp .ge 30, 22, 0, 0, []),
  (7, .aload_n 0, 0, 0, 0, []),
  (8, .getfield 38, 3, 14, 1, [476]),
  (11, .iload_n 2, 2, 0, 0, []),
  (12, .aload_n 0, 0, 0, 0, []),
  (13, .aload_n 0, 0, 0, 0, []),
  (14, .getfield 86, 3, 2, 0, [464]),
  (17, .iconst 4, 4, 0, 0, []),
  (18, .isub, 0, 0, 0, []),
  (19, .iconst 4, 4, 0, 0, []),
  (20, .iload_n 2, 2, 0, 0, []),
  (21, .imul, 0, 0, 0, []),
  (22, .isub, 0, 0, 0, []),
  (23, .iconst 4, 4, 0, 0, []),
  (24, .invokevirtual 80, 82, 3, 3, [579]),
  (27, .iastore, 0, 0, 0, []),
  (28, .iinc 2 1, 2, 1, 0, []),
  (31, .goto (-29), 2, 0, 0, []),
  (34, .return_, 0, 0, 0, [])]
def cd_M_room : List gx_T := [(0, .aload_n 0, 0, 0, 0, []),
  (1, .iload_n 1, 1, 0, 0, []),
  (2, .invokevirtual 77, 94, 2, 3, [541]),
  (5, .aload_n 0, 0, 0, 0, []),
  (6, .getfield 20, 3, 6, 1, [468]),
  (9, .iload_n 1, 1, 0, 0, []),
  (10, .iaload, 0, 0, 0, []),
  (11, .sipush 192, 192, 0, 0, []),
  (14, .if_icmp .ne 11, 15, 0, 0, []),
  (17, .iconst 4, 4, 0, 0, []),
  (18, .iload_n 2, 2, 0, 0, []),
  (19, .iconst 1, 1, 0, 0, []),
  (20, .iadd, 0, 0, 0, []),
  (21, .imul, 0, 0, 0, []),
  (22, .goto 4, 16, 0, 0, []),
  (25, .iconst 0, 0, 0, 0, []),
  (26, .iadd, 0, 0, 0, []),
  (27, .ireturn, 0, 0, 0, [])]
def cd_M_enter : List gx_T := [(0, .aload_n 0, 0, 0, 0, []),
  (1, .iload_n 1, 1, 0, 0, []),
  (2, .invokevirtual 77, 94, 2, 3, [541]),
  (5, .istore_n 3, 3, 0, 0, []),
  (6, .aload_n 0, 0, 0, 0, []),
  (7, .iload_n 1, 1, 0, 0, []),
  (8, .invokevirtual 65, 90, 2, 3, [549]),
  (11, .istore 4, 4, 0, 0, []),
  (13, .aload_n 0, 0, 0, 0, []),
  (14, .aload_n 0, 0, 0, 0, []),
  (15, .getfield 86, 3, 2, 0, [464]),
  (18, .putfield 13, 3, 3, 0, [465]),
  (21, .iconst 0, 0, 0, 0, []),
  (22, .istore 5, 5, 0, 0, []),
  (24, .iload 5, 5, 0, 0, []),
  (26, .iload_n 3, 3, 0, 0, []),
  (27, .if_icmp .ge 22, 27, 0, 0, []),
  (30, .aload_n 0, 0, 0, 0, []),
  (31, .getfield 7, 3, 1, 1, [463]),
  (34, .aload_n 0, 0, 0, 0, []),
  (35, .getfield 13, 3, 3, 0, [465]),
  (38, .iload 5, 5, 0, 0, []),
  (40, .iadd, 0, 0, 0, []),
  (41, .iconst 0, 0, 0, 0, []),
  (42, .iastore, 0, 0, 0, []),
  (43, .iinc 5 1, 5, 1, 0, []),
  (46, .goto (-22), 14, 0, 0, []),
  (49, .aload_n 0, 0, 0, 0, []),
  (50, .aload_n 0, 0, 0, 0, []),
  (51, .getfield 13, 3, 3, 0, [465]),
  (54, .iconst 4, 4, 0, 0, []),
  (55, .iload_n 3, 3, 0, 0, []),
  (56, .invokevirtual 105, 83, 4, 3, [611]),
  (59, .aload_n 0, 0, 0, 0, []),
  (60, .aload_n 0, 0, 0, 0, []),
  (61, .getfield 13, 3, 3, 0, [465]),
  (64, .iconst 4, 4, 0, 0, []),
  (65, .iadd, 0, 0, 0, []),
  (66, .iconst 4, 4, 0, 0, []),
  (67, .iload 4, 4, 0, 0, []),
  (69, .invokevirtual 105, 83, 4, 3, [611]),
  (72, .iconst 0, 0, 0, 0, []),
  (73, .istore 5, 5, 0, 0, []),
  (75, .iload 5, 5, 0, 0, []),
  (77, .aload_n 0, 0, 0, 0, []),
  (78, .getfield 23, 3, 7, 1, [469]),
  (81, .iload_n 1, 1, 0, 0, []),
  (82, .iaload, 0, 0, 0, []),
  (83, .if_icmp .ge 67, 89, 0, 0, []),
  (86, .aload_n 0, 0, 0, 0, []),
  (87, .getfield 7, 3, 1, 1, [463]),
  (90, .aload_n 0, 0, 0, 0, []),
  (91, .getfield 13, 3, 3, 0, [465]),
  (94, .bipush 8, 8, 0, 0, []),
  (96, .iadd, 0, 0, 0, []),
  (97, .iconst 2, 2, 0, 0, []),
  (98, .iload 5, 5, 0, 0, []),
  (100, .imul, 0, 0, 0, []),
  (101, .iadd, 0, 0, 0, []),
  (102, .aload_n 0, 0, 0, 0, []),
  (103, .getfield 26, 3, 8, 1, [470]),
  (106, .bipush 6, 6, 0, 0, []),
  (108, .iload_n 1, 1, 0, 0, []),
  (109, .imul, 0, 0, 0, []),
  (110, .iload 5, 5, 0, 0, []),
  (112, .iadd, 0, 0, 0, []),
  (113, .iaload, 0, 0, 0, []),
  (114, .iastore, 0, 0, 0, []),
  (115, .aload_n 0, 0, 0, 0, []),
  (116, .getfield 7, 3, 1, 1, [463]),
  (119, .aload_n 0, 0, 0, 0, []),
  (120, .getfield 13, 3, 3, 0, [465]),
  (123, .bipush 9, 9, 0, 0, []),
  (125, .iadd, 0, 0, 0, []),
  (126, .iconst 2, 2, 0, 0, []),
  (127, .iload 5, 5, 0, 0, []),
  (129, .imul, 0, 0, 0, []),
  (130, .iadd, 0, 0, 0, []),
  (131, .aload_n 0, 0, 0, 0, []),
  (132, .getfield 29, 3, 9, 1, [471]),
  (135, .bipush 6, 6, 0, 0, []),
  (137, .iload_n 1, 1, 0, 0, []),
  (138, .imul, 0, 0, 0, []),
  (139, .iload 5, 5, 0, 0, []),
  (141, .iadd, 0, 0, 0, []),
  (142, .iaload, 0, 0, 0, []),
  (143, .iastore, 0, 0, 0, []),
  (144, .iinc 5 1, 5, 1, 0, []),
  (147, .goto (-72), 43, 0, 0, []),
  (150, .aload_n 0, 0, 0, 0, []),
  (151, .aload_n 0, 0, 0, 0, []),
  (152, .getfield 13, 3, 3, 0, [465]),
  (155, .iload_n 3, 3, 0, 0, []),
  (156, .iadd, 0, 0, 0, []),
  (157, .putfield 86, 3, 2, 0, [464]),
  (160, .aload_n 0, 0, 0, 0, []),
  (161, .getfield 20, 3, 6, 1, [468]),
  (164, .iload_n 1, 1, 0, 0, []),
  (165, .iaload, 0, 0, 0, []),
  (166, .sipush 193, 193, 0, 0, []),
  (169, .if_icmp .ne 63, 133, 0, 0, []),
  (172, .aload_n 0, 0, 0, 0, []),
  (173, .iload_n 1, 1, 0, 0, []),
  (174, .invokevirtual 69, 91, 2, 3, [537]),
  (177, .istore 5, 5, 0, 0, []),
  (179, .iconst 0, 0, 0, 0, []),
  (180, .istore 6, 6, 0, 0, []),
  (182, .iload 6, 6, 0, 0, []),
  (184, .iload_n 2, 2, 0, 0, []),
  (185, .if_icmp .ge 46, 132, 0, 0, []),
  (188, .iload 6, 6, 0, 0, []),
  (190, .iload 5, 5, 0, 0, []),
  (192, .if_icmp .ge 39, 132, 0, 0, []),
  (195, .aload_n 0, 0, 0, 0, []),
  (196, .aload_n 0, 0, 0, 0, []),
  (197, .getfield 13, 3, 3, 0, [465]),
  (200, .aload_n 0, 0, 0, 0, []),
  (201, .iload_n 1, 1, 0, 0, []),
  (202, .iload 6, 6, 0, 0, []),
  (204, .invokevirtual 72, 92, 3, 3, [545]),
  (207, .iadd, 0, 0, 0, []),
  (208, .aload_n 0, 0, 0, 0, []),
  (209, .iload_n 1, 1, 0, 0, []),
  (210, .iload 6, 6, 0, 0, []),
  (212, .invokevirtual 113, 93, 3, 3, [635]),
  (215, .aload_n 0, 0, 0, 0, []),
  (216, .getfield 38, 3, 14, 1, [476]),
  (219, .iload 6, 6, 0, 0, []),
  (221, .iaload, 0, 0, 0, []),
  (222, .invokevirtual 105, 83, 4, 3, [611]),
  (225, .iinc 6 1, 6, 1, 0, []),
  (228, .goto (-46), 107, 0, 0, []),
  (231, .return_, 0, 0, 0, []),
  (232, .iload_n 2, 2, 0, 0, []),
  (233, .iconst 1, 1, 0, 0, []),
  (234, .isub, 0, 0, 0, []),
  (235, .istore 5, 5, 0, 0, []),
  (237, .iload 5, 5, 0, 0, []),
  (239, .ifCond .lt 20, 147, 0, 0, []),
  (242, .aload_n 0, 0, 0, 0, []),
  (243, .aload_n 0, 0, 0, 0, []),
  (244, .getfield 38, 3, 14, 1, [476]),
  (247, .iload 5, 5, 0, 0, []),
  (249, .iaload, 0, 0, 0, []),
  (250, .invokevirtual 109, 104, 2, 3, [615]),
  (253, .iinc 5 (-1), 5, 1, 1, []),
  (256, .goto (-19), 137, 0, 0, []),
  (259, .aload_n 0, 0, 0, 0, []),
  (260, .iload_n 2, 2, 0, 0, []),
  (261, .invokevirtual 109, 104, 2, 3, [615]),
  (264, .return_, 0, 0, 0, [])]
def cd_M_hasHead : List gx_T := [(0, .aload_n 0, 0, 0, 0, []),
  (1, .getfield 20, 3, 6, 1, [468]),
  (4, .iload_n 1, 1, 0, 0, []),
  (5, .iaload, 0, 0, 0, []),
  (6, .sipush 192, 192, 0, 0, []),
  (9, .if_icmp .eq 15, 12, 0, 0, []),
  (12, .aload_n 0, 0, 0, 0, []),
  (13, .getfield 20, 3, 6, 1, [468]),
  (16, .iload_n 1, 1, 0, 0, []),
  (17, .iaload, 0, 0, 0, []),
  (18, .sipush 193, 193, 0, 0, []),
  (21, .if_icmp .ne 7, 14, 0, 0, []),
  (24, .iconst 1, 1, 0, 0, []),
  (25, .goto 4, 15, 0, 0, []),
  (28, .iconst 0, 0, 0, 0, []),
  (29, .ireturn, 0, 1, 0, [])]
def cd_M_call : List gx_T := [(0, .iload_n 1, 1, 0, 0, []),
  (1, .invokestatic 50, 84, 1, 0, [512]),
  (4, .ifCond .eq 19, 11, 0, 0, []),
  (7, .iload_n 2, 2, 0, 0, []),
  (8, .ifCond .lt 15, 11, 0, 0, []),
  (11, .iload_n 3, 3, 0, 0, []),
  (12, .i2l, 0, 0, 0, []),
  (13, .lconst 0, 0, 0, 0, []),
  (14, .ldc2_w 59, 3, 0, 0, [531]),
  (17, .invokestatic 46, 80, 3, 1, [516]),
  (20, .ifCond .ne 5, 13, 0, 0, []),
  (23, .iconst (-1), 1, 1, 0, []),
  (24, .ireturn, 0, 0, 0, []),
  (25, .iload_n 2, 2, 0, 0, []),
  (26, .ifCond .le 16, 21, 0, 0, []),
  (29, .aload_n 0, 0, 0, 0, []),
  (30, .invokevirtual 116, 97, 1, 3, [564]),
  (33, .ifCond .ne 9, 21, 0, 0, []),
  (36, .bipush 6, 6, 0, 0, []),
  (38, .invokestatic 120, 81, 1, 0, [568]),
  (41, .ireturn, 0, 0, 0, []),
  (42, .iload_n 2, 2, 0, 0, []),
  (43, .ifCond .le 16, 30, 0, 0, []),
  (46, .iload_n 2, 2, 0, 0, []),
  (47, .aload_n 0, 0, 0, 0, []),
  (48, .invokevirtual 123, 99, 1, 3, [571]),
  (51, .if_icmp .le 8, 30, 0, 0, []),
  (54, .iconst 2, 2, 0, 0, []),
  (55, .invokestatic 120, 81, 1, 0, [568]),
  (58, .ireturn, 0, 0, 0, []),
  (59, .aload_n 0, 0, 0, 0, []),
  (60, .getfield 32, 3, 10, 1, [472]),
  (63, .iload_n 1, 1, 0, 0, []),
  (64, .iaload, 0, 0, 0, []),
  (65, .ifCond .le 86, 86, 0, 0, []),
  (68, .aload_n 0, 0, 0, 0, []),
  (69, .iload_n 3, 3, 0, 0, []),
  (70, .iload 4, 4, 0, 0, []),
  (72, .aload_n 0, 0, 0, 0, []),
  (73, .getfield 13, 3, 3, 0, [465]),
  (76, .invokevirtual 126, 103, 4, 3, [583]),
  (79, .ifCond .ne 8, 45, 0, 0, []),
  (82, .iconst 3, 3, 0, 0, []),
  (83, .invokestatic 120, 81, 1, 0, [568]),
  (86, .ireturn, 0, 0, 0, []),
  (87, .iload_n 3, 3, 0, 0, []),
  (88, .iconst 3, 3, 0, 0, []),
  (89, .if_icmp .ne 25, 62, 0, 0, []),
  (92, .aload_n 0, 0, 0, 0, []),
  (93, .getfield 86, 3, 2, 0, [464]),
  (96, .iconst 4, 4, 0, 0, []),
  (97, .iload_n 2, 2, 0, 0, []),
  (98, .imul, 0, 0, 0, []),
  (99, .isub, 0, 0, 0, []),
  (100, .iconst 4, 4, 0, 0, []),
  (101, .iadd, 0, 0, 0, []),
  (102, .aload_n 0, 0, 0, 0, []),
  (103, .getfield 41, 3, 0, 0, [462]),
  (106, .if_icmp .le 8, 62, 0, 0, []),
  (109, .iconst 5, 5, 0, 0, []),
  (110, .invokestatic 120, 81, 1, 0, [568]),
  (113, .ireturn, 0, 0, 0, []),
  (114, .aload_n 0, 0, 0, 0, []),
  (115, .iload_n 2, 2, 0, 0, []),
  (116, .invokevirtual 130, 109, 2, 3, [599]),
  (119, .aload_n 0, 0, 0, 0, []),
  (120, .dup, 0, 0, 0, []),
  (121, .getfield 86, 3, 2, 0, [464]),
  (124, .iconst 4, 4, 0, 0, []),
  (125, .iload_n 2, 2, 0, 0, []),
  (126, .imul, 0, 0, 0, []),
  (127, .isub, 0, 0, 0, []),
  (128, .putfield 86, 3, 2, 0, [464]),
  (131, .aload_n 0, 0, 0, 0, []),
  (132, .iload_n 3, 3, 0, 0, []),
  (133, .iload 4, 4, 0, 0, []),
  (135, .aload_n 0, 0, 0, 0, []),
  (136, .aload_n 0, 0, 0, 0, []),
  (137, .getfield 32, 3, 10, 1, [472]),
  (140, .iload_n 1, 1, 0, 0, []),
  (141, .iaload, 0, 0, 0, []),
  (142, .iload_n 2, 2, 0, 0, []),
  (143, .invokevirtual 133, 108, 3, 3, [603]),
  (146, .invokevirtual 136, 105, 4, 3, [607]),
  (149, .iconst 1, 1, 0, 0, []),
  (150, .ireturn, 0, 0, 0, []),
  (151, .aload_n 0, 0, 0, 0, []),
  (152, .iload_n 1, 1, 0, 0, []),
  (153, .invokevirtual 139, 112, 2, 3, [619]),
  (156, .ifCond .ne 8, 93, 0, 0, []),
  (159, .iconst 1, 1, 0, 0, []),
  (160, .invokestatic 120, 81, 1, 0, [568]),
  (163, .ireturn, 0, 0, 0, []),
  (164, .aload_n 0, 0, 0, 0, []),
  (165, .getfield 86, 3, 2, 0, [464]),
  (168, .iconst 4, 4, 0, 0, []),
  (169, .iload_n 2, 2, 0, 0, []),
  (170, .imul, 0, 0, 0, []),
  (171, .isub, 0, 0, 0, []),
  (172, .bipush 16, 16, 0, 0, []),
  (174, .iadd, 0, 0, 0, []),
  (175, .aload_n 0, 0, 0, 0, []),
  (176, .iload_n 1, 1, 0, 0, []),
  (177, .iload_n 2, 2, 0, 0, []),
  (178, .invokevirtual 142, 110, 3, 3, [623]),
  (181, .iadd, 0, 0, 0, []),
  (182, .aload_n 0, 0, 0, 0, []),
  (183, .getfield 41, 3, 0, 0, [462]),
  (186, .if_icmp .le 8, 112, 0, 0, []),
  (189, .iconst 5, 5, 0, 0, []),
  (190, .invokestatic 120, 81, 1, 0, [568]),
  (193, .ireturn, 0, 0, 0, []),
  (194, .aload_n 0, 0, 0, 0, []),
  (195, .iload_n 2, 2, 0, 0, []),
  (196, .invokevirtual 130, 109, 2, 3, [599]),
  (199, .aload_n 0, 0, 0, 0, []),
  (200, .dup, 0, 0, 0, []),
  (201, .getfield 86, 3, 2, 0, [464]),
  (204, .iconst 4, 4, 0, 0, []),
  (205, .iload_n 2, 2, 0, 0, []),
  (206, .imul, 0, 0, 0, []),
  (207, .isub, 0, 0, 0, []),
  (208, .putfield 86, 3, 2, 0, [464]),
  (211, .aload_n 0, 0, 0, 0, []),
  (212, .iload_n 3, 3, 0, 0, []),
  (213, .iload 4, 4, 0, 0, []),
  (215, .iload 5, 5, 0, 0, []),
  (217, .invokevirtual 145, 106, 4, 3, [627]),
  (220, .aload_n 0, 0, 0, 0, []),
  (221, .iload_n 1, 1, 0, 0, []),
  (222, .iload_n 2, 2, 0, 0, []),
  (223, .invokevirtual 148, 111, 3, 3, [631]),
  (226, .aload_n 0, 0, 0, 0, []),
  (227, .getfield 13, 3, 3, 0, [465]),
  (230, .ireturn, 0, 0, 0, [])]
def cd_M_canLeave : List gx_T := [(0, .aload_n 0, 0, 0, 0, []),
  (1, .aload_n 0, 0, 0, 0, []),
  (2, .aload_n 0, 0, 0, 0, []),
  (3, .getfield 13, 3, 3, 0, [465]),
  (6, .bipush 16, 16, 0, 0, []),
  (8, .isub, 0, 0, 0, []),
  (9, .iconst 4, 4, 0, 0, []),
  (10, .invokevirtual 80, 82, 3, 3, [579]),
  (13, .aload_n 0, 0, 0, 0, []),
  (14, .aload_n 0, 0, 0, 0, []),
  (15, .getfield 13, 3, 3, 0, [465]),
  (18, .bipush 12, 12, 0, 0, []),
  (20, .isub, 0, 0, 0, []),
  (21, .iconst 4, 4, 0, 0, []),
  (22, .invokevirtual 80, 82, 3, 3, [579]),
  (25, .aload_n 0, 0, 0, 0, []),
  (26, .aload_n 0, 0, 0, 0, []),
  (27, .getfield 13, 3, 3, 0, [465]),
  (30, .iconst 4, 4, 0, 0, []),
  (31, .isub, 0, 0, 0, []),
  (32, .iconst 4, 4, 0, 0, []),
  (33, .invokevirtual 80, 82, 3, 3, [579]),
  (36, .invokevirtual 126, 103, 4, 3, [583]),
  (39, .ireturn, 0, 1, 0, [])]
def cd_M_leaves : List gx_T := [(0, .aload_n 0, 0, 0, 0, []),
  (1, .getfield 13, 3, 3, 0, [465]),
  (4, .bipush 16, 16, 0, 0, []),
  (6, .isub, 0, 0, 0, []),
  (7, .istore_n 2, 2, 0, 0, []),
  (8, .aload_n 0, 0, 0, 0, []),
  (9, .aload_n 0, 0, 0, 0, []),
  (10, .getfield 13, 3, 3, 0, [465]),
  (13, .invokevirtual 152, 107, 2, 3, [651]),
  (16, .aload_n 0, 0, 0, 0, []),
  (17, .iload_n 2, 2, 0, 0, []),
  (18, .putfield 86, 3, 2, 0, [464]),
  (21, .aload_n 0, 0, 0, 0, []),
  (22, .aload_n 0, 0, 0, 0, []),
  (23, .iload_n 2, 2, 0, 0, []),
  (24, .bipush 8, 8, 0, 0, []),
  (26, .iadd, 0, 0, 0, []),
  (27, .iconst 4, 4, 0, 0, []),
  (28, .invokevirtual 80, 82, 3, 3, [579]),
  (31, .putfield 155, 3, 4, 0, [466]),
  (34, .aload_n 0, 0, 0, 0, []),
  (35, .aload_n 0, 0, 0, 0, []),
  (36, .iload_n 2, 2, 0, 0, []),
  (37, .bipush 12, 12, 0, 0, []),
  (39, .iadd, 0, 0, 0, []),
  (40, .iconst 4, 4, 0, 0, []),
  (41, .invokevirtual 80, 82, 3, 3, [579]),
  (44, .putfield 13, 3, 3, 0, [465]),
  (47, .aload_n 0, 0, 0, 0, []),
  (48, .aload_n 0, 0, 0, 0, []),
  (49, .iload_n 2, 2, 0, 0, []),
  (50, .iconst 4, 4, 0, 0, []),
  (51, .invokevirtual 80, 82, 3, 3, [579]),
  (54, .aload_n 0, 0, 0, 0, []),
  (55, .iload_n 2, 2, 0, 0, []),
  (56, .iconst 4, 4, 0, 0, []),
  (57, .iadd, 0, 0, 0, []),
  (58, .iconst 4, 4, 0, 0, []),
  (59, .invokevirtual 80, 82, 3, 3, [579]),
  (62, .iload_n 1, 1, 0, 0, []),
  (63, .invokevirtual 136, 105, 4, 3, [607]),
  (66, .aload_n 0, 0, 0, 0, []),
  (67, .getfield 13, 3, 3, 0, [465]),
  (70, .ireturn, 0, 0, 0, [])]
def cd_M_leave : List gx_T := [(0, .aload_n 0, 0, 0, 0, []),
  (1, .invokevirtual 116, 97, 1, 3, [564]),
  (4, .ifCond .ne 9, 6, 0, 0, []),
  (7, .bipush 6, 6, 0, 0, []),
  (9, .invokestatic 120, 81, 1, 0, [568]),
  (12, .ireturn, 0, 0, 0, []),
  (13, .aload_n 0, 0, 0, 0, []),
  (14, .invokevirtual 158, 114, 1, 3, [643]),
  (17, .ifCond .eq 11, 13, 0, 0, []),
  (20, .aload_n 0, 0, 0, 0, []),
  (21, .iload_n 1, 1, 0, 0, []),
  (22, .invokevirtual 161, 115, 2, 3, [647]),
  (25, .goto 7, 15, 0, 0, []),
  (28, .iconst 3, 3, 0, 0, []),
  (29, .invokestatic 120, 81, 1, 0, [568]),
  (32, .ireturn, 0, 0, 0, [])]
def cd_M_caught : List gx_T := [(0, .iload_n 1, 1, 0, 0, []),
  (1, .i2l, 0, 0, 0, []),
  (2, .lconst 0, 0, 0, 0, []),
  (3, .ldc2_w 59, 3, 0, 0, [531]),
  (6, .invokestatic 46, 80, 3, 1, [516]),
  (9, .ifCond .ne 5, 8, 0, 0, []),
  (12, .iconst (-1), 1, 1, 0, []),
  (13, .ireturn, 0, 0, 0, []),
  (14, .aload_n 0, 0, 0, 0, []),
  (15, .invokevirtual 116, 97, 1, 3, [564]),
  (18, .ifCond .ne 9, 14, 0, 0, []),
  (21, .bipush 6, 6, 0, 0, []),
  (23, .invokestatic 120, 81, 1, 0, [568]),
  (26, .ireturn, 0, 0, 0, []),
  (27, .aload_n 0, 0, 0, 0, []),
  (28, .iload_n 1, 1, 0, 0, []),
  (29, .iload_n 2, 2, 0, 0, []),
  (30, .aload_n 0, 0, 0, 0, []),
  (31, .getfield 13, 3, 3, 0, [465]),
  (34, .invokevirtual 126, 103, 4, 3, [583]),
  (37, .ifCond .ne 8, 24, 0, 0, []),
  (40, .iconst 3, 3, 0, 0, []),
  (41, .invokestatic 120, 81, 1, 0, [568]),
  (44, .ireturn, 0, 0, 0, []),
  (45, .aload_n 0, 0, 0, 0, []),
  (46, .getfield 86, 3, 2, 0, [464]),
  (49, .bipush 16, 16, 0, 0, []),
  (51, .iadd, 0, 0, 0, []),
  (52, .iload_n 1, 1, 0, 0, []),
  (53, .iconst 3, 3, 0, 0, []),
  (54, .if_icmp .ne 7, 33, 0, 0, []),
  (57, .iconst 4, 4, 0, 0, []),
  (58, .goto 4, 34, 0, 0, []),
  (61, .iconst 0, 0, 0, 0, []),
  (62, .iadd, 0, 0, 0, []),
  (63, .aload_n 0, 0, 0, 0, []),
  (64, .getfield 41, 3, 0, 0, [462]),
  (67, .if_icmp .le 8, 41, 0, 0, []),
  (70, .iconst 5, 5, 0, 0, []),
  (71, .invokestatic 120, 81, 1, 0, [568]),
  (74, .ireturn, 0, 0, 0, []),
  (75, .aload_n 0, 0, 0, 0, []),
  (76, .iload_n 1, 1, 0, 0, []),
  (77, .iload_n 2, 2, 0, 0, []),
  (78, .iload_n 3, 3, 0, 0, []),
  (79, .invokevirtual 145, 106, 4, 3, [627]),
  (82, .aload_n 0, 0, 0, 0, []),
  (83, .getfield 86, 3, 2, 0, [464]),
  (86, .istore 4, 4, 0, 0, []),
  (88, .aload_n 0, 0, 0, 0, []),
  (89, .getfield 35, 3, 11, 1, [473]),
  (92, .aload_n 0, 0, 0, 0, []),
  (93, .getfield 83, 3, 12, 0, [474]),
  (96, .iload 4, 4, 0, 0, []),
  (98, .iastore, 0, 0, 0, []),
  (99, .aload_n 0, 0, 0, 0, []),
  (100, .dup, 0, 0, 0, []),
  (101, .getfield 83, 3, 12, 0, [474]),
  (104, .iconst 1, 1, 0, 0, []),
  (105, .iadd, 0, 0, 0, []),
  (106, .putfield 83, 3, 12, 0, [474]),
  (109, .aload_n 0, 0, 0, 0, []),
  (110, .iload_n 1, 1, 0, 0, []),
  (111, .iload_n 2, 2, 0, 0, []),
  (112, .iload 4, 4, 0, 0, []),
  (114, .invokevirtual 136, 105, 4, 3, [607]),
  (117, .iload 4, 4, 0, 0, []),
  (119, .ireturn, 0, 0, 0, [])]
def cd_M_thrown : List gx_T := [(0, .iconst 0, 0, 0, 0, []),
  (1, .istore_n 3, 3, 0, 0, []),
  (2, .iconst 0, 0, 0, 0, []),
  (3, .istore 4, 4, 0, 0, []),
  (5, .iload 4, 4, 0, 0, []),
  (7, .aload_n 0, 0, 0, 0, []),
  (8, .getfield 83, 3, 12, 0, [474]),
  (11, .if_icmp .ge 30, 22, 0, 0, []),
  (14, .iload_n 3, 3, 0, 0, []),
  (15, .ifCond .ne 14, 16, 0, 0, []),
  (18, .aload_n 0, 0, 0, 0, []),
  (19, .getfield 35, 3, 11, 1, [473]),
  (22, .iload 4, 4, 0, 0, []),
  (24, .iaload, 0, 0, 0, []),
  (25, .iload_n 1, 1, 0, 0, []),
  (26, .if_icmp .ne 7, 18, 0, 0, []),
  (29, .iconst 1, 1, 0, 0, []),
  (30, .goto 4, 19, 0, 0, []),
  (33, .iconst 0, 0, 0, 0, []),
  (34, .istore_n 3, 3, 0, 0, []),
  (35, .iinc 4 1, 4, 1, 0, []),
  (38, .goto (-33), 4, 0, 0, []),
  (41, .iload_n 3, 3, 0, 0, []),
  (42, .ifCond .ne 8, 27, 0, 0, []),
  (45, .iconst 4, 4, 0, 0, []),
  (46, .invokestatic 120, 81, 1, 0, [568]),
  (49, .ireturn, 0, 0, 0, []),
  (50, .iload_n 1, 1, 0, 0, []),
  (51, .bipush 16, 16, 0, 0, []),
  (53, .isub, 0, 0, 0, []),
  (54, .istore 4, 4, 0, 0, []),
  (56, .aload_n 0, 0, 0, 0, []),
  (57, .iload 4, 4, 0, 0, []),
  (59, .iconst 4, 4, 0, 0, []),
  (60, .invokevirtual 80, 82, 3, 3, [579]),
  (63, .istore 5, 5, 0, 0, []),
  (65, .aload_n 0, 0, 0, 0, []),
  (66, .iload 4, 4, 0, 0, []),
  (68, .iconst 4, 4, 0, 0, []),
  (69, .iadd, 0, 0, 0, []),
  (70, .iconst 4, 4, 0, 0, []),
  (71, .invokevirtual 80, 82, 3, 3, [579]),
  (74, .istore 6, 6, 0, 0, []),
  (76, .aload_n 0, 0, 0, 0, []),
  (77, .iload 4, 4, 0, 0, []),
  (79, .bipush 12, 12, 0, 0, []),
  (81, .iadd, 0, 0, 0, []),
  (82, .iconst 4, 4, 0, 0, []),
  (83, .invokevirtual 80, 82, 3, 3, [579]),
  (86, .istore 7, 7, 0, 0, []),
  (88, .aload_n 0, 0, 0, 0, []),
  (89, .iload 5, 5, 0, 0, []),
  (91, .iload 6, 6, 0, 0, []),
  (93, .iload 7, 7, 0, 0, []),
  (95, .invokevirtual 126, 103, 4, 3, [583]),
  (98, .ifCond .ne 8, 59, 0, 0, []),
  (101, .iconst 3, 3, 0, 0, []),
  (102, .invokestatic 120, 81, 1, 0, [568]),
  (105, .ireturn, 0, 0, 0, []),
  (106, .aload_n 0, 0, 0, 0, []),
  (107, .iload_n 1, 1, 0, 0, []),
  (108, .invokevirtual 152, 107, 2, 3, [651]),
  (111, .aload_n 0, 0, 0, 0, []),
  (112, .iload 4, 4, 0, 0, []),
  (114, .putfield 86, 3, 2, 0, [464]),
  (117, .aload_n 0, 0, 0, 0, []),
  (118, .aload_n 0, 0, 0, 0, []),
  (119, .iload 4, 4, 0, 0, []),
  (121, .bipush 8, 8, 0, 0, []),
  (123, .iadd, 0, 0, 0, []),
  (124, .iconst 4, 4, 0, 0, []),
  (125, .invokevirtual 80, 82, 3, 3, [579]),
  (128, .putfield 155, 3, 4, 0, [466]),
  (131, .aload_n 0, 0, 0, 0, []),
  (132, .iload 7, 7, 0, 0, []),
  (134, .putfield 13, 3, 3, 0, [465]),
  (137, .aload_n 0, 0, 0, 0, []),
  (138, .iload 5, 5, 0, 0, []),
  (140, .iload 6, 6, 0, 0, []),
  (142, .iload_n 2, 2, 0, 0, []),
  (143, .invokevirtual 136, 105, 4, 3, [607]),
  (146, .aload_n 0, 0, 0, 0, []),
  (147, .getfield 13, 3, 3, 0, [465]),
  (150, .ireturn, 0, 0, 0, [])]
def cd_M_tail : List gx_T := [(0, .iload_n 1, 1, 0, 0, []),
  (1, .invokestatic 50, 84, 1, 0, [512]),
  (4, .ifCond .eq 7, 5, 0, 0, []),
  (7, .iload_n 2, 2, 0, 0, []),
  (8, .ifCond .ge 5, 7, 0, 0, []),
  (11, .iconst (-1), 1, 1, 0, []),
  (12, .ireturn, 0, 0, 0, []),
  (13, .aload_n 0, 0, 0, 0, []),
  (14, .invokevirtual 116, 97, 1, 3, [564]),
  (17, .ifCond .ne 9, 13, 0, 0, []),
  (20, .bipush 6, 6, 0, 0, []),
  (22, .invokestatic 120, 81, 1, 0, [568]),
  (25, .ireturn, 0, 0, 0, []),
  (26, .iload_n 2, 2, 0, 0, []),
  (27, .aload_n 0, 0, 0, 0, []),
  (28, .invokevirtual 123, 99, 1, 3, [571]),
  (31, .if_icmp .le 8, 20, 0, 0, []),
  (34, .iconst 2, 2, 0, 0, []),
  (35, .invokestatic 120, 81, 1, 0, [568]),
  (38, .ireturn, 0, 0, 0, []),
  (39, .aload_n 0, 0, 0, 0, []),
  (40, .getfield 32, 3, 10, 1, [472]),
  (43, .iload_n 1, 1, 0, 0, []),
  (44, .iaload, 0, 0, 0, []),
  (45, .ifCond .le 36, 44, 0, 0, []),
  (48, .aload_n 0, 0, 0, 0, []),
  (49, .invokevirtual 158, 114, 1, 3, [643]),
  (52, .ifCond .ne 8, 31, 0, 0, []),
  (55, .iconst 3, 3, 0, 0, []),
  (56, .invokestatic 120, 81, 1, 0, [568]),
  (59, .ireturn, 0, 0, 0, []),
  (60, .aload_n 0, 0, 0, 0, []),
  (61, .iload_n 2, 2, 0, 0, []),
  (62, .invokevirtual 130, 109, 2, 3, [599]),
  (65, .aload_n 0, 0, 0, 0, []),
  (66, .aload_n 0, 0, 0, 0, []),
  (67, .aload_n 0, 0, 0, 0, []),
  (68, .getfield 32, 3, 10, 1, [472]),
  (71, .iload_n 1, 1, 0, 0, []),
  (72, .iaload, 0, 0, 0, []),
  (73, .iload_n 2, 2, 0, 0, []),
  (74, .invokevirtual 133, 108, 3, 3, [603]),
  (77, .invokevirtual 161, 115, 2, 3, [647]),
  (80, .ireturn, 0, 0, 0, []),
  (81, .aload_n 0, 0, 0, 0, []),
  (82, .iload_n 1, 1, 0, 0, []),
  (83, .invokevirtual 139, 112, 2, 3, [619]),
  (86, .ifCond .ne 8, 51, 0, 0, []),
  (89, .iconst 1, 1, 0, 0, []),
  (90, .invokestatic 120, 81, 1, 0, [568]),
  (93, .ireturn, 0, 0, 0, []),
  (94, .aload_n 0, 0, 0, 0, []),
  (95, .getfield 13, 3, 3, 0, [465]),
  (98, .aload_n 0, 0, 0, 0, []),
  (99, .iload_n 1, 1, 0, 0, []),
  (100, .iload_n 2, 2, 0, 0, []),
  (101, .invokevirtual 142, 110, 3, 3, [623]),
  (104, .iadd, 0, 0, 0, []),
  (105, .aload_n 0, 0, 0, 0, []),
  (106, .getfield 41, 3, 0, 0, [462]),
  (109, .if_icmp .le 8, 64, 0, 0, []),
  (112, .iconst 5, 5, 0, 0, []),
  (113, .invokestatic 120, 81, 1, 0, [568]),
  (116, .ireturn, 0, 0, 0, []),
  (117, .aload_n 0, 0, 0, 0, []),
  (118, .iload_n 2, 2, 0, 0, []),
  (119, .invokevirtual 130, 109, 2, 3, [599]),
  (122, .aload_n 0, 0, 0, 0, []),
  (123, .aload_n 0, 0, 0, 0, []),
  (124, .getfield 13, 3, 3, 0, [465]),
  (127, .invokevirtual 152, 107, 2, 3, [651]),
  (130, .aload_n 0, 0, 0, 0, []),
  (131, .aload_n 0, 0, 0, 0, []),
  (132, .getfield 13, 3, 3, 0, [465]),
  (135, .putfield 86, 3, 2, 0, [464]),
  (138, .aload_n 0, 0, 0, 0, []),
  (139, .iload_n 1, 1, 0, 0, []),
  (140, .iload_n 2, 2, 0, 0, []),
  (141, .invokevirtual 148, 111, 3, 3, [631]),
  (144, .aload_n 0, 0, 0, 0, []),
  (145, .getfield 13, 3, 3, 0, [465]),
  (148, .ireturn, 0, 0, 0, [])]
def cd_M_push : List gx_T := [(0, .aload_n 0, 0, 0, 0, []),
  (1, .invokevirtual 116, 97, 1, 3, [564]),
  (4, .ifCond .ne 9, 6, 0, 0, []),
  (7, .bipush 6, 6, 0, 0, []),
  (9, .invokestatic 120, 81, 1, 0, [568]),
  (12, .ireturn, 0, 0, 0, []),
  (13, .aload_n 0, 0, 0, 0, []),
  (14, .getfield 86, 3, 2, 0, [464]),
  (17, .iconst 4, 4, 0, 0, []),
  (18, .iadd, 0, 0, 0, []),
  (19, .aload_n 0, 0, 0, 0, []),
  (20, .getfield 41, 3, 0, 0, [462]),
  (23, .if_icmp .le 8, 16, 0, 0, []),
  (26, .iconst 5, 5, 0, 0, []),
  (27, .invokestatic 120, 81, 1, 0, [568]),
  (30, .ireturn, 0, 0, 0, []),
  (31, .aload_n 0, 0, 0, 0, []),
  (32, .iload_n 1, 1, 0, 0, []),
  (33, .invokevirtual 109, 104, 2, 3, [615]),
  (36, .aload_n 0, 0, 0, 0, []),
  (37, .invokevirtual 123, 99, 1, 3, [571]),
  (40, .ireturn, 0, 0, 0, [])]
def cd_M_pop : List gx_T := [(0, .aload_n 0, 0, 0, 0, []),
  (1, .invokevirtual 116, 97, 1, 3, [564]),
  (4, .ifCond .ne 9, 6, 0, 0, []),
  (7, .bipush 6, 6, 0, 0, []),
  (9, .invokestatic 120, 81, 1, 0, [568]),
  (12, .ireturn, 0, 0, 0, []),
  (13, .aload_n 0, 0, 0, 0, []),
  (14, .invokevirtual 123, 99, 1, 3, [571]),
  (17, .ifCond .ne 8, 12, 0, 0, []),
  (20, .iconst 2, 2, 0, 0, []),
  (21, .invokestatic 120, 81, 1, 0, [568]),
  (24, .ireturn, 0, 0, 0, []),
  (25, .aload_n 0, 0, 0, 0, []),
  (26, .dup, 0, 0, 0, []),
  (27, .getfield 86, 3, 2, 0, [464]),
  (30, .iconst 4, 4, 0, 0, []),
  (31, .isub, 0, 0, 0, []),
  (32, .putfield 86, 3, 2, 0, [464]),
  (35, .aload_n 0, 0, 0, 0, []),
  (36, .aload_n 0, 0, 0, 0, []),
  (37, .aload_n 0, 0, 0, 0, []),
  (38, .getfield 86, 3, 2, 0, [464]),
  (41, .iconst 4, 4, 0, 0, []),
  (42, .invokevirtual 80, 82, 3, 3, [579]),
  (45, .putfield 164, 3, 13, 0, [475]),
  (48, .aload_n 0, 0, 0, 0, []),
  (49, .invokevirtual 123, 99, 1, 3, [571]),
  (52, .ireturn, 0, 0, 0, [])]
def cd_M_popped : List gx_T := [(0, .aload_n 0, 0, 0, 0, []),
  (1, .getfield 164, 3, 13, 0, [475]),
  (4, .ireturn, 0, 0, 0, [])]
def cd_M_peek : List gx_T := [(0, .aload_n 0, 0, 0, 0, []),
  (1, .invokevirtual 116, 97, 1, 3, [564]),
  (4, .ifCond .ne 9, 6, 0, 0, []),
  (7, .bipush 6, 6, 0, 0, []),
  (9, .invokestatic 120, 81, 1, 0, [568]),
  (12, .ireturn, 0, 0, 0, []),
  (13, .iload_n 1, 1, 0, 0, []),
  (14, .i2l, 0, 0, 0, []),
  (15, .lconst 0, 0, 0, 0, []),
  (16, .aload_n 0, 0, 0, 0, []),
  (17, .invokevirtual 123, 99, 1, 3, [571]),
  (20, .iconst 1, 1, 0, 0, []),
  (21, .isub, 0, 0, 0, []),
  (22, .i2l, 0, 0, 0, []),
  (23, .invokestatic 46, 80, 3, 1, [516]),
  (26, .ifCond .ne 8, 19, 0, 0, []),
  (29, .iconst 2, 2, 0, 0, []),
  (30, .invokestatic 120, 81, 1, 0, [568]),
  (33, .ireturn, 0, 0, 0, []),
  (34, .aload_n 0, 0, 0, 0, []),
  (35, .aload_n 0, 0, 0, 0, []),
  (36, .aload_n 0, 0, 0, 0, []),
  (37, .getfield 86, 3, 2, 0, [464]),
  (40, .iconst 4, 4, 0, 0, []),
  (41, .isub, 0, 0, 0, []),
  (42, .iconst 4, 4, 0, 0, []),
  (43, .iload_n 1, 1, 0, 0, []),
  (44, .imul, 0, 0, 0, []),
  (45, .isub, 0, 0, 0, []),
  (46, .iconst 4, 4, 0, 0, []),
  (47, .invokevirtual 80, 82, 3, 3, [579]),
  (50, .putfield 164, 3, 13, 0, [475]),
  (53, .iconst 1, 1, 0, 0, []),
  (54, .ireturn, 0, 0, 0, [])]
def cd_M_copy : List gx_T := [(0, .iload_n 1, 1, 0, 0, []),
  (1, .ifCond .ge 5, 4, 0, 0, []),
  (4, .iconst (-1), 1, 1, 0, []),
  (5, .ireturn, 0, 0, 0, []),
  (6, .aload_n 0, 0, 0, 0, []),
  (7, .invokevirtual 116, 97, 1, 3, [564]),
  (10, .ifCond .ne 9, 10, 0, 0, []),
  (13, .bipush 6, 6, 0, 0, []),
  (15, .invokestatic 120, 81, 1, 0, [568]),
  (18, .ireturn, 0, 0, 0, []),
  (19, .iload_n 1, 1, 0, 0, []),
  (20, .aload_n 0, 0, 0, 0, []),
  (21, .invokevirtual 123, 99, 1, 3, [571]),
  (24, .if_icmp .le 8, 17, 0, 0, []),
  (27, .iconst 2, 2, 0, 0, []),
  (28, .invokestatic 120, 81, 1, 0, [568]),
  (31, .ireturn, 0, 0, 0, []),
  (32, .aload_n 0, 0, 0, 0, []),
  (33, .getfield 86, 3, 2, 0, [464]),
  (36, .iconst 4, 4, 0, 0, []),
  (37, .iload_n 1, 1, 0, 0, []),
  (38, .imul, 0, 0, 0, []),
  (39, .iadd, 0, 0, 0, []),
  (40, .aload_n 0, 0, 0, 0, []),
  (41, .getfield 41, 3, 0, 0, [462]),
  (44, .if_icmp .le 8, 29, 0, 0, []),
  (47, .iconst 5, 5, 0, 0, []),
  (48, .invokestatic 120, 81, 1, 0, [568]),
  (51, .ireturn, 0, 0, 0, []),
  (52, .aload_n 0, 0, 0, 0, []),
  (53, .getfield 86, 3, 2, 0, [464]),
  (56, .iconst 4, 4, 0, 0, []),
  (57, .iload_n 1, 1, 0, 0, []),
  (58, .imul, 0, 0, 0, []),
  (59, .isub, 0, 0, 0, []),
  (60, .istore_n 2, 2, 0, 0, []),
  (61, .iconst 0, 0, 0, 0, []),
  (62, .istore_n 3, 3, 0, 0, []),
  (63, .iload_n 3, 3, 0, 0, []),
  (64, .iload_n 1, 1, 0, 0, []),
  (65, .if_icmp .ge 23, 53, 0, 0, []),
  (68, .aload_n 0, 0, 0, 0, []),
  (69, .aload_n 0, 0, 0, 0, []),
  (70, .iload_n 2, 2, 0, 0, []),
  (71, .iconst 4, 4, 0, 0, []),
  (72, .iload_n 3, 3, 0, 0, []),
  (73, .imul, 0, 0, 0, []),
  (74, .iadd, 0, 0, 0, []),
  (75, .iconst 4, 4, 0, 0, []),
  (76, .invokevirtual 80, 82, 3, 3, [579]),
  (79, .invokevirtual 109, 104, 2, 3, [615]),
  (82, .iinc 3 1, 3, 1, 0, []),
  (85, .goto (-22), 38, 0, 0, []),
  (88, .aload_n 0, 0, 0, 0, []),
  (89, .invokevirtual 123, 99, 1, 3, [571]),
  (92, .ireturn, 0, 0, 0, [])]
def cd_M_roll : List gx_T := [(0, .iload_n 1, 1, 0, 0, []),
  (1, .ifCond .ge 5, 4, 0, 0, []),
  (4, .iconst (-1), 1, 1, 0, []),
  (5, .ireturn, 0, 0, 0, []),
  (6, .aload_n 0, 0, 0, 0, []),
  (7, .invokevirtual 116, 97, 1, 3, [564]),
  (10, .ifCond .ne 9, 10, 0, 0, []),
  (13, .bipush 6, 6, 0, 0, []),
  (15, .invokestatic 120, 81, 1, 0, [568]),
  (18, .ireturn, 0, 0, 0, []),
  (19, .iload_n 1, 1, 0, 0, []),
  (20, .aload_n 0, 0, 0, 0, []),
  (21, .invokevirtual 123, 99, 1, 3, [571]),
  (24, .if_icmp .le 8, 17, 0, 0, []),
  (27, .iconst 2, 2, 0, 0, []),
  (28, .invokestatic 120, 81, 1, 0, [568]),
  (31, .ireturn, 0, 0, 0, []),
  (32, .iload_n 1, 1, 0, 0, []),
  (33, .ifCond .ne 5, 21, 0, 0, []),
  (36, .iconst 1, 1, 0, 0, []),
  (37, .ireturn, 0, 0, 0, []),
  (38, .aload_n 0, 0, 0, 0, []),
  (39, .getfield 86, 3, 2, 0, [464]),
  (42, .iconst 4, 4, 0, 0, []),
  (43, .iload_n 1, 1, 0, 0, []),
  (44, .imul, 0, 0, 0, []),
  (45, .isub, 0, 0, 0, []),
  (46, .istore_n 3, 3, 0, 0, []),
  (47, .iconst 0, 0, 0, 0, []),
  (48, .istore 4, 4, 0, 0, []),
  (50, .iload 4, 4, 0, 0, []),
  (52, .iload_n 1, 1, 0, 0, []),
  (53, .if_icmp .ge 27, 47, 0, 0, []),
  (56, .aload_n 0, 0, 0, 0, []),
  (57, .getfield 38, 3, 14, 1, [476]),
  (60, .iload 4, 4, 0, 0, []),
  (62, .aload_n 0, 0, 0, 0, []),
  (63, .iload_n 3, 3, 0, 0, []),
  (64, .iconst 4, 4, 0, 0, []),
  (65, .iload 4, 4, 0, 0, []),
  (67, .imul, 0, 0, 0, []),
  (68, .iadd, 0, 0, 0, []),
  (69, .iconst 4, 4, 0, 0, []),
  (70, .invokevirtual 80, 82, 3, 3, [579]),
  (73, .iastore, 0, 0, 0, []),
  (74, .iinc 4 1, 4, 1, 0, []),
  (77, .goto (-27), 30, 0, 0, []),
  (80, .iload_n 2, 2, 0, 0, []),
  (81, .iload_n 1, 1, 0, 0, []),
  (82, .irem, 0, 0, 0, []),
  (83, .iload_n 1, 1, 0, 0, []),
  (84, .iadd, 0, 0, 0, []),
  (85, .iload_n 1, 1, 0, 0, []),
  (86, .irem, 0, 0, 0, []),
  (87, .istore 4, 4, 0, 0, []),
  (89, .iconst 0, 0, 0, 0, []),
  (90, .istore 5, 5, 0, 0, []),
  (92, .iload 5, 5, 0, 0, []),
  (94, .iload_n 1, 1, 0, 0, []),
  (95, .if_icmp .ge 32, 78, 0, 0, []),
  (98, .aload_n 0, 0, 0, 0, []),
  (99, .iload_n 3, 3, 0, 0, []),
  (100, .iconst 4, 4, 0, 0, []),
  (101, .iload 5, 5, 0, 0, []),
  (103, .iload 4, 4, 0, 0, []),
  (105, .iadd, 0, 0, 0, []),
  (106, .iload_n 1, 1, 0, 0, []),
  (107, .irem, 0, 0, 0, []),
  (108, .imul, 0, 0, 0, []),
  (109, .iadd, 0, 0, 0, []),
  (110, .iconst 4, 4, 0, 0, []),
  (111, .aload_n 0, 0, 0, 0, []),
  (112, .getfield 38, 3, 14, 1, [476]),
  (115, .iload 5, 5, 0, 0, []),
  (117, .iaload, 0, 0, 0, []),
  (118, .invokevirtual 105, 83, 4, 3, [611]),
  (121, .iinc 5 1, 5, 1, 0, []),
  (124, .goto (-32), 57, 0, 0, []),
  (127, .iconst 1, 1, 0, 0, []),
  (128, .ireturn, 0, 0, 0, [])]
def cd_M_swap : List gx_T := [(0, .aload_n 0, 0, 0, 0, []),
  (1, .invokevirtual 116, 97, 1, 3, [564]),
  (4, .ifCond .ne 9, 6, 0, 0, []),
  (7, .bipush 6, 6, 0, 0, []),
  (9, .invokestatic 120, 81, 1, 0, [568]),
  (12, .ireturn, 0, 0, 0, []),
  (13, .aload_n 0, 0, 0, 0, []),
  (14, .invokevirtual 123, 99, 1, 3, [571]),
  (17, .iconst 2, 2, 0, 0, []),
  (18, .if_icmp .ge 8, 13, 0, 0, []),
  (21, .iconst 2, 2, 0, 0, []),
  (22, .invokestatic 120, 81, 1, 0, [568]),
  (25, .ireturn, 0, 0, 0, []),
  (26, .aload_n 0, 0, 0, 0, []),
  (27, .aload_n 0, 0, 0, 0, []),
  (28, .getfield 86, 3, 2, 0, [464]),
  (31, .iconst 4, 4, 0, 0, []),
  (32, .isub, 0, 0, 0, []),
  (33, .iconst 4, 4, 0, 0, []),
  (34, .invokevirtual 80, 82, 3, 3, [579]),
  (37, .istore_n 1, 1, 0, 0, []),
  (38, .aload_n 0, 0, 0, 0, []),
  (39, .aload_n 0, 0, 0, 0, []),
  (40, .getfield 86, 3, 2, 0, [464]),
  (43, .iconst 4, 4, 0, 0, []),
  (44, .isub, 0, 0, 0, []),
  (45, .iconst 4, 4, 0, 0, []),
  (46, .aload_n 0, 0, 0, 0, []),
  (47, .aload_n 0, 0, 0, 0, []),
  (48, .getfield 86, 3, 2, 0, [464]),
  (51, .bipush 8, 8, 0, 0, []),
  (53, .isub, 0, 0, 0, []),
  (54, .iconst 4, 4, 0, 0, []),
  (55, .invokevirtual 80, 82, 3, 3, [579]),
  (58, .invokevirtual 105, 83, 4, 3, [611]),
  (61, .aload_n 0, 0, 0, 0, []),
  (62, .aload_n 0, 0, 0, 0, []),
  (63, .getfield 86, 3, 2, 0, [464]),
  (66, .bipush 8, 8, 0, 0, []),
  (68, .isub, 0, 0, 0, []),
  (69, .iconst 4, 4, 0, 0, []),
  (70, .iload_n 1, 1, 0, 0, []),
  (71, .invokevirtual 105, 83, 4, 3, [611]),
  (74, .iconst 1, 1, 0, 0, []),
  (75, .ireturn, 0, 0, 0, [])]
def cd_M_against : List gx_T := [(0, .iload_n 2, 2, 0, 0, []),
  (1, .invokestatic 56, 86, 1, 0, [524]),
  (4, .ifCond .ne 5, 5, 0, 0, []),
  (7, .iconst (-1), 1, 1, 0, []),
  (8, .ireturn, 0, 0, 0, []),
  (9, .aload_n 0, 0, 0, 0, []),
  (10, .invokevirtual 116, 97, 1, 3, [564]),
  (13, .ifCond .ne 9, 11, 0, 0, []),
  (16, .bipush 6, 6, 0, 0, []),
  (18, .invokestatic 120, 81, 1, 0, [568]),
  (21, .ireturn, 0, 0, 0, []),
  (22, .iload_n 1, 1, 0, 0, []),
  (23, .aload_n 0, 0, 0, 0, []),
  (24, .aload_n 0, 0, 0, 0, []),
  (25, .getfield 13, 3, 3, 0, [465]),
  (28, .invokevirtual 95, 100, 2, 3, [588]),
  (31, .aload_n 0, 0, 0, 0, []),
  (32, .aload_n 0, 0, 0, 0, []),
  (33, .getfield 13, 3, 3, 0, [465]),
  (36, .invokevirtual 98, 101, 2, 3, [592]),
  (39, .isub, 0, 0, 0, []),
  (40, .iload_n 2, 2, 0, 0, []),
  (41, .isub, 0, 0, 0, []),
  (42, .invokestatic 101, 102, 2, 0, [596]),
  (45, .ifCond .eq 7, 27, 0, 0, []),
  (48, .iconst 0, 0, 0, 0, []),
  (49, .goto 7, 29, 0, 0, []),
  (52, .iconst 3, 3, 0, 0, []),
  (53, .invokestatic 120, 81, 1, 0, [568]),
  (56, .ireturn, 0, 0, 0, [])]
def cd_M_load : List gx_T := [(0, .aload_n 0, 0, 0, 0, []),
  (1, .iload_n 1, 1, 0, 0, []),
  (2, .iload_n 2, 2, 0, 0, []),
  (3, .invokevirtual 167, 127, 3, 3, [699]),
  (6, .istore_n 3, 3, 0, 0, []),
  (7, .iload_n 3, 3, 0, 0, []),
  (8, .ifCond .eq 5, 9, 0, 0, []),
  (11, .iload_n 3, 3, 0, 0, []),
  (12, .ireturn, 0, 0, 0, []),
  (13, .aload_n 0, 0, 0, 0, []),
  (14, .aload_n 0, 0, 0, 0, []),
  (15, .aload_n 0, 0, 0, 0, []),
  (16, .getfield 13, 3, 3, 0, [465]),
  (19, .aload_n 0, 0, 0, 0, []),
  (20, .aload_n 0, 0, 0, 0, []),
  (21, .getfield 13, 3, 3, 0, [465]),
  (24, .invokevirtual 98, 101, 2, 3, [592]),
  (27, .iadd, 0, 0, 0, []),
  (28, .iload_n 1, 1, 0, 0, []),
  (29, .iadd, 0, 0, 0, []),
  (30, .iload_n 2, 2, 0, 0, []),
  (31, .invokevirtual 80, 82, 3, 3, [579]),
  (34, .putfield 164, 3, 13, 0, [475]),
  (37, .iconst 1, 1, 0, 0, []),
  (38, .ireturn, 0, 0, 0, [])]
def cd_M_store : List gx_T := [(0, .aload_n 0, 0, 0, 0, []),
  (1, .iload_n 1, 1, 0, 0, []),
  (2, .iload_n 2, 2, 0, 0, []),
  (3, .invokevirtual 167, 127, 3, 3, [699]),
  (6, .istore 4, 4, 0, 0, []),
  (8, .iload 4, 4, 0, 0, []),
  (10, .ifCond .eq 6, 9, 0, 0, []),
  (13, .iload 4, 4, 0, 0, []),
  (15, .ireturn, 0, 0, 0, []),
  (16, .aload_n 0, 0, 0, 0, []),
  (17, .aload_n 0, 0, 0, 0, []),
  (18, .getfield 13, 3, 3, 0, [465]),
  (21, .aload_n 0, 0, 0, 0, []),
  (22, .aload_n 0, 0, 0, 0, []),
  (23, .getfield 13, 3, 3, 0, [465]),
  (26, .invokevirtual 98, 101, 2, 3, [592]),
  (29, .iadd, 0, 0, 0, []),
  (30, .iload_n 1, 1, 0, 0, []),
  (31, .iadd, 0, 0, 0, []),
  (32, .iload_n 2, 2, 0, 0, []),
  (33, .iload_n 3, 3, 0, 0, []),
  (34, .invokevirtual 105, 83, 4, 3, [611]),
  (37, .iconst 1, 1, 0, 0, []),
  (38, .ireturn, 0, 0, 0, [])]
def cd_M_byteAt : List gx_T := [(0, .iload_n 1, 1, 0, 0, []),
  (1, .i2l, 0, 0, 0, []),
  (2, .lconst 0, 0, 0, 0, []),
  (3, .aload_n 0, 0, 0, 0, []),
  (4, .getfield 86, 3, 2, 0, [464]),
  (7, .iconst 1, 1, 0, 0, []),
  (8, .isub, 0, 0, 0, []),
  (9, .i2l, 0, 0, 0, []),
  (10, .invokestatic 46, 80, 3, 1, [516]),
  (13, .ifCond .eq 12, 15, 0, 0, []),
  (16, .aload_n 0, 0, 0, 0, []),
  (17, .getfield 7, 3, 1, 1, [463]),
  (20, .iload_n 1, 1, 0, 0, []),
  (21, .iaload, 0, 0, 0, []),
  (22, .goto 4, 16, 0, 0, []),
  (25, .iconst (-1), 1, 1, 0, []),
  (26, .ireturn, 0, 0, 0, [])]
def cd_M_cell : List gx_T := [(0, .iload_n 1, 1, 0, 0, []),
  (1, .i2l, 0, 0, 0, []),
  (2, .lconst 0, 0, 0, 0, []),
  (3, .ldc2_w 93, 15, 0, 0, [587]),
  (6, .invokestatic 46, 80, 3, 1, [516]),
  (9, .ifCond .eq 12, 11, 0, 0, []),
  (12, .aload_n 0, 0, 0, 0, []),
  (13, .getfield 17, 3, 5, 1, [467]),
  (16, .iload_n 1, 1, 0, 0, []),
  (17, .iaload, 0, 0, 0, []),
  (18, .goto 4, 12, 0, 0, []),
  (21, .iconst 0, 0, 0, 0, []),
  (22, .ireturn, 0, 0, 0, [])]
def cd_M_frames : List gx_T := [(0, .iconst 0, 0, 0, 0, []),
  (1, .istore_n 1, 1, 0, 0, []),
  (2, .aload_n 0, 0, 0, 0, []),
  (3, .getfield 13, 3, 3, 0, [465]),
  (6, .istore_n 2, 2, 0, 0, []),
  (7, .iload_n 2, 2, 0, 0, []),
  (8, .ifCond .lt 18, 16, 0, 0, []),
  (11, .iinc 1 1, 1, 1, 0, []),
  (14, .aload_n 0, 0, 0, 0, []),
  (15, .iload_n 2, 2, 0, 0, []),
  (16, .iconst 4, 4, 0, 0, []),
  (17, .isub, 0, 0, 0, []),
  (18, .iconst 4, 4, 0, 0, []),
  (19, .invokevirtual 80, 82, 3, 3, [579]),
  (22, .istore_n 2, 2, 0, 0, []),
  (23, .goto (-16), 5, 0, 0, []),
  (26, .iload_n 1, 1, 0, 0, []),
  (27, .ireturn, 0, 0, 0, [])]
def cd_M_count : List gx_T := [(0, .iload_n 1, 1, 0, 0, []),
  (1, .tableswitch 116 0 7 #[47, 52, 57, 73, 78, 83, 88, 111], 41, 0, 47, [2, 5, 8, 16, 19, 22, 25, 38]),
  (48, .aload_n 0, 0, 0, 0, []),
  (49, .getfield 86, 3, 2, 0, [464]),
  (52, .ireturn, 0, 0, 0, []),
  (53, .aload_n 0, 0, 0, 0, []),
  (54, .getfield 13, 3, 3, 0, [465]),
  (57, .ireturn, 0, 0, 0, []),
  (58, .aload_n 0, 0, 0, 0, []),
  (59, .invokevirtual 116, 97, 1, 3, [564]),
  (62, .ifCond .eq 10, 14, 0, 0, []),
  (65, .aload_n 0, 0, 0, 0, []),
  (66, .invokevirtual 123, 99, 1, 3, [571]),
  (69, .goto 4, 15, 0, 0, []),
  (72, .iconst (-1), 1, 1, 0, []),
  (73, .ireturn, 0, 0, 0, []),
  (74, .aload_n 0, 0, 0, 0, []),
  (75, .getfield 155, 3, 4, 0, [466]),
  (78, .ireturn, 0, 0, 0, []),
  (79, .aload_n 0, 0, 0, 0, []),
  (80, .getfield 41, 3, 0, 0, [462]),
  (83, .ireturn, 0, 0, 0, []),
  (84, .aload_n 0, 0, 0, 0, []),
  (85, .getfield 83, 3, 12, 0, [474]),
  (88, .ireturn, 0, 0, 0, []),
  (89, .aload_n 0, 0, 0, 0, []),
  (90, .getfield 83, 3, 12, 0, [474]),
  (93, .ifCond .ne 7, 30, 0, 0, []),
  (96, .iconst (-1), 1, 1, 0, []),
  (97, .goto 14, 37, 0, 0, []),
  (100, .aload_n 0, 0, 0, 0, []),
  (101, .getfield 35, 3, 11, 1, [473]),
  (104, .aload_n 0, 0, 0, 0, []),
  (105, .getfield 83, 3, 12, 0, [474]),
  (108, .iconst 1, 1, 0, 0, []),
  (109, .isub, 0, 0, 0, []),
  (110, .iaload, 0, 0, 0, []),
  (111, .ireturn, 0, 0, 0, []),
  (112, .aload_n 0, 0, 0, 0, []),
  (113, .invokevirtual 170, 132, 1, 3, [719]),
  (116, .ireturn, 0, 0, 0, []),
  (117, .iconst (-1), 1, 1, 0, []),
  (118, .ireturn, 0, 0, 0, [])]
def cd_J_floorMod : List gx_T := [(0, .iload_n 0, 0, 0, 0, []),
  (1, .iload_n 1, 1, 0, 0, []),
  (2, .irem, 0, 0, 0, []),
  (3, .istore_n 2, 2, 0, 0, []),
  (4, .iload_n 0, 0, 0, 0, []),
  (5, .iload_n 1, 1, 0, 0, []),
  (6, .ixor, 0, 0, 0, []),
  (7, .ifCond .ge 11, 14, 0, 0, []),
  (10, .iload_n 2, 2, 0, 0, []),
  (11, .ifCond .eq 7, 14, 0, 0, []),
  (14, .iload_n 2, 2, 0, 0, []),
  (15, .iload_n 1, 1, 0, 0, []),
  (16, .iadd, 0, 0, 0, []),
  (17, .ireturn, 0, 0, 0, []),
  (18, .iload_n 2, 2, 0, 0, []),
  (19, .ireturn, 0, 0, 0, [])]
def cd_J_max : List gx_T := [(0, .iload_n 0, 0, 0, 0, []),
  (1, .iload_n 1, 1, 0, 0, []),
  (2, .if_icmp .lt 7, 5, 0, 0, []),
  (5, .iload_n 0, 0, 0, 0, []),
  (6, .goto 4, 6, 0, 0, []),
  (9, .iload_n 1, 1, 0, 0, []),
  (10, .ireturn, 0, 0, 0, [])]
def cd_J_min : List gx_T := [(0, .iload_n 0, 0, 0, 0, []),
  (1, .iload_n 1, 1, 0, 0, []),
  (2, .if_icmp .gt 7, 5, 0, 0, []),
  (5, .iload_n 0, 0, 0, 0, []),
  (6, .goto 4, 6, 0, 0, []),
  (9, .iload_n 1, 1, 0, 0, []),
  (10, .ireturn, 0, 0, 0, [])]
def cd_L_cell : List gx_T := [(0, .iload_n 1, 1, 0, 0, []),
  (1, .aload_n 0, 0, 0, 0, []),
  (2, .arraylength, 0, 0, 0, []),
  (3, .if_icmp .ge 9, 8, 0, 0, []),
  (6, .aload_n 0, 0, 0, 0, []),
  (7, .iload_n 1, 1, 0, 0, []),
  (8, .iaload, 0, 0, 0, []),
  (9, .goto 4, 9, 0, 0, []),
  (12, .iconst 0, 0, 0, 0, []),
  (13, .ireturn, 0, 0, 0, [])]
def cd_L_law : List gx_T := [(0, .new 7, 2, 0, 0, [61, 62, 56]),
  (3, .dup, 0, 0, 0, []),
  (4, .aload_n 0, 0, 0, 0, []),
  (5, .iconst 0, 0, 0, 0, []),
  (6, .invokestatic 9, 137, 2, 0, [453]),
  (9, .invokespecial 15, 25, 2, 2, [63]),
  (12, .astore_n 1, 1, 0, 0, []),
  (13, .new 18, 3, 0, 0, [456, 457, 60]),
  (16, .dup, 0, 0, 0, []),
  (17, .aload_n 0, 0, 0, 0, []),
  (18, .iconst 0, 0, 0, 0, []),
  (19, .invokestatic 9, 137, 2, 0, [453]),
  (22, .invokespecial 20, 79, 2, 3, [458]),
  (25, .astore_n 2, 2, 0, 0, []),
  (26, .iconst 1, 1, 0, 0, []),
  (27, .istore_n 3, 3, 0, 0, []),
  (28, .iload_n 3, 3, 0, 0, []),
  (29, .aload_n 0, 0, 0, 0, []),
  (30, .arraylength, 0, 0, 0, []),
  (31, .bipush 6, 6, 0, 0, []),
  (33, .isub, 0, 0, 0, []),
  (34, .if_icmp .gt 772, 554, 0, 0, []),
  (37, .aload_n 0, 0, 0, 0, []),
  (38, .iload_n 3, 3, 0, 0, []),
  (39, .iaload, 0, 0, 0, []),
  (40, .bipush 31, 31, 0, 0, []),
  (42, .iand, 0, 0, 0, []),
  (43, .tableswitch 757 0 21 #[101, 134, 177, 210, 243, 276, 339, 362, 405, 438, 471, 494, 507, 520, 543, 566, 599, 612, 645, 688, 711, 734], 552, 0, 101, [28, 55, 92, 119, 146, 173, 230, 247, 284, 311, 338, 355, 362, 369, 386, 403, 430, 437, 464, 501, 518, 535]),
  (144, .aload_n 1, 1, 0, 0, []),
  (145, .aload_n 0, 0, 0, 0, []),
  (146, .iload_n 3, 3, 0, 0, []),
  (147, .iconst 1, 1, 0, 0, []),
  (148, .iadd, 0, 0, 0, []),
  (149, .iaload, 0, 0, 0, []),
  (150, .aload_n 0, 0, 0, 0, []),
  (151, .iload_n 3, 3, 0, 0, []),
  (152, .iconst 2, 2, 0, 0, []),
  (153, .iadd, 0, 0, 0, []),
  (154, .iaload, 0, 0, 0, []),
  (155, .invokevirtual 21, 26, 3, 2, [148]),
  (158, .aload_n 2, 2, 0, 0, []),
  (159, .aload_n 0, 0, 0, 0, []),
  (160, .iload_n 3, 3, 0, 0, []),
  (161, .iconst 1, 1, 0, 0, []),
  (162, .iadd, 0, 0, 0, []),
  (163, .iaload, 0, 0, 0, []),
  (164, .aload_n 0, 0, 0, 0, []),
  (165, .iload_n 3, 3, 0, 0, []),
  (166, .iconst 2, 2, 0, 0, []),
  (167, .iadd, 0, 0, 0, []),
  (168, .iaload, 0, 0, 0, []),
  (169, .invokevirtual 25, 85, 3, 3, [508]),
  (172, .if_icmp .eq 628, 552, 0, 0, []),
  (175, .iconst 0, 0, 0, 0, []),
  (176, .ireturn, 0, 1, 0, []),
  (177, .aload_n 1, 1, 0, 0, []),
  (178, .aload_n 0, 0, 0, 0, []),
  (179, .iload_n 3, 3, 0, 0, []),
  (180, .iconst 1, 1, 0, 0, []),
  (181, .iadd, 0, 0, 0, []),
  (182, .iaload, 0, 0, 0, []),
  (183, .aload_n 0, 0, 0, 0, []),
  (184, .iload_n 3, 3, 0, 0, []),
  (185, .iconst 2, 2, 0, 0, []),
  (186, .iadd, 0, 0, 0, []),
  (187, .iaload, 0, 0, 0, []),
  (188, .aload_n 0, 0, 0, 0, []),
  (189, .iload_n 3, 3, 0, 0, []),
  (190, .iconst 3, 3, 0, 0, []),
  (191, .iadd, 0, 0, 0, []),
  (192, .iaload, 0, 0, 0, []),
  (193, .invokevirtual 26, 27, 4, 2, [160]),
  (196, .aload_n 2, 2, 0, 0, []),
  (197, .aload_n 0, 0, 0, 0, []),
  (198, .iload_n 3, 3, 0, 0, []),
  (199, .iconst 1, 1, 0, 0, []),
  (200, .iadd, 0, 0, 0, []),
  (201, .iaload, 0, 0, 0, []),
  (202, .aload_n 0, 0, 0, 0, []),
  (203, .iload_n 3, 3, 0, 0, []),
  (204, .iconst 2, 2, 0, 0, []),
  (205, .iadd, 0, 0, 0, []),
  (206, .iaload, 0, 0, 0, []),
  (207, .aload_n 0, 0, 0, 0, []),
  (208, .iload_n 3, 3, 0, 0, []),
  (209, .iconst 3, 3, 0, 0, []),
  (210, .iadd, 0, 0, 0, []),
  (211, .iaload, 0, 0, 0, []),
  (212, .invokevirtual 30, 87, 4, 3, [520]),
  (215, .if_icmp .eq 585, 552, 0, 0, []),
  (218, .iconst 0, 0, 0, 0, []),
  (219, .ireturn, 0, 1, 0, []),
  (220, .aload_n 1, 1, 0, 0, []),
  (221, .aload_n 0, 0, 0, 0, []),
  (222, .iload_n 3, 3, 0, 0, []),
  (223, .iconst 1, 1, 0, 0, []),
  (224, .iadd, 0, 0, 0, []),
  (225, .iaload, 0, 0, 0, []),
  (226, .aload_n 0, 0, 0, 0, []),
  (227, .iload_n 3, 3, 0, 0, []),
  (228, .iconst 2, 2, 0, 0, []),
  (229, .iadd, 0, 0, 0, []),
  (230, .iaload, 0, 0, 0, []),
  (231, .invokevirtual 31, 28, 3, 2, [171]),
  (234, .aload_n 2, 2, 0, 0, []),
  (235, .aload_n 0, 0, 0, 0, []),
  (236, .iload_n 3, 3, 0, 0, []),
  (237, .iconst 1, 1, 0, 0, []),
  (238, .iadd, 0, 0, 0, []),
  (239, .iaload, 0, 0, 0, []),
  (240, .aload_n 0, 0, 0, 0, []),
  (241, .iload_n 3, 3, 0, 0, []),
  (242, .iconst 2, 2, 0, 0, []),
  (243, .iadd, 0, 0, 0, []),
  (244, .iaload, 0, 0, 0, []),
  (245, .invokevirtual 34, 88, 3, 3, [527]),
  (248, .if_icmp .eq 552, 552, 0, 0, []),
  (251, .iconst 0, 0, 0, 0, []),
  (252, .ireturn, 0, 1, 0, []),
  (253, .aload_n 1, 1, 0, 0, []),
  (254, .aload_n 0, 0, 0, 0, []),
  (255, .iload_n 3, 3, 0, 0, []),
  (256, .iconst 1, 1, 0, 0, []),
  (257, .iadd, 0, 0, 0, []),
  (258, .iaload, 0, 0, 0, []),
  (259, .aload_n 0, 0, 0, 0, []),
  (260, .iload_n 3, 3, 0, 0, []),
  (261, .iconst 2, 2, 0, 0, []),
  (262, .iadd, 0, 0, 0, []),
  (263, .iaload, 0, 0, 0, []),
  (264, .invokevirtual 35, 29, 3, 2, [175]),
  (267, .aload_n 2, 2, 0, 0, []),
  (268, .aload_n 0, 0, 0, 0, []),
  (269, .iload_n 3, 3, 0, 0, []),
  (270, .iconst 1, 1, 0, 0, []),
  (271, .iadd, 0, 0, 0, []),
  (272, .iaload, 0, 0, 0, []),
  (273, .aload_n 0, 0, 0, 0, []),
  (274, .iload_n 3, 3, 0, 0, []),
  (275, .iconst 2, 2, 0, 0, []),
  (276, .iadd, 0, 0, 0, []),
  (277, .iaload, 0, 0, 0, []),
  (278, .invokevirtual 38, 95, 3, 3, [532]),
  (281, .if_icmp .eq 519, 552, 0, 0, []),
  (284, .iconst 0, 0, 0, 0, []),
  (285, .ireturn, 0, 1, 0, []),
  (286, .aload_n 1, 1, 0, 0, []),
  (287, .aload_n 0, 0, 0, 0, []),
  (288, .iload_n 3, 3, 0, 0, []),
  (289, .iconst 1, 1, 0, 0, []),
  (290, .iadd, 0, 0, 0, []),
  (291, .iaload, 0, 0, 0, []),
  (292, .aload_n 0, 0, 0, 0, []),
  (293, .iload_n 3, 3, 0, 0, []),
  (294, .iconst 2, 2, 0, 0, []),
  (295, .iadd, 0, 0, 0, []),
  (296, .iaload, 0, 0, 0, []),
  (297, .invokevirtual 39, 30, 3, 2, [203]),
  (300, .aload_n 2, 2, 0, 0, []),
  (301, .aload_n 0, 0, 0, 0, []),
  (302, .iload_n 3, 3, 0, 0, []),
  (303, .iconst 1, 1, 0, 0, []),
  (304, .iadd, 0, 0, 0, []),
  (305, .iaload, 0, 0, 0, []),
  (306, .aload_n 0, 0, 0, 0, []),
  (307, .iload_n 3, 3, 0, 0, []),
  (308, .iconst 2, 2, 0, 0, []),
  (309, .iadd, 0, 0, 0, []),
  (310, .iaload, 0, 0, 0, []),
  (311, .invokevirtual 42, 96, 3, 3, [556]),
  (314, .if_icmp .eq 486, 552, 0, 0, []),
  (317, .iconst 0, 0, 0, 0, []),
  (318, .ireturn, 0, 1, 0, []),
  (319, .aload_n 1, 1, 0, 0, []),
  (320, .aload_n 0, 0, 0, 0, []),
  (321, .iload_n 3, 3, 0, 0, []),
  (322, .iconst 1, 1, 0, 0, []),
  (323, .iadd, 0, 0, 0, []),
  (324, .iaload, 0, 0, 0, []),
  (325, .aload_n 0, 0, 0, 0, []),
  (326, .iload_n 3, 3, 0, 0, []),
  (327, .iconst 2, 2, 0, 0, []),
  (328, .iadd, 0, 0, 0, []),
  (329, .iaload, 0, 0, 0, []),
  (330, .aload_n 0, 0, 0, 0, []),
  (331, .iload_n 3, 3, 0, 0, []),
  (332, .iconst 3, 3, 0, 0, []),
  (333, .iadd, 0, 0, 0, []),
  (334, .iaload, 0, 0, 0, []),
  (335, .aload_n 0, 0, 0, 0, []),
  (336, .iload_n 3, 3, 0, 0, []),
  (337, .iconst 4, 4, 0, 0, []),
  (338, .iadd, 0, 0, 0, []),
  (339, .iaload, 0, 0, 0, []),
  (340, .aload_n 0, 0, 0, 0, []),
  (341, .iload_n 3, 3, 0, 0, []),
  (342, .iconst 5, 5, 0, 0, []),
  (343, .iadd, 0, 0, 0, []),
  (344, .iaload, 0, 0, 0, []),
  (345, .invokevirtual 43, 33, 6, 2, [211]),
  (348, .aload_n 2, 2, 0, 0, []),
  (349, .aload_n 0, 0, 0, 0, []),
  (350, .iload_n 3, 3, 0, 0, []),
  (351, .iconst 1, 1, 0, 0, []),
  (352, .iadd, 0, 0, 0, []),
  (353, .iaload, 0, 0, 0, []),
  (354, .aload_n 0, 0, 0, 0, []),
  (355, .iload_n 3, 3, 0, 0, []),
  (356, .iconst 2, 2, 0, 0, []),
  (357, .iadd, 0, 0, 0, []),
  (358, .iaload, 0, 0, 0, []),
  (359, .aload_n 0, 0, 0, 0, []),
  (360, .iload_n 3, 3, 0, 0, []),
  (361, .iconst 3, 3, 0, 0, []),
  (362, .iadd, 0, 0, 0, []),
  (363, .iaload, 0, 0, 0, []),
  (364, .aload_n 0, 0, 0, 0, []),
  (365, .iload_n 3, 3, 0, 0, []),
  (366, .iconst 4, 4, 0, 0, []),
  (367, .iadd, 0, 0, 0, []),
  (368, .iaload, 0, 0, 0, []),
  (369, .aload_n 0, 0, 0, 0, []),
  (370, .iload_n 3, 3, 0, 0, []),
  (371, .iconst 5, 5, 0, 0, []),
  (372, .iadd, 0, 0, 0, []),
  (373, .iaload, 0, 0, 0, []),
  (374, .invokevirtual 47, 113, 6, 3, [560]),
  (377, .if_icmp .eq 423, 552, 0, 0, []),
  (380, .iconst 0, 0, 0, 0, []),
  (381, .ireturn, 0, 1, 0, []),
  (382, .aload_n 1, 1, 0, 0, []),
  (383, .aload_n 0, 0, 0, 0, []),
  (384, .iload_n 3, 3, 0, 0, []),
  (385, .iconst 1, 1, 0, 0, []),
  (386, .iadd, 0, 0, 0, []),
  (387, .iaload, 0, 0, 0, []),
  (388, .invokevirtual 48, 36, 2, 2, [366]),
  (391, .aload_n 2, 2, 0, 0, []),
  (392, .aload_n 0, 0, 0, 0, []),
  (393, .iload_n 3, 3, 0, 0, []),
  (394, .iconst 1, 1, 0, 0, []),
  (395, .iadd, 0, 0, 0, []),
  (396, .iaload, 0, 0, 0, []),
  (397, .invokevirtual 52, 116, 2, 3, [639]),
  (400, .if_icmp .eq 400, 552, 0, 0, []),
  (403, .iconst 0, 0, 0, 0, []),
  (404, .ireturn, 0, 1, 0, []),
  (405, .aload_n 1, 1, 0, 0, []),
  (406, .aload_n 0, 0, 0, 0, []),
  (407, .iload_n 3, 3, 0, 0, []),
  (408, .iconst 1, 1, 0, 0, []),
  (409, .iadd, 0, 0, 0, []),
  (410, .iaload, 0, 0, 0, []),
  (411, .aload_n 0, 0, 0, 0, []),
  (412, .iload_n 3, 3, 0, 0, []),
  (413, .iconst 2, 2, 0, 0, []),
  (414, .iadd, 0, 0, 0, []),
  (415, .iaload, 0, 0, 0, []),
  (416, .aload_n 0, 0, 0, 0, []),
  (417, .iload_n 3, 3, 0, 0, []),
  (418, .iconst 3, 3, 0, 0, []),
  (419, .iadd, 0, 0, 0, []),
  (420, .iaload, 0, 0, 0, []),
  (421, .invokevirtual 53, 37, 4, 2, [370]),
  (424, .aload_n 2, 2, 0, 0, []),
  (425, .aload_n 0, 0, 0, 0, []),
  (426, .iload_n 3, 3, 0, 0, []),
  (427, .iconst 1, 1, 0, 0, []),
  (428, .iadd, 0, 0, 0, []),
  (429, .iaload, 0, 0, 0, []),
  (430, .aload_n 0, 0, 0, 0, []),
  (431, .iload_n 3, 3, 0, 0, []),
  (432, .iconst 2, 2, 0, 0, []),
  (433, .iadd, 0, 0, 0, []),
  (434, .iaload, 0, 0, 0, []),
  (435, .aload_n 0, 0, 0, 0, []),
  (436, .iload_n 3, 3, 0, 0, []),
  (437, .iconst 3, 3, 0, 0, []),
  (438, .iadd, 0, 0, 0, []),
  (439, .iaload, 0, 0, 0, []),
  (440, .invokevirtual 56, 117, 4, 3, [655]),
  (443, .if_icmp .eq 357, 552, 0, 0, []),
  (446, .iconst 0, 0, 0, 0, []),
  (447, .ireturn, 0, 1, 0, []),
  (448, .aload_n 1, 1, 0, 0, []),
  (449, .aload_n 0, 0, 0, 0, []),
  (450, .iload_n 3, 3, 0, 0, []),
  (451, .iconst 1, 1, 0, 0, []),
  (452, .iadd, 0, 0, 0, []),
  (453, .iaload, 0, 0, 0, []),
  (454, .aload_n 0, 0, 0, 0, []),
  (455, .iload_n 3, 3, 0, 0, []),
  (456, .iconst 2, 2, 0, 0, []),
  (457, .iadd, 0, 0, 0, []),
  (458, .iaload, 0, 0, 0, []),
  (459, .invokevirtual 57, 38, 3, 2, [378]),
  (462, .aload_n 2, 2, 0, 0, []),
  (463, .aload_n 0, 0, 0, 0, []),
  (464, .iload_n 3, 3, 0, 0, []),
  (465, .iconst 1, 1, 0, 0, []),
  (466, .iadd, 0, 0, 0, []),
  (467, .iaload, 0, 0, 0, []),
  (468, .aload_n 0, 0, 0, 0, []),
  (469, .iload_n 3, 3, 0, 0, []),
  (470, .iconst 2, 2, 0, 0, []),
  (471, .iadd, 0, 0, 0, []),
  (472, .iaload, 0, 0, 0, []),
  (473, .invokevirtual 60, 118, 3, 3, [659]),
  (476, .if_icmp .eq 324, 552, 0, 0, []),
  (479, .iconst 0, 0, 0, 0, []),
  (480, .ireturn, 0, 1, 0, []),
  (481, .aload_n 1, 1, 0, 0, []),
  (482, .aload_n 0, 0, 0, 0, []),
  (483, .iload_n 3, 3, 0, 0, []),
  (484, .iconst 1, 1, 0, 0, []),
  (485, .iadd, 0, 0, 0, []),
  (486, .iaload, 0, 0, 0, []),
  (487, .aload_n 0, 0, 0, 0, []),
  (488, .iload_n 3, 3, 0, 0, []),
  (489, .iconst 2, 2, 0, 0, []),
  (490, .iadd, 0, 0, 0, []),
  (491, .iaload, 0, 0, 0, []),
  (492, .invokevirtual 61, 35, 3, 2, [350]),
  (495, .aload_n 2, 2, 0, 0, []),
  (496, .aload_n 0, 0, 0, 0, []),
  (497, .iload_n 3, 3, 0, 0, []),
  (498, .iconst 1, 1, 0, 0, []),
  (499, .iadd, 0, 0, 0, []),
  (500, .iaload, 0, 0, 0, []),
  (501, .aload_n 0, 0, 0, 0, []),
  (502, .iload_n 3, 3, 0, 0, []),
  (503, .iconst 2, 2, 0, 0, []),
  (504, .iadd, 0, 0, 0, []),
  (505, .iaload, 0, 0, 0, []),
  (506, .invokevirtual 64, 119, 3, 3, [663]),
  (509, .if_icmp .eq 291, 552, 0, 0, []),
  (512, .iconst 0, 0, 0, 0, []),
  (513, .ireturn, 0, 1, 0, []),
  (514, .aload_n 1, 1, 0, 0, []),
  (515, .aload_n 0, 0, 0, 0, []),
  (516, .iload_n 3, 3, 0, 0, []),
  (517, .iconst 1, 1, 0, 0, []),
  (518, .iadd, 0, 0, 0, []),
  (519, .iaload, 0, 0, 0, []),
  (520, .invokevirtual 65, 59, 2, 2, [386]),
  (523, .aload_n 2, 2, 0, 0, []),
  (524, .aload_n 0, 0, 0, 0, []),
  (525, .iload_n 3, 3, 0, 0, []),
  (526, .iconst 1, 1, 0, 0, []),
  (527, .iadd, 0, 0, 0, []),
  (528, .iaload, 0, 0, 0, []),
  (529, .invokevirtual 68, 120, 2, 3, [667]),
  (532, .if_icmp .eq 268, 552, 0, 0, []),
  (535, .iconst 0, 0, 0, 0, []),
  (536, .ireturn, 0, 1, 0, []),
  (537, .aload_n 1, 1, 0, 0, []),
  (538, .invokevirtual 69, 60, 1, 2, [390]),
  (541, .aload_n 2, 2, 0, 0, []),
  (542, .invokevirtual 73, 121, 1, 3, [671]),
  (545, .if_icmp .eq 255, 552, 0, 0, []),
  (548, .iconst 0, 0, 0, 0, []),
  (549, .ireturn, 0, 1, 0, []),
  (550, .aload_n 1, 1, 0, 0, []),
  (551, .invokevirtual 74, 61, 1, 2, [398]),
  (554, .aload_n 2, 2, 0, 0, []),
  (555, .invokevirtual 77, 122, 1, 3, [675]),
  (558, .if_icmp .eq 242, 552, 0, 0, []),
  (561, .iconst 0, 0, 0, 0, []),
  (562, .ireturn, 0, 1, 0, []),
  (563, .aload_n 1, 1, 0, 0, []),
  (564, .aload_n 0, 0, 0, 0, []),
  (565, .iload_n 3, 3, 0, 0, []),
  (566, .iconst 1, 1, 0, 0, []),
  (567, .iadd, 0, 0, 0, []),
  (568, .iaload, 0, 0, 0, []),
  (569, .invokevirtual 78, 62, 2, 2, [402]),
  (572, .aload_n 2, 2, 0, 0, []),
  (573, .aload_n 0, 0, 0, 0, []),
  (574, .iload_n 3, 3, 0, 0, []),
  (575, .iconst 1, 1, 0, 0, []),
  (576, .iadd, 0, 0, 0, []),
  (577, .iaload, 0, 0, 0, []),
  (578, .invokevirtual 81, 123, 2, 3, [679]),
  (581, .if_icmp .eq 219, 552, 0, 0, []),
  (584, .iconst 0, 0, 0, 0, []),
  (585, .ireturn, 0, 1, 0, []),
  (586, .aload_n 1, 1, 0, 0, []),
  (587, .aload_n 0, 0, 0, 0, []),
  (588, .iload_n 3, 3, 0, 0, []),
  (589, .iconst 1, 1, 0, 0, []),
  (590, .iadd, 0, 0, 0, []),
  (591, .iaload, 0, 0, 0, []),
  (592, .invokevirtual 82, 63, 2, 2, [406]),
  (595, .aload_n 2, 2, 0, 0, []),
  (596, .aload_n 0, 0, 0, 0, []),
  (597, .iload_n 3, 3, 0, 0, []),
  (598, .iconst 1, 1, 0, 0, []),
  (599, .iadd, 0, 0, 0, []),
  (600, .iaload, 0, 0, 0, []),
  (601, .invokevirtual 85, 124, 2, 3, [683]),
  (604, .if_icmp .eq 196, 552, 0, 0, []),
  (607, .iconst 0, 0, 0, 0, []),
  (608, .ireturn, 0, 1, 0, []),
  (609, .aload_n 1, 1, 0, 0, []),
  (610, .aload_n 0, 0, 0, 0, []),
  (611, .iload_n 3, 3, 0, 0, []),
  (612, .iconst 1, 1, 0, 0, []),
  (613, .iadd, 0, 0, 0, []),
  (614, .iaload, 0, 0, 0, []),
  (615, .aload_n 0, 0, 0, 0, []),
  (616, .iload_n 3, 3, 0, 0, []),
  (617, .iconst 2, 2, 0, 0, []),
  (618, .iadd, 0, 0, 0, []),
  (619, .iaload, 0, 0, 0, []),
  (620, .invokevirtual 86, 64, 3, 2, [410]),
  (623, .aload_n 2, 2, 0, 0, []),
  (624, .aload_n 0, 0, 0, 0, []),
  (625, .iload_n 3, 3, 0, 0, []),
  (626, .iconst 1, 1, 0, 0, []),
  (627, .iadd, 0, 0, 0, []),
  (628, .iaload, 0, 0, 0, []),
  (629, .aload_n 0, 0, 0, 0, []),
  (630, .iload_n 3, 3, 0, 0, []),
  (631, .iconst 2, 2, 0, 0, []),
  (632, .iadd, 0, 0, 0, []),
  (633, .iaload, 0, 0, 0, []),
  (634, .invokevirtual 89, 125, 3, 3, [687]),
  (637, .if_icmp .eq 163, 552, 0, 0, []),
  (640, .iconst 0, 0, 0, 0, []),
  (641, .ireturn, 0, 1, 0, []),
  (642, .aload_n 1, 1, 0, 0, []),
  (643, .invokevirtual 90, 65, 1, 2, [421]),
  (646, .aload_n 2, 2, 0, 0, []),
  (647, .invokevirtual 93, 126, 1, 3, [691]),
  (650, .if_icmp .eq 150, 552, 0, 0, []),
  (653, .iconst 0, 0, 0, 0, []),
  (654, .ireturn, 0, 1, 0, []),
  (655, .aload_n 1, 1, 0, 0, []),
  (656, .aload_n 0, 0, 0, 0, []),
  (657, .iload_n 3, 3, 0, 0, []),
  (658, .iconst 1, 1, 0, 0, []),
  (659, .iadd, 0, 0, 0, []),
  (660, .iaload, 0, 0, 0, []),
  (661, .aload_n 0, 0, 0, 0, []),
  (662, .iload_n 3, 3, 0, 0, []),
  (663, .iconst 2, 2, 0, 0, []),
  (664, .iadd, 0, 0, 0, []),
  (665, .iaload, 0, 0, 0, []),
  (666, .invokevirtual 94, 73, 3, 2, [425]),
  (669, .aload_n 2, 2, 0, 0, []),
  (670, .aload_n 0, 0, 0, 0, []),
  (671, .iload_n 3, 3, 0, 0, []),
  (672, .iconst 1, 1, 0, 0, []),
  (673, .iadd, 0, 0, 0, []),
  (674, .iaload, 0, 0, 0, []),
  (675, .aload_n 0, 0, 0, 0, []),
  (676, .iload_n 3, 3, 0, 0, []),
  (677, .iconst 2, 2, 0, 0, []),
  (678, .iadd, 0, 0, 0, []),
  (679, .iaload, 0, 0, 0, []),
  (680, .invokevirtual 97, 128, 3, 3, [695]),
  (683, .if_icmp .eq 117, 552, 0, 0, []),
  (686, .iconst 0, 0, 0, 0, []),
  (687, .ireturn, 0, 1, 0, []),
  (688, .aload_n 1, 1, 0, 0, []),
  (689, .aload_n 0, 0, 0, 0, []),
  (690, .iload_n 3, 3, 0, 0, []),
  (691, .iconst 1, 1, 0, 0, []),
  (692, .iadd, 0, 0, 0, []),
  (693, .iaload, 0, 0, 0, []),
  (694, .aload_n 0, 0, 0, 0, []),
  (695, .iload_n 3, 3, 0, 0, []),
  (696, .iconst 2, 2, 0, 0, []),
  (697, .iadd, 0, 0, 0, []),
  (698, .iaload, 0, 0, 0, []),
  (699, .aload_n 0, 0, 0, 0, []),
  (700, .iload_n 3, 3, 0, 0, []),
  (701, .iconst 3, 3, 0, 0, []),
  (702, .iadd, 0, 0, 0, []),
  (703, .iaload, 0, 0, 0, []),
  (704, .invokevirtual 98, 74, 4, 2, [433]),
  (707, .aload_n 2, 2, 0, 0, []),
  (708, .aload_n 0, 0, 0, 0, []),
  (709, .iload_n 3, 3, 0, 0, []),
  (710, .iconst 1, 1, 0, 0, []),
  (711, .iadd, 0, 0, 0, []),
  (712, .iaload, 0, 0, 0, []),
  (713, .aload_n 0, 0, 0, 0, []),
  (714, .iload_n 3, 3, 0, 0, []),
  (715, .iconst 2, 2, 0, 0, []),
  (716, .iadd, 0, 0, 0, []),
  (717, .iaload, 0, 0, 0, []),
  (718, .aload_n 0, 0, 0, 0, []),
  (719, .iload_n 3, 3, 0, 0, []),
  (720, .iconst 3, 3, 0, 0, []),
  (721, .iadd, 0, 0, 0, []),
  (722, .iaload, 0, 0, 0, []),
  (723, .invokevirtual 101, 129, 4, 3, [703]),
  (726, .if_icmp .eq 74, 552, 0, 0, []),
  (729, .iconst 0, 0, 0, 0, []),
  (730, .ireturn, 0, 1, 0, []),
  (731, .aload_n 1, 1, 0, 0, []),
  (732, .aload_n 0, 0, 0, 0, []),
  (733, .iload_n 3, 3, 0, 0, []),
  (734, .iconst 1, 1, 0, 0, []),
  (735, .iadd, 0, 0, 0, []),
  (736, .iaload, 0, 0, 0, []),
  (737, .invokevirtual 102, 76, 2, 2, [437]),
  (740, .aload_n 2, 2, 0, 0, []),
  (741, .aload_n 0, 0, 0, 0, []),
  (742, .iload_n 3, 3, 0, 0, []),
  (743, .iconst 1, 1, 0, 0, []),
  (744, .iadd, 0, 0, 0, []),
  (745, .iaload, 0, 0, 0, []),
  (746, .invokevirtual 105, 130, 2, 3, [707]),
  (749, .if_icmp .eq 51, 552, 0, 0, []),
  (752, .iconst 0, 0, 0, 0, []),
  (753, .ireturn, 0, 1, 0, []),
  (754, .aload_n 1, 1, 0, 0, []),
  (755, .aload_n 0, 0, 0, 0, []),
  (756, .iload_n 3, 3, 0, 0, []),
  (757, .iconst 1, 1, 0, 0, []),
  (758, .iadd, 0, 0, 0, []),
  (759, .iaload, 0, 0, 0, []),
  (760, .invokevirtual 106, 77, 2, 2, [441]),
  (763, .aload_n 2, 2, 0, 0, []),
  (764, .aload_n 0, 0, 0, 0, []),
  (765, .iload_n 3, 3, 0, 0, []),
  (766, .iconst 1, 1, 0, 0, []),
  (767, .iadd, 0, 0, 0, []),
  (768, .iaload, 0, 0, 0, []),
  (769, .invokevirtual 108, 131, 2, 3, [711]),
  (772, .if_icmp .eq 28, 552, 0, 0, []),
  (775, .iconst 0, 0, 0, 0, []),
  (776, .ireturn, 0, 1, 0, []),
  (777, .aload_n 1, 1, 0, 0, []),
  (778, .aload_n 0, 0, 0, 0, []),
  (779, .iload_n 3, 3, 0, 0, []),
  (780, .iconst 1, 1, 0, 0, []),
  (781, .iadd, 0, 0, 0, []),
  (782, .iaload, 0, 0, 0, []),
  (783, .invokevirtual 109, 78, 2, 2, [445]),
  (786, .aload_n 2, 2, 0, 0, []),
  (787, .aload_n 0, 0, 0, 0, []),
  (788, .iload_n 3, 3, 0, 0, []),
  (789, .iconst 1, 1, 0, 0, []),
  (790, .iadd, 0, 0, 0, []),
  (791, .iaload, 0, 0, 0, []),
  (792, .invokevirtual 112, 133, 2, 3, [715]),
  (795, .if_icmp .eq 5, 552, 0, 0, []),
  (798, .iconst 0, 0, 0, 0, []),
  (799, .ireturn, 0, 1, 0, []),
  (800, .iinc 3 6, 3, 6, 0, []),
  (803, .goto (-775), 16, 0, 0, []),
  (806, .iconst 1, 1, 0, 0, []),
  (807, .ireturn, 0, 1, 0, [])]
def mt_F_init : gx_M := (yX0_init, cX0_init, 1, none, 1, 1, cd_F_init, [95, 59, 94])
def mt_F_begin : gx_M := (yX0_begin, cX0_begin, 2, none, 2, 1, cd_F_begin, [159, 59, 157, 158])
def mt_F_addPair : gx_M := (yX0_addPair, cX0_addPair, 3, some .int, 3, 1, cd_F_addPair, [170, 59, 168, 169])
def mt_F_widthOfPair : gx_M := (yX0_widthOfPair, cX0_widthOfPair, 2, some .int, 2, 1, cd_F_widthOfPair, [201, 59, 199, 200])
def mt_F_countOfPair : gx_M := (yX0_countOfPair, cX0_countOfPair, 2, some .int, 2, 1, cd_F_countOfPair, [186, 59, 184, 185])
def mt_F_isAccelerated : gx_M := (yX0_isAccelerated, cX0_isAccelerated, 1, some .boolean, 1, 1, cd_F_isAccelerated, [249, 59, 247, 248])
def mt_F_hasFrameHead : gx_M := (yX0_hasFrameHead, cX0_hasFrameHead, 1, some .boolean, 1, 1, cd_F_hasFrameHead, [312, 59, 310, 311])
def mt_F_takesPushed : gx_M := (yX0_takesPushed, cX0_takesPushed, 1, some .boolean, 1, 1, cd_F_takesPushed, [320, 59, 318, 319])
def mt_F_localCount : gx_M := (yX0_localCount, cX0_localCount, 3, some .int, 1, 1, cd_F_localCount, [182, 59, 180, 181])
def mt_F_localsBegin : gx_M := (yX0_localsBegin, cX0_localsBegin, 1, some .int, 1, 1, cd_F_localsBegin, [194, 59, 192, 193])
def mt_F_placeOfLocal : gx_M := (yX0_placeOfLocal, cX0_placeOfLocal, 6, some .int, 2, 1, cd_F_placeOfLocal, [210, 59, 208, 209])
def mt_F_frameLength : gx_M := (yX0_frameLength, cX0_frameLength, 4, some .int, 1, 1, cd_F_frameLength, [190, 59, 188, 189])
def mt_F_bytesWith : gx_M := (yX0_bytesWith, cX0_bytesWith, 2, some .int, 2, 1, cd_F_bytesWith, [316, 59, 314, 315])
def mt_F_upTo : gx_M := (yX0_upTo, cX0_upTo, 2, some .int, 2, 0, cd_F_upTo, [197, 59, 196])
def mt_R_init : gx_M := (yX1_init, cX1_init, 3, none, 2, 1, cd_R_init, [75, 57, 74])
def mt_R_size : gx_M := (yX1_size, cX1_size, 1, some .int, 1, 1, cd_R_size, [119, 57, 117, 118])
def mt_R_end : gx_M := (yX1_end, cX1_end, 1, some .int, 1, 1, cd_R_end, [225, 57, 223, 224])
def mt_R_reaches : gx_M := (yX1_reaches, cX1_reaches, 2, some .boolean, 2, 1, cd_R_reaches, [275, 57, 273, 274])
def mt_R_number : gx_M := (yX1_number, cX1_number, 5, some .int, 3, 1, cd_R_number, [241, 57, 239, 240])
def mt_R_set : gx_M := (yX1_set, cX1_set, 6, none, 4, 1, cd_R_set, [295, 57, 293, 294])
def mt_R_append : gx_M := (yX1_append, cX1_append, 3, none, 2, 1, cd_R_append, [303, 57, 301, 302])
def mt_R_appendZeros : gx_M := (yX1_appendZeros, cX1_appendZeros, 3, none, 2, 1, cd_R_appendZeros, [307, 57, 305, 306])
def mt_R_cutTo : gx_M := (yX1_cutTo, cX1_cutTo, 2, none, 2, 1, cd_R_cutTo, [287, 57, 285, 286])
def mt_R_byteOrZero : gx_M := (yX1_byteOrZero, cX1_byteOrZero, 2, some .int, 2, 1, cd_R_byteOrZero, [245, 57, 244, 5])
def mt_R_setByte : gx_M := (yX1_setByte, cX1_setByte, 3, none, 3, 1, cd_R_setByte, [299, 57, 298, 13])
def mt_G_init : gx_M := (yX2_init, cX2_init, 3, none, 2, 1, cd_G_init, [65, 56, 64])
def mt_G_function : gx_M := (yX2_function, cX2_function, 4, some .int, 3, 1, cd_G_function, [151, 56, 149, 150])
def mt_G_format : gx_M := (yX2_format, cX2_format, 5, some .int, 4, 1, cd_G_format, [163, 56, 161, 162])
def mt_G_accelerate : gx_M := (yX2_accelerate, cX2_accelerate, 5, some .int, 3, 1, cd_G_accelerate, [174, 56, 172, 173])
def mt_G_told : gx_M := (yX2_told, cX2_told, 4, some .int, 3, 1, cd_G_told, [178, 56, 176, 177])
def mt_G_local : gx_M := (yX2_local, cX2_local, 4, some .int, 3, 1, cd_G_local, [206, 56, 204, 205])
def mt_G_functionOf : gx_M := (yX2_functionOf, cX2_functionOf, 2, some (.object "GlulxFrames$Function"), 2, 1, cd_G_functionOf, [155, 56, 154, 0])
def mt_G_isWidth : gx_M := (yX2_isWidth, cX2_isWidth, 1, some .boolean, 1, 0, cd_G_isWidth, [166, 56, 165])
def mt_G_call : gx_M := (yX2_call, cX2_call, 8, some .int, 6, 1, cd_G_call, [214, 56, 212, 213])
def mt_G_callAccelerated : gx_M := (yX2_callAccelerated, cX2_callAccelerated, 7, some .int, 5, 1, cd_G_callAccelerated, [253, 56, 252, 6])
def mt_G_tail : gx_M := (yX2_tail, cX2_tail, 4, some .int, 3, 1, cd_G_tail, [353, 56, 351, 352])
def mt_G_leave : gx_M := (yX2_leave, cX2_leave, 2, some .int, 2, 1, cd_G_leave, [369, 56, 367, 368])
def mt_G_caught : gx_M := (yX2_caught, cX2_caught, 5, some .int, 4, 1, cd_G_caught, [373, 56, 371, 372])
def mt_G_thrown : gx_M := (yX2_thrown, cX2_thrown, 3, some .int, 3, 1, cd_G_thrown, [381, 56, 379, 380])
def mt_G_givenBy : gx_M := (yX2_givenBy, cX2_givenBy, 6, some .int, 3, 1, cd_G_givenBy, [279, 56, 278, 10])
def mt_G_pushStub : gx_M := (yX2_pushStub, cX2_pushStub, 4, none, 4, 1, cd_G_pushStub, [329, 56, 328, 15])
def mt_G_goBack : gx_M := (yX2_goBack, cX2_goBack, 7, some .int, 3, 1, cd_G_goBack, [357, 56, 356, 20])
def mt_G_frameBelow : gx_M := (yX2_frameBelow, cX2_frameBelow, 2, some .int, 2, 1, cd_G_frameBelow, [361, 56, 360, 21])
def mt_G_pushFrame : gx_M := (yX2_pushFrame, cX2_pushFrame, 4, none, 3, 1, cd_G_pushFrame, [333, 56, 332, 16])
def mt_G_pushArguments : gx_M := (yX2_pushArguments, cX2_pushArguments, 3, none, 2, 1, cd_G_pushArguments, [341, 56, 340, 17])
def mt_G_setLocals : gx_M := (yX2_setLocals, cX2_setLocals, 7, none, 3, 1, cd_G_setLocals, [349, 56, 348, 19])
def mt_G_isFrame : gx_M := (yX2_isFrame, cX2_isFrame, 1, some .boolean, 1, 0, cd_G_isFrame, [263, 56, 262])
def mt_G_valuesAt : gx_M := (yX2_valuesAt, cX2_valuesAt, 2, some .int, 2, 1, cd_G_valuesAt, [237, 56, 236, 4])
def mt_G_localsAt : gx_M := (yX2_localsAt, cX2_localsAt, 2, some .int, 2, 1, cd_G_localsAt, [271, 56, 270, 9])
def mt_G_isInLocals : gx_M := (yX2_isInLocals, cX2_isInLocals, 4, some .boolean, 4, 1, cd_G_isInLocals, [267, 56, 266, 8])
def mt_G_frameCount : gx_M := (yX2_frameCount, cX2_frameCount, 3, some .int, 1, 1, cd_G_frameCount, [452, 56, 451, 28])
def mt_G_isWay : gx_M := (yX2_isWay, cX2_isWay, 1, some .boolean, 1, 0, cd_G_isWay, [217, 56, 216])
def mt_G_canGo : gx_M := (yX2_canGo, cX2_canGo, 4, some .boolean, 4, 1, cd_G_canGo, [257, 56, 256, 7])
def mt_G_send : gx_M := (yX2_send, cX2_send, 4, none, 4, 1, cd_G_send, [291, 56, 290, 12])
def mt_G_isCell : gx_M := (yX2_isCell, cX2_isCell, 1, some .boolean, 1, 0, cd_G_isCell, [260, 56, 259])
def mt_G_addToken : gx_M := (yX2_addToken, cX2_addToken, 2, none, 2, 1, cd_G_addToken, [377, 56, 376, 23])
def mt_G_latestToken : gx_M := (yX2_latestToken, cX2_latestToken, 2, some .int, 1, 1, cd_G_latestToken, [233, 56, 232, 3])
def mt_G_isLive : gx_M := (yX2_isLive, cX2_isLive, 3, some .boolean, 2, 1, cd_G_isLive, [385, 56, 384, 24])
def mt_G_dropTokensFrom : gx_M := (yX2_dropTokensFrom, cX2_dropTokensFrom, 2, none, 2, 1, cd_G_dropTokensFrom, [365, 56, 364, 22])
def mt_G_push : gx_M := (yX2_push, cX2_push, 2, some .int, 2, 1, cd_G_push, [389, 56, 387, 388])
def mt_G_pop : gx_M := (yX2_pop, cX2_pop, 2, some .int, 1, 1, cd_G_pop, [393, 56, 391, 392])
def mt_G_popped : gx_M := (yX2_popped, cX2_popped, 1, some .int, 1, 1, cd_G_popped, [401, 56, 399, 400])
def mt_G_peek : gx_M := (yX2_peek, cX2_peek, 2, some .int, 2, 1, cd_G_peek, [405, 56, 403, 404])
def mt_G_copy : gx_M := (yX2_copy, cX2_copy, 4, some .int, 2, 1, cd_G_copy, [409, 56, 407, 408])
def mt_G_roll : gx_M := (yX2_roll, cX2_roll, 4, some .int, 3, 1, cd_G_roll, [413, 56, 411, 412])
def mt_G_swap : gx_M := (yX2_swap, cX2_swap, 2, some .int, 1, 1, cd_G_swap, [424, 56, 422, 423])
def mt_G_faultOfLast : gx_M := (yX2_faultOfLast, cX2_faultOfLast, 2, some .int, 2, 1, cd_G_faultOfLast, [397, 56, 396, 25])
def mt_G_rollLast : gx_M := (yX2_rollLast, cX2_rollLast, 5, none, 3, 1, cd_G_rollLast, [420, 56, 419, 26])
def mt_G_valuesBegin : gx_M := (yX2_valuesBegin, cX2_valuesBegin, 2, some .int, 1, 1, cd_G_valuesBegin, [229, 56, 228, 2])
def mt_G_valueCount : gx_M := (yX2_valueCount, cX2_valueCount, 1, some .int, 1, 1, cd_G_valueCount, [221, 56, 220, 1])
def mt_G_valueFromLast : gx_M := (yX2_valueFromLast, cX2_valueFromLast, 2, some .int, 2, 1, cd_G_valueFromLast, [283, 56, 282, 11])
def mt_G_takeValues : gx_M := (yX2_takeValues, cX2_takeValues, 3, none, 2, 1, cd_G_takeValues, [325, 56, 324, 14])
def mt_G_takenValue : gx_M := (yX2_takenValue, cX2_takenValue, 2, some .int, 2, 1, cd_G_takenValue, [345, 56, 344, 18])
def mt_G_load : gx_M := (yX2_load, cX2_load, 4, some .int, 3, 1, cd_G_load, [428, 56, 426, 427])
def mt_G_store : gx_M := (yX2_store, cX2_store, 5, some .int, 4, 1, cd_G_store, [436, 56, 434, 435])
def mt_G_faultOfLocal : gx_M := (yX2_faultOfLocal, cX2_faultOfLocal, 3, some .int, 3, 1, cd_G_faultOfLocal, [432, 56, 431, 27])
def mt_G_byteAt : gx_M := (yX2_byteAt, cX2_byteAt, 2, some .int, 2, 1, cd_G_byteAt, [440, 56, 438, 439])
def mt_G_cell : gx_M := (yX2_cell, cX2_cell, 2, some .int, 2, 1, cd_G_cell, [444, 56, 442, 443])
def mt_G_count : gx_M := (yX2_count, cX2_count, 2, some .int, 2, 1, cd_G_count, [448, 56, 446, 447])
def mt_M_init : gx_M := (yX3_init, cX3_init, 3, none, 2, 1, cd_M_init, [460, 60, 459])
def mt_M_in : gx_M := (yX3_in, cX3_in, 6, some .boolean, 3, 0, cd_M_in, [518, 60, 517])
def mt_M_fault : gx_M := (yX3_fault, cX3_fault, 1, some .int, 1, 0, cd_M_fault, [570, 60, 569])
def mt_M_read : gx_M := (yX3_read, cX3_read, 5, some .int, 3, 1, cd_M_read, [582, 60, 581, 36])
def mt_M_write : gx_M := (yX3_write, cX3_write, 6, none, 4, 1, cd_M_write, [614, 60, 613, 43])
def mt_M_isFunction : gx_M := (yX3_isFunction, cX3_isFunction, 1, some .boolean, 1, 0, cd_M_isFunction, [514, 60, 513])
def mt_M_function : gx_M := (yX3_function, cX3_function, 3, some .int, 3, 1, cd_M_function, [511, 60, 509, 510])
def mt_M_isWidth : gx_M := (yX3_isWidth, cX3_isWidth, 1, some .boolean, 1, 0, cd_M_isWidth, [526, 60, 525])
def mt_M_format : gx_M := (yX3_format, cX3_format, 4, some .int, 4, 1, cd_M_format, [523, 60, 521, 522])
def mt_M_accelerate : gx_M := (yX3_accelerate, cX3_accelerate, 4, some .int, 3, 1, cd_M_accelerate, [530, 60, 528, 529])
def mt_M_up : gx_M := (yX3_up, cX3_up, 2, some .int, 2, 0, cd_M_up, [555, 60, 554])
def mt_M_begin : gx_M := (yX3_begin, cX3_begin, 2, some .int, 2, 1, cd_M_begin, [552, 60, 551, 32])
def mt_M_locals : gx_M := (yX3_locals, cX3_locals, 4, some .int, 2, 1, cd_M_locals, [540, 60, 539, 29])
def mt_M_placeOf : gx_M := (yX3_placeOf, cX3_placeOf, 8, some .int, 3, 1, cd_M_placeOf, [548, 60, 547, 31])
def mt_M_widthOf : gx_M := (yX3_widthOf, cX3_widthOf, 5, some .int, 3, 1, cd_M_widthOf, [638, 60, 637, 49])
def mt_M_lengthOf : gx_M := (yX3_lengthOf, cX3_lengthOf, 2, some .int, 2, 1, cd_M_lengthOf, [544, 60, 543, 30])
def mt_M_told : gx_M := (yX3_told, cX3_told, 3, some .int, 3, 1, cd_M_told, [535, 60, 533, 534])
def mt_M_local : gx_M := (yX3_local, cX3_local, 3, some .int, 3, 1, cd_M_local, [559, 60, 557, 558])
def mt_M_hasFrame : gx_M := (yX3_hasFrame, cX3_hasFrame, 1, some .boolean, 1, 1, cd_M_hasFrame, [567, 60, 566, 33])
def mt_M_base : gx_M := (yX3_base, cX3_base, 3, some .int, 1, 1, cd_M_base, [578, 60, 577, 35])
def mt_M_values : gx_M := (yX3_values, cX3_values, 1, some .int, 1, 1, cd_M_values, [574, 60, 573, 34])
def mt_M_lengthAt : gx_M := (yX3_lengthAt, cX3_lengthAt, 2, some .int, 2, 1, cd_M_lengthAt, [591, 60, 590, 38])
def mt_M_localsAt : gx_M := (yX3_localsAt, cX3_localsAt, 2, some .int, 2, 1, cd_M_localsAt, [595, 60, 594, 39])
def mt_M_isPlace : gx_M := (yX3_isPlace, cX3_isPlace, 2, some .boolean, 2, 0, cd_M_isPlace, [598, 60, 597])
def mt_M_canGo : gx_M := (yX3_canGo, cX3_canGo, 4, some .boolean, 4, 1, cd_M_canGo, [586, 60, 585, 37])
def mt_M_pushes : gx_M := (yX3_pushes, cX3_pushes, 2, none, 2, 1, cd_M_pushes, [618, 60, 617, 44])
def mt_M_go : gx_M := (yX3_go, cX3_go, 4, none, 4, 1, cd_M_go, [610, 60, 609, 42])
def mt_M_stub : gx_M := (yX3_stub, cX3_stub, 4, none, 4, 1, cd_M_stub, [630, 60, 629, 47])
def mt_M_forget : gx_M := (yX3_forget, cX3_forget, 2, none, 2, 1, cd_M_forget, [654, 60, 653, 52])
def mt_M_result : gx_M := (yX3_result, cX3_result, 5, some .int, 3, 1, cd_M_result, [606, 60, 605, 41])
def mt_M_take : gx_M := (yX3_take, cX3_take, 3, none, 2, 1, cd_M_take, [602, 60, 601, 40])
def mt_M_room : gx_M := (yX3_room, cX3_room, 3, some .int, 3, 1, cd_M_room, [626, 60, 625, 46])
def mt_M_enter : gx_M := (yX3_enter, cX3_enter, 7, none, 3, 1, cd_M_enter, [634, 60, 633, 48])
def mt_M_hasHead : gx_M := (yX3_hasHead, cX3_hasHead, 2, some .boolean, 2, 1, cd_M_hasHead, [622, 60, 621, 45])
def mt_M_call : gx_M := (yX3_call, cX3_call, 6, some .int, 6, 1, cd_M_call, [563, 60, 561, 562])
def mt_M_canLeave : gx_M := (yX3_canLeave, cX3_canLeave, 1, some .boolean, 1, 1, cd_M_canLeave, [646, 60, 645, 50])
def mt_M_leaves : gx_M := (yX3_leaves, cX3_leaves, 3, some .int, 2, 1, cd_M_leaves, [650, 60, 649, 51])
def mt_M_leave : gx_M := (yX3_leave, cX3_leave, 2, some .int, 2, 1, cd_M_leave, [642, 60, 640, 641])
def mt_M_caught : gx_M := (yX3_caught, cX3_caught, 5, some .int, 4, 1, cd_M_caught, [658, 60, 656, 657])
def mt_M_thrown : gx_M := (yX3_thrown, cX3_thrown, 8, some .int, 3, 1, cd_M_thrown, [662, 60, 660, 661])
def mt_M_tail : gx_M := (yX3_tail, cX3_tail, 3, some .int, 3, 1, cd_M_tail, [666, 60, 664, 665])
def mt_M_push : gx_M := (yX3_push, cX3_push, 2, some .int, 2, 1, cd_M_push, [670, 60, 668, 669])
def mt_M_pop : gx_M := (yX3_pop, cX3_pop, 1, some .int, 1, 1, cd_M_pop, [674, 60, 672, 673])
def mt_M_popped : gx_M := (yX3_popped, cX3_popped, 1, some .int, 1, 1, cd_M_popped, [678, 60, 676, 677])
def mt_M_peek : gx_M := (yX3_peek, cX3_peek, 2, some .int, 2, 1, cd_M_peek, [682, 60, 680, 681])
def mt_M_copy : gx_M := (yX3_copy, cX3_copy, 4, some .int, 2, 1, cd_M_copy, [686, 60, 684, 685])
def mt_M_roll : gx_M := (yX3_roll, cX3_roll, 6, some .int, 3, 1, cd_M_roll, [690, 60, 688, 689])
def mt_M_swap : gx_M := (yX3_swap, cX3_swap, 2, some .int, 1, 1, cd_M_swap, [694, 60, 692, 693])
def mt_M_against : gx_M := (yX3_against, cX3_against, 3, some .int, 3, 1, cd_M_against, [702, 60, 701, 53])
def mt_M_load : gx_M := (yX3_load, cX3_load, 4, some .int, 3, 1, cd_M_load, [698, 60, 696, 697])
def mt_M_store : gx_M := (yX3_store, cX3_store, 5, some .int, 4, 1, cd_M_store, [706, 60, 704, 705])
def mt_M_byteAt : gx_M := (yX3_byteAt, cX3_byteAt, 2, some .int, 2, 1, cd_M_byteAt, [710, 60, 708, 709])
def mt_M_cell : gx_M := (yX3_cell, cX3_cell, 2, some .int, 2, 1, cd_M_cell, [714, 60, 712, 713])
def mt_M_frames : gx_M := (yX3_frames, cX3_frames, 3, some .int, 1, 1, cd_M_frames, [722, 60, 721, 54])
def mt_M_count : gx_M := (yX3_count, cX3_count, 2, some .int, 2, 1, cd_M_count, [718, 60, 716, 717])
def mt_J_floorMod : gx_M := (yJ9_floorMod_7cf53, cJ9_floorMod_7cf53, 3, some .int, 2, 0, cd_J_floorMod, [416, 58, 415])
def mt_J_max : gx_M := (yJ9_max_7cf53, cJ9_max_7cf53, 2, some .int, 2, 0, cd_J_max, [82, 58, 81])
def mt_J_min : gx_M := (yJ9_min_7cf53, cJ9_min_7cf53, 2, some .int, 2, 0, cd_J_min, [79, 58, 78])
def mt_L_cell : gx_M := (yL_cell, cL_cell, 2, some .int, 2, 0, cd_L_cell, [455, 55, 454])
def gx_mt : List gx_M := [mt_F_init, mt_F_begin, mt_F_addPair, mt_F_widthOfPair, mt_F_countOfPair, mt_F_isAccelerated, mt_F_hasFrameHead, mt_F_takesPushed, mt_F_localCount, mt_F_localsBegin, mt_F_placeOfLocal, mt_F_frameLength, mt_F_bytesWith, mt_F_upTo, mt_R_init, mt_R_size, mt_R_end, mt_R_reaches, mt_R_number, mt_R_set, mt_R_append, mt_R_appendZeros, mt_R_cutTo, mt_R_byteOrZero, mt_R_setByte, mt_G_init, mt_G_function, mt_G_format, mt_G_accelerate, mt_G_told, mt_G_local, mt_G_functionOf, mt_G_isWidth, mt_G_call, mt_G_callAccelerated, mt_G_tail, mt_G_leave, mt_G_caught, mt_G_thrown, mt_G_givenBy, mt_G_pushStub, mt_G_goBack, mt_G_frameBelow, mt_G_pushFrame, mt_G_pushArguments, mt_G_setLocals, mt_G_isFrame, mt_G_valuesAt, mt_G_localsAt, mt_G_isInLocals, mt_G_frameCount, mt_G_isWay, mt_G_canGo, mt_G_send, mt_G_isCell, mt_G_addToken, mt_G_latestToken, mt_G_isLive, mt_G_dropTokensFrom, mt_G_push, mt_G_pop, mt_G_popped, mt_G_peek, mt_G_copy, mt_G_roll, mt_G_swap, mt_G_faultOfLast, mt_G_rollLast, mt_G_valuesBegin, mt_G_valueCount, mt_G_valueFromLast, mt_G_takeValues, mt_G_takenValue, mt_G_load, mt_G_store, mt_G_faultOfLocal, mt_G_byteAt, mt_G_cell, mt_G_count, mt_M_init, mt_M_in, mt_M_fault, mt_M_read, mt_M_write, mt_M_isFunction, mt_M_function, mt_M_isWidth, mt_M_format, mt_M_accelerate, mt_M_up, mt_M_begin, mt_M_locals, mt_M_placeOf, mt_M_widthOf, mt_M_lengthOf, mt_M_told, mt_M_local, mt_M_hasFrame, mt_M_base, mt_M_values, mt_M_lengthAt, mt_M_localsAt, mt_M_isPlace, mt_M_canGo, mt_M_pushes, mt_M_go, mt_M_stub, mt_M_forget, mt_M_result, mt_M_take, mt_M_room, mt_M_enter, mt_M_hasHead, mt_M_call, mt_M_canLeave, mt_M_leaves, mt_M_leave, mt_M_caught, mt_M_thrown, mt_M_tail, mt_M_push, mt_M_pop, mt_M_popped, mt_M_peek, mt_M_copy, mt_M_roll, mt_M_swap, mt_M_against, mt_M_load, mt_M_store, mt_M_byteAt, mt_M_cell, mt_M_frames, mt_M_count, mt_J_floorMod, mt_J_max, mt_J_min, mt_L_cell]
def gx_l0 (av : List Value) (n : Nat) : gx_L := av.map some ++ List.replicate (n - av.length) none
/-- a call of a method, with calls at most d deep in it -/
def gx_call (LL : Nat) (xs : Nat → Int32) : Nat → gx_C
  | 0 => fun _ _ _ _ _ _ => False
  | d + 1 => fun z mc ms av h Q => match gx_mt[z]? with
    | some (_, _, n, _, na, _, cd, _) => (av.all (fun v => v.category == 1)) = true ∧ av.length = na ∧ gx_E LL xs (gx_call LL xs d) cd Q 0 (gx_l0 av n) [] h mc ms
    | none => False
theorem gx_call_post {LL : Nat} {xs : Nat → Int32} {d z mc ms : Nat} {av : List Value} {h : gx_H} {Q Q2 : gx_Q} (hq : ∀ r h, Q r h → Q2 r h) (h1 : gx_call LL xs d z mc ms av h Q) : gx_call LL xs d z mc ms av h Q2 := by
  cases d with
  | zero => exact h1
  | succ d =>
    unfold gx_call at h1 ⊢
    cases hz : gx_mt[z]? with
    | none => rw [hz] at h1; exact h1
    | some e =>
      obtain ⟨_, _, n, _, na, _, cd, _⟩ := e
      rw [hz] at h1
      exact ⟨h1.1, h1.2.1, gx_post hq h1.2.2⟩
abbrev z_F_init : Nat := 0
theorem gs_F_init {LL : Nat} {xs : Nat → Int32} {d mc ms : Nat} {h : gx_H} {Q : gx_Q} (o : Nat) (k : gx_E LL xs (gx_call LL xs d) cd_F_init Q 0 [some (.ref o)] [] h mc ms) : gx_call LL xs (d + 1) z_F_init mc ms [.ref o] h Q := ⟨rfl, rfl, k⟩
abbrev z_F_begin : Nat := 1
theorem gs_F_begin {LL : Nat} {xs : Nat → Int32} {d mc ms : Nat} {h : gx_H} {Q : gx_Q} (o : Nat) (a0 : Int32) (k : gx_E LL xs (gx_call LL xs d) cd_F_begin Q 0 [some (.ref o), some (.int a0)] [] h mc ms) : gx_call LL xs (d + 1) z_F_begin mc ms [.ref o, .int a0] h Q := ⟨rfl, rfl, k⟩
abbrev z_F_addPair : Nat := 2
theorem gs_F_addPair {LL : Nat} {xs : Nat → Int32} {d mc ms : Nat} {h : gx_H} {Q : gx_Q} (o : Nat) (a0 a1 : Int32) (k : gx_E LL xs (gx_call LL xs d) cd_F_addPair Q 0 [some (.ref o), some (.int a0), some (.int a1)] [] h mc ms) : gx_call LL xs (d + 1) z_F_addPair mc ms [.ref o, .int a0, .int a1] h Q := ⟨rfl, rfl, k⟩
abbrev z_F_widthOfPair : Nat := 3
theorem gs_F_widthOfPair {LL : Nat} {xs : Nat → Int32} {d mc ms : Nat} {h : gx_H} {Q : gx_Q} (o : Nat) (a0 : Int32) (k : gx_E LL xs (gx_call LL xs d) cd_F_widthOfPair Q 0 [some (.ref o), some (.int a0)] [] h mc ms) : gx_call LL xs (d + 1) z_F_widthOfPair mc ms [.ref o, .int a0] h Q := ⟨rfl, rfl, k⟩
abbrev z_F_countOfPair : Nat := 4
theorem gs_F_countOfPair {LL : Nat} {xs : Nat → Int32} {d mc ms : Nat} {h : gx_H} {Q : gx_Q} (o : Nat) (a0 : Int32) (k : gx_E LL xs (gx_call LL xs d) cd_F_countOfPair Q 0 [some (.ref o), some (.int a0)] [] h mc ms) : gx_call LL xs (d + 1) z_F_countOfPair mc ms [.ref o, .int a0] h Q := ⟨rfl, rfl, k⟩
abbrev z_F_isAccelerated : Nat := 5
theorem gs_F_isAccelerated {LL : Nat} {xs : Nat → Int32} {d mc ms : Nat} {h : gx_H} {Q : gx_Q} (o : Nat) (k : gx_E LL xs (gx_call LL xs d) cd_F_isAccelerated Q 0 [some (.ref o)] [] h mc ms) : gx_call LL xs (d + 1) z_F_isAccelerated mc ms [.ref o] h Q := ⟨rfl, rfl, k⟩
abbrev z_F_hasFrameHead : Nat := 6
theorem gs_F_hasFrameHead {LL : Nat} {xs : Nat → Int32} {d mc ms : Nat} {h : gx_H} {Q : gx_Q} (o : Nat) (k : gx_E LL xs (gx_call LL xs d) cd_F_hasFrameHead Q 0 [some (.ref o)] [] h mc ms) : gx_call LL xs (d + 1) z_F_hasFrameHead mc ms [.ref o] h Q := ⟨rfl, rfl, k⟩
abbrev z_F_takesPushed : Nat := 7
theorem gs_F_takesPushed {LL : Nat} {xs : Nat → Int32} {d mc ms : Nat} {h : gx_H} {Q : gx_Q} (o : Nat) (k : gx_E LL xs (gx_call LL xs d) cd_F_takesPushed Q 0 [some (.ref o)] [] h mc ms) : gx_call LL xs (d + 1) z_F_takesPushed mc ms [.ref o] h Q := ⟨rfl, rfl, k⟩
abbrev z_F_localCount : Nat := 8
theorem gs_F_localCount {LL : Nat} {xs : Nat → Int32} {d mc ms : Nat} {h : gx_H} {Q : gx_Q} (o : Nat) (k : gx_E LL xs (gx_call LL xs d) cd_F_localCount Q 0 [some (.ref o), none, none] [] h mc ms) : gx_call LL xs (d + 1) z_F_localCount mc ms [.ref o] h Q := ⟨rfl, rfl, k⟩
abbrev z_F_localsBegin : Nat := 9
theorem gs_F_localsBegin {LL : Nat} {xs : Nat → Int32} {d mc ms : Nat} {h : gx_H} {Q : gx_Q} (o : Nat) (k : gx_E LL xs (gx_call LL xs d) cd_F_localsBegin Q 0 [some (.ref o)] [] h mc ms) : gx_call LL xs (d + 1) z_F_localsBegin mc ms [.ref o] h Q := ⟨rfl, rfl, k⟩
abbrev z_F_placeOfLocal : Nat := 10
theorem gs_F_placeOfLocal {LL : Nat} {xs : Nat → Int32} {d mc ms : Nat} {h : gx_H} {Q : gx_Q} (o : Nat) (a0 : Int32) (k : gx_E LL xs (gx_call LL xs d) cd_F_placeOfLocal Q 0 [some (.ref o), some (.int a0), none, none, none, none] [] h mc ms) : gx_call LL xs (d + 1) z_F_placeOfLocal mc ms [.ref o, .int a0] h Q := ⟨rfl, rfl, k⟩
abbrev z_F_frameLength : Nat := 11
theorem gs_F_frameLength {LL : Nat} {xs : Nat → Int32} {d mc ms : Nat} {h : gx_H} {Q : gx_Q} (o : Nat) (k : gx_E LL xs (gx_call LL xs d) cd_F_frameLength Q 0 [some (.ref o), none, none, none] [] h mc ms) : gx_call LL xs (d + 1) z_F_frameLength mc ms [.ref o] h Q := ⟨rfl, rfl, k⟩
abbrev z_F_bytesWith : Nat := 12
theorem gs_F_bytesWith {LL : Nat} {xs : Nat → Int32} {d mc ms : Nat} {h : gx_H} {Q : gx_Q} (o : Nat) (a0 : Int32) (k : gx_E LL xs (gx_call LL xs d) cd_F_bytesWith Q 0 [some (.ref o), some (.int a0)] [] h mc ms) : gx_call LL xs (d + 1) z_F_bytesWith mc ms [.ref o, .int a0] h Q := ⟨rfl, rfl, k⟩
abbrev z_F_upTo : Nat := 13
theorem gs_F_upTo {LL : Nat} {xs : Nat → Int32} {d mc ms : Nat} {h : gx_H} {Q : gx_Q} (a0 a1 : Int32) (k : gx_E LL xs (gx_call LL xs d) cd_F_upTo Q 0 [some (.int a0), some (.int a1)] [] h mc ms) : gx_call LL xs (d + 1) z_F_upTo mc ms [.int a0, .int a1] h Q := ⟨rfl, rfl, k⟩
abbrev z_R_init : Nat := 14
theorem gs_R_init {LL : Nat} {xs : Nat → Int32} {d mc ms : Nat} {h : gx_H} {Q : gx_Q} (o : Nat) (a0 : Int32) (k : gx_E LL xs (gx_call LL xs d) cd_R_init Q 0 [some (.ref o), some (.int a0), none] [] h mc ms) : gx_call LL xs (d + 1) z_R_init mc ms [.ref o, .int a0] h Q := ⟨rfl, rfl, k⟩
abbrev z_R_size : Nat := 15
theorem gs_R_size {LL : Nat} {xs : Nat → Int32} {d mc ms : Nat} {h : gx_H} {Q : gx_Q} (o : Nat) (k : gx_E LL xs (gx_call LL xs d) cd_R_size Q 0 [some (.ref o)] [] h mc ms) : gx_call LL xs (d + 1) z_R_size mc ms [.ref o] h Q := ⟨rfl, rfl, k⟩
abbrev z_R_end : Nat := 16
theorem gs_R_end {LL : Nat} {xs : Nat → Int32} {d mc ms : Nat} {h : gx_H} {Q : gx_Q} (o : Nat) (k : gx_E LL xs (gx_call LL xs d) cd_R_end Q 0 [some (.ref o)] [] h mc ms) : gx_call LL xs (d + 1) z_R_end mc ms [.ref o] h Q := ⟨rfl, rfl, k⟩
abbrev z_R_reaches : Nat := 17
theorem gs_R_reaches {LL : Nat} {xs : Nat → Int32} {d mc ms : Nat} {h : gx_H} {Q : gx_Q} (o : Nat) (a0 : Int32) (k : gx_E LL xs (gx_call LL xs d) cd_R_reaches Q 0 [some (.ref o), some (.int a0)] [] h mc ms) : gx_call LL xs (d + 1) z_R_reaches mc ms [.ref o, .int a0] h Q := ⟨rfl, rfl, k⟩
abbrev z_R_number : Nat := 18
theorem gs_R_number {LL : Nat} {xs : Nat → Int32} {d mc ms : Nat} {h : gx_H} {Q : gx_Q} (o : Nat) (a0 a1 : Int32) (k : gx_E LL xs (gx_call LL xs d) cd_R_number Q 0 [some (.ref o), some (.int a0), some (.int a1), none, none] [] h mc ms) : gx_call LL xs (d + 1) z_R_number mc ms [.ref o, .int a0, .int a1] h Q := ⟨rfl, rfl, k⟩
abbrev z_R_set : Nat := 19
theorem gs_R_set {LL : Nat} {xs : Nat → Int32} {d mc ms : Nat} {h : gx_H} {Q : gx_Q} (o : Nat) (a0 a1 a2 : Int32) (k : gx_E LL xs (gx_call LL xs d) cd_R_set Q 0 [some (.ref o), some (.int a0), some (.int a1), some (.int a2), none, none] [] h mc ms) : gx_call LL xs (d + 1) z_R_set mc ms [.ref o, .int a0, .int a1, .int a2] h Q := ⟨rfl, rfl, k⟩
abbrev z_R_append : Nat := 20
theorem gs_R_append {LL : Nat} {xs : Nat → Int32} {d mc ms : Nat} {h : gx_H} {Q : gx_Q} (o : Nat) (a0 : Int32) (k : gx_E LL xs (gx_call LL xs d) cd_R_append Q 0 [some (.ref o), some (.int a0), none] [] h mc ms) : gx_call LL xs (d + 1) z_R_append mc ms [.ref o, .int a0] h Q := ⟨rfl, rfl, k⟩
abbrev z_R_appendZeros : Nat := 21
theorem gs_R_appendZeros {LL : Nat} {xs : Nat → Int32} {d mc ms : Nat} {h : gx_H} {Q : gx_Q} (o : Nat) (a0 : Int32) (k : gx_E LL xs (gx_call LL xs d) cd_R_appendZeros Q 0 [some (.ref o), some (.int a0), none] [] h mc ms) : gx_call LL xs (d + 1) z_R_appendZeros mc ms [.ref o, .int a0] h Q := ⟨rfl, rfl, k⟩
abbrev z_R_cutTo : Nat := 22
theorem gs_R_cutTo {LL : Nat} {xs : Nat → Int32} {d mc ms : Nat} {h : gx_H} {Q : gx_Q} (o : Nat) (a0 : Int32) (k : gx_E LL xs (gx_call LL xs d) cd_R_cutTo Q 0 [some (.ref o), some (.int a0)] [] h mc ms) : gx_call LL xs (d + 1) z_R_cutTo mc ms [.ref o, .int a0] h Q := ⟨rfl, rfl, k⟩
abbrev z_R_byteOrZero : Nat := 23
theorem gs_R_byteOrZero {LL : Nat} {xs : Nat → Int32} {d mc ms : Nat} {h : gx_H} {Q : gx_Q} (o : Nat) (a0 : Int32) (k : gx_E LL xs (gx_call LL xs d) cd_R_byteOrZero Q 0 [some (.ref o), some (.int a0)] [] h mc ms) : gx_call LL xs (d + 1) z_R_byteOrZero mc ms [.ref o, .int a0] h Q := ⟨rfl, rfl, k⟩
abbrev z_R_setByte : Nat := 24
theorem gs_R_setByte {LL : Nat} {xs : Nat → Int32} {d mc ms : Nat} {h : gx_H} {Q : gx_Q} (o : Nat) (a0 a1 : Int32) (k : gx_E LL xs (gx_call LL xs d) cd_R_setByte Q 0 [some (.ref o), some (.int a0), some (.int a1)] [] h mc ms) : gx_call LL xs (d + 1) z_R_setByte mc ms [.ref o, .int a0, .int a1] h Q := ⟨rfl, rfl, k⟩
abbrev z_G_init : Nat := 25
theorem gs_G_init {LL : Nat} {xs : Nat → Int32} {d mc ms : Nat} {h : gx_H} {Q : gx_Q} (o : Nat) (a0 : Int32) (k : gx_E LL xs (gx_call LL xs d) cd_G_init Q 0 [some (.ref o), some (.int a0), none] [] h mc ms) : gx_call LL xs (d + 1) z_G_init mc ms [.ref o, .int a0] h Q := ⟨rfl, rfl, k⟩
abbrev z_G_function : Nat := 26
theorem gs_G_function {LL : Nat} {xs : Nat → Int32} {d mc ms : Nat} {h : gx_H} {Q : gx_Q} (o : Nat) (a0 a1 : Int32) (k : gx_E LL xs (gx_call LL xs d) cd_G_function Q 0 [some (.ref o), some (.int a0), some (.int a1), none] [] h mc ms) : gx_call LL xs (d + 1) z_G_function mc ms [.ref o, .int a0, .int a1] h Q := ⟨rfl, rfl, k⟩
abbrev z_G_format : Nat := 27
theorem gs_G_format {LL : Nat} {xs : Nat → Int32} {d mc ms : Nat} {h : gx_H} {Q : gx_Q} (o : Nat) (a0 a1 a2 : Int32) (k : gx_E LL xs (gx_call LL xs d) cd_G_format Q 0 [some (.ref o), some (.int a0), some (.int a1), some (.int a2), none] [] h mc ms) : gx_call LL xs (d + 1) z_G_format mc ms [.ref o, .int a0, .int a1, .int a2] h Q := ⟨rfl, rfl, k⟩
abbrev z_G_accelerate : Nat := 28
theorem gs_G_accelerate {LL : Nat} {xs : Nat → Int32} {d mc ms : Nat} {h : gx_H} {Q : gx_Q} (o : Nat) (a0 a1 : Int32) (k : gx_E LL xs (gx_call LL xs d) cd_G_accelerate Q 0 [some (.ref o), some (.int a0), some (.int a1), none, none] [] h mc ms) : gx_call LL xs (d + 1) z_G_accelerate mc ms [.ref o, .int a0, .int a1] h Q := ⟨rfl, rfl, k⟩
abbrev z_G_told : Nat := 29
theorem gs_G_told {LL : Nat} {xs : Nat → Int32} {d mc ms : Nat} {h : gx_H} {Q : gx_Q} (o : Nat) (a0 a1 : Int32) (k : gx_E LL xs (gx_call LL xs d) cd_G_told Q 0 [some (.ref o), some (.int a0), some (.int a1), none] [] h mc ms) : gx_call LL xs (d + 1) z_G_told mc ms [.ref o, .int a0, .int a1] h Q := ⟨rfl, rfl, k⟩
abbrev z_G_local : Nat := 30
theorem gs_G_local {LL : Nat} {xs : Nat → Int32} {d mc ms : Nat} {h : gx_H} {Q : gx_Q} (o : Nat) (a0 a1 : Int32) (k : gx_E LL xs (gx_call LL xs d) cd_G_local Q 0 [some (.ref o), some (.int a0), some (.int a1), none] [] h mc ms) : gx_call LL xs (d + 1) z_G_local mc ms [.ref o, .int a0, .int a1] h Q := ⟨rfl, rfl, k⟩
abbrev z_G_functionOf : Nat := 31
theorem gs_G_functionOf {LL : Nat} {xs : Nat → Int32} {d mc ms : Nat} {h : gx_H} {Q : gx_Q} (o : Nat) (a0 : Int32) (k : gx_E LL xs (gx_call LL xs d) cd_G_functionOf Q 0 [some (.ref o), some (.int a0)] [] h mc ms) : gx_call LL xs (d + 1) z_G_functionOf mc ms [.ref o, .int a0] h Q := ⟨rfl, rfl, k⟩
abbrev z_G_isWidth : Nat := 32
theorem gs_G_isWidth {LL : Nat} {xs : Nat → Int32} {d mc ms : Nat} {h : gx_H} {Q : gx_Q} (a0 : Int32) (k : gx_E LL xs (gx_call LL xs d) cd_G_isWidth Q 0 [some (.int a0)] [] h mc ms) : gx_call LL xs (d + 1) z_G_isWidth mc ms [.int a0] h Q := ⟨rfl, rfl, k⟩
abbrev z_G_call : Nat := 33
theorem gs_G_call {LL : Nat} {xs : Nat → Int32} {d mc ms : Nat} {h : gx_H} {Q : gx_Q} (o : Nat) (a0 a1 a2 a3 a4 : Int32) (k : gx_E LL xs (gx_call LL xs d) cd_G_call Q 0 [some (.ref o), some (.int a0), some (.int a1), some (.int a2), some (.int a3), some (.int a4), none, none] [] h mc ms) : gx_call LL xs (d + 1) z_G_call mc ms [.ref o, .int a0, .int a1, .int a2, .int a3, .int a4] h Q := ⟨rfl, rfl, k⟩
abbrev z_G_callAccelerated : Nat := 34
theorem gs_G_callAccelerated {LL : Nat} {xs : Nat → Int32} {d mc ms : Nat} {h : gx_H} {Q : gx_Q} (o q0 : Nat) (a1 a2 a3 : Int32) (k : gx_E LL xs (gx_call LL xs d) cd_G_callAccelerated Q 0 [some (.ref o), some (.ref q0), some (.int a1), some (.int a2), some (.int a3), none, none] [] h mc ms) : gx_call LL xs (d + 1) z_G_callAccelerated mc ms [.ref o, .ref q0, .int a1, .int a2, .int a3] h Q := ⟨rfl, rfl, k⟩
abbrev z_G_tail : Nat := 35
theorem gs_G_tail {LL : Nat} {xs : Nat → Int32} {d mc ms : Nat} {h : gx_H} {Q : gx_Q} (o : Nat) (a0 a1 : Int32) (k : gx_E LL xs (gx_call LL xs d) cd_G_tail Q 0 [some (.ref o), some (.int a0), some (.int a1), none] [] h mc ms) : gx_call LL xs (d + 1) z_G_tail mc ms [.ref o, .int a0, .int a1] h Q := ⟨rfl, rfl, k⟩
abbrev z_G_leave : Nat := 36
theorem gs_G_leave {LL : Nat} {xs : Nat → Int32} {d mc ms : Nat} {h : gx_H} {Q : gx_Q} (o : Nat) (a0 : Int32) (k : gx_E LL xs (gx_call LL xs d) cd_G_leave Q 0 [some (.ref o), some (.int a0)] [] h mc ms) : gx_call LL xs (d + 1) z_G_leave mc ms [.ref o, .int a0] h Q := ⟨rfl, rfl, k⟩
abbrev z_G_caught : Nat := 37
theorem gs_G_caught {LL : Nat} {xs : Nat → Int32} {d mc ms : Nat} {h : gx_H} {Q : gx_Q} (o : Nat) (a0 a1 a2 : Int32) (k : gx_E LL xs (gx_call LL xs d) cd_G_caught Q 0 [some (.ref o), some (.int a0), some (.int a1), some (.int a2), none] [] h mc ms) : gx_call LL xs (d + 1) z_G_caught mc ms [.ref o, .int a0, .int a1, .int a2] h Q := ⟨rfl, rfl, k⟩
abbrev z_G_thrown : Nat := 38
theorem gs_G_thrown {LL : Nat} {xs : Nat → Int32} {d mc ms : Nat} {h : gx_H} {Q : gx_Q} (o : Nat) (a0 a1 : Int32) (k : gx_E LL xs (gx_call LL xs d) cd_G_thrown Q 0 [some (.ref o), some (.int a0), some (.int a1)] [] h mc ms) : gx_call LL xs (d + 1) z_G_thrown mc ms [.ref o, .int a0, .int a1] h Q := ⟨rfl, rfl, k⟩
abbrev z_G_givenBy : Nat := 39
theorem gs_G_givenBy {LL : Nat} {xs : Nat → Int32} {d mc ms : Nat} {h : gx_H} {Q : gx_Q} (o : Nat) (a0 a1 : Int32) (k : gx_E LL xs (gx_call LL xs d) cd_G_givenBy Q 0 [some (.ref o), some (.int a0), some (.int a1), none, none, none] [] h mc ms) : gx_call LL xs (d + 1) z_G_givenBy mc ms [.ref o, .int a0, .int a1] h Q := ⟨rfl, rfl, k⟩
abbrev z_G_pushStub : Nat := 40
theorem gs_G_pushStub {LL : Nat} {xs : Nat → Int32} {d mc ms : Nat} {h : gx_H} {Q : gx_Q} (o : Nat) (a0 a1 a2 : Int32) (k : gx_E LL xs (gx_call LL xs d) cd_G_pushStub Q 0 [some (.ref o), some (.int a0), some (.int a1), some (.int a2)] [] h mc ms) : gx_call LL xs (d + 1) z_G_pushStub mc ms [.ref o, .int a0, .int a1, .int a2] h Q := ⟨rfl, rfl, k⟩
abbrev z_G_goBack : Nat := 41
theorem gs_G_goBack {LL : Nat} {xs : Nat → Int32} {d mc ms : Nat} {h : gx_H} {Q : gx_Q} (o : Nat) (a0 a1 : Int32) (k : gx_E LL xs (gx_call LL xs d) cd_G_goBack Q 0 [some (.ref o), some (.int a0), some (.int a1), none, none, none, none] [] h mc ms) : gx_call LL xs (d + 1) z_G_goBack mc ms [.ref o, .int a0, .int a1] h Q := ⟨rfl, rfl, k⟩
abbrev z_G_frameBelow : Nat := 42
theorem gs_G_frameBelow {LL : Nat} {xs : Nat → Int32} {d mc ms : Nat} {h : gx_H} {Q : gx_Q} (o : Nat) (a0 : Int32) (k : gx_E LL xs (gx_call LL xs d) cd_G_frameBelow Q 0 [some (.ref o), some (.int a0)] [] h mc ms) : gx_call LL xs (d + 1) z_G_frameBelow mc ms [.ref o, .int a0] h Q := ⟨rfl, rfl, k⟩
abbrev z_G_pushFrame : Nat := 43
theorem gs_G_pushFrame {LL : Nat} {xs : Nat → Int32} {d mc ms : Nat} {h : gx_H} {Q : gx_Q} (o q0 : Nat) (a1 : Int32) (k : gx_E LL xs (gx_call LL xs d) cd_G_pushFrame Q 0 [some (.ref o), some (.ref q0), some (.int a1), none] [] h mc ms) : gx_call LL xs (d + 1) z_G_pushFrame mc ms [.ref o, .ref q0, .int a1] h Q := ⟨rfl, rfl, k⟩
abbrev z_G_pushArguments : Nat := 44
theorem gs_G_pushArguments {LL : Nat} {xs : Nat → Int32} {d mc ms : Nat} {h : gx_H} {Q : gx_Q} (o : Nat) (a0 : Int32) (k : gx_E LL xs (gx_call LL xs d) cd_G_pushArguments Q 0 [some (.ref o), some (.int a0), none] [] h mc ms) : gx_call LL xs (d + 1) z_G_pushArguments mc ms [.ref o, .int a0] h Q := ⟨rfl, rfl, k⟩
abbrev z_G_setLocals : Nat := 45
theorem gs_G_setLocals {LL : Nat} {xs : Nat → Int32} {d mc ms : Nat} {h : gx_H} {Q : gx_Q} (o q0 : Nat) (a1 : Int32) (k : gx_E LL xs (gx_call LL xs d) cd_G_setLocals Q 0 [some (.ref o), some (.ref q0), some (.int a1), none, none, none, none] [] h mc ms) : gx_call LL xs (d + 1) z_G_setLocals mc ms [.ref o, .ref q0, .int a1] h Q := ⟨rfl, rfl, k⟩
abbrev z_G_isFrame : Nat := 46
theorem gs_G_isFrame {LL : Nat} {xs : Nat → Int32} {d mc ms : Nat} {h : gx_H} {Q : gx_Q} (a0 : Int32) (k : gx_E LL xs (gx_call LL xs d) cd_G_isFrame Q 0 [some (.int a0)] [] h mc ms) : gx_call LL xs (d + 1) z_G_isFrame mc ms [.int a0] h Q := ⟨rfl, rfl, k⟩
abbrev z_G_valuesAt : Nat := 47
theorem gs_G_valuesAt {LL : Nat} {xs : Nat → Int32} {d mc ms : Nat} {h : gx_H} {Q : gx_Q} (o : Nat) (a0 : Int32) (k : gx_E LL xs (gx_call LL xs d) cd_G_valuesAt Q 0 [some (.ref o), some (.int a0)] [] h mc ms) : gx_call LL xs (d + 1) z_G_valuesAt mc ms [.ref o, .int a0] h Q := ⟨rfl, rfl, k⟩
abbrev z_G_localsAt : Nat := 48
theorem gs_G_localsAt {LL : Nat} {xs : Nat → Int32} {d mc ms : Nat} {h : gx_H} {Q : gx_Q} (o : Nat) (a0 : Int32) (k : gx_E LL xs (gx_call LL xs d) cd_G_localsAt Q 0 [some (.ref o), some (.int a0)] [] h mc ms) : gx_call LL xs (d + 1) z_G_localsAt mc ms [.ref o, .int a0] h Q := ⟨rfl, rfl, k⟩
abbrev z_G_isInLocals : Nat := 49
theorem gs_G_isInLocals {LL : Nat} {xs : Nat → Int32} {d mc ms : Nat} {h : gx_H} {Q : gx_Q} (o : Nat) (a0 a1 a2 : Int32) (k : gx_E LL xs (gx_call LL xs d) cd_G_isInLocals Q 0 [some (.ref o), some (.int a0), some (.int a1), some (.int a2)] [] h mc ms) : gx_call LL xs (d + 1) z_G_isInLocals mc ms [.ref o, .int a0, .int a1, .int a2] h Q := ⟨rfl, rfl, k⟩
abbrev z_G_frameCount : Nat := 50
theorem gs_G_frameCount {LL : Nat} {xs : Nat → Int32} {d mc ms : Nat} {h : gx_H} {Q : gx_Q} (o : Nat) (k : gx_E LL xs (gx_call LL xs d) cd_G_frameCount Q 0 [some (.ref o), none, none] [] h mc ms) : gx_call LL xs (d + 1) z_G_frameCount mc ms [.ref o] h Q := ⟨rfl, rfl, k⟩
abbrev z_G_isWay : Nat := 51
theorem gs_G_isWay {LL : Nat} {xs : Nat → Int32} {d mc ms : Nat} {h : gx_H} {Q : gx_Q} (a0 : Int32) (k : gx_E LL xs (gx_call LL xs d) cd_G_isWay Q 0 [some (.int a0)] [] h mc ms) : gx_call LL xs (d + 1) z_G_isWay mc ms [.int a0] h Q := ⟨rfl, rfl, k⟩
abbrev z_G_canGo : Nat := 52
theorem gs_G_canGo {LL : Nat} {xs : Nat → Int32} {d mc ms : Nat} {h : gx_H} {Q : gx_Q} (o : Nat) (a0 a1 a2 : Int32) (k : gx_E LL xs (gx_call LL xs d) cd_G_canGo Q 0 [some (.ref o), some (.int a0), some (.int a1), some (.int a2)] [] h mc ms) : gx_call LL xs (d + 1) z_G_canGo mc ms [.ref o, .int a0, .int a1, .int a2] h Q := ⟨rfl, rfl, k⟩
abbrev z_G_send : Nat := 53
theorem gs_G_send {LL : Nat} {xs : Nat → Int32} {d mc ms : Nat} {h : gx_H} {Q : gx_Q} (o : Nat) (a0 a1 a2 : Int32) (k : gx_E LL xs (gx_call LL xs d) cd_G_send Q 0 [some (.ref o), some (.int a0), some (.int a1), some (.int a2)] [] h mc ms) : gx_call LL xs (d + 1) z_G_send mc ms [.ref o, .int a0, .int a1, .int a2] h Q := ⟨rfl, rfl, k⟩
abbrev z_G_isCell : Nat := 54
theorem gs_G_isCell {LL : Nat} {xs : Nat → Int32} {d mc ms : Nat} {h : gx_H} {Q : gx_Q} (a0 : Int32) (k : gx_E LL xs (gx_call LL xs d) cd_G_isCell Q 0 [some (.int a0)] [] h mc ms) : gx_call LL xs (d + 1) z_G_isCell mc ms [.int a0] h Q := ⟨rfl, rfl, k⟩
abbrev z_G_addToken : Nat := 55
theorem gs_G_addToken {LL : Nat} {xs : Nat → Int32} {d mc ms : Nat} {h : gx_H} {Q : gx_Q} (o : Nat) (a0 : Int32) (k : gx_E LL xs (gx_call LL xs d) cd_G_addToken Q 0 [some (.ref o), some (.int a0)] [] h mc ms) : gx_call LL xs (d + 1) z_G_addToken mc ms [.ref o, .int a0] h Q := ⟨rfl, rfl, k⟩
abbrev z_G_latestToken : Nat := 56
theorem gs_G_latestToken {LL : Nat} {xs : Nat → Int32} {d mc ms : Nat} {h : gx_H} {Q : gx_Q} (o : Nat) (k : gx_E LL xs (gx_call LL xs d) cd_G_latestToken Q 0 [some (.ref o), none] [] h mc ms) : gx_call LL xs (d + 1) z_G_latestToken mc ms [.ref o] h Q := ⟨rfl, rfl, k⟩
abbrev z_G_isLive : Nat := 57
theorem gs_G_isLive {LL : Nat} {xs : Nat → Int32} {d mc ms : Nat} {h : gx_H} {Q : gx_Q} (o : Nat) (a0 : Int32) (k : gx_E LL xs (gx_call LL xs d) cd_G_isLive Q 0 [some (.ref o), some (.int a0), none] [] h mc ms) : gx_call LL xs (d + 1) z_G_isLive mc ms [.ref o, .int a0] h Q := ⟨rfl, rfl, k⟩
abbrev z_G_dropTokensFrom : Nat := 58
theorem gs_G_dropTokensFrom {LL : Nat} {xs : Nat → Int32} {d mc ms : Nat} {h : gx_H} {Q : gx_Q} (o : Nat) (a0 : Int32) (k : gx_E LL xs (gx_call LL xs d) cd_G_dropTokensFrom Q 0 [some (.ref o), some (.int a0)] [] h mc ms) : gx_call LL xs (d + 1) z_G_dropTokensFrom mc ms [.ref o, .int a0] h Q := ⟨rfl, rfl, k⟩
abbrev z_G_push : Nat := 59
theorem gs_G_push {LL : Nat} {xs : Nat → Int32} {d mc ms : Nat} {h : gx_H} {Q : gx_Q} (o : Nat) (a0 : Int32) (k : gx_E LL xs (gx_call LL xs d) cd_G_push Q 0 [some (.ref o), some (.int a0)] [] h mc ms) : gx_call LL xs (d + 1) z_G_push mc ms [.ref o, .int a0] h Q := ⟨rfl, rfl, k⟩
abbrev z_G_pop : Nat := 60
theorem gs_G_pop {LL : Nat} {xs : Nat → Int32} {d mc ms : Nat} {h : gx_H} {Q : gx_Q} (o : Nat) (k : gx_E LL xs (gx_call LL xs d) cd_G_pop Q 0 [some (.ref o), none] [] h mc ms) : gx_call LL xs (d + 1) z_G_pop mc ms [.ref o] h Q := ⟨rfl, rfl, k⟩
abbrev z_G_popped : Nat := 61
theorem gs_G_popped {LL : Nat} {xs : Nat → Int32} {d mc ms : Nat} {h : gx_H} {Q : gx_Q} (o : Nat) (k : gx_E LL xs (gx_call LL xs d) cd_G_popped Q 0 [some (.ref o)] [] h mc ms) : gx_call LL xs (d + 1) z_G_popped mc ms [.ref o] h Q := ⟨rfl, rfl, k⟩
abbrev z_G_peek : Nat := 62
theorem gs_G_peek {LL : Nat} {xs : Nat → Int32} {d mc ms : Nat} {h : gx_H} {Q : gx_Q} (o : Nat) (a0 : Int32) (k : gx_E LL xs (gx_call LL xs d) cd_G_peek Q 0 [some (.ref o), some (.int a0)] [] h mc ms) : gx_call LL xs (d + 1) z_G_peek mc ms [.ref o, .int a0] h Q := ⟨rfl, rfl, k⟩
abbrev z_G_copy : Nat := 63
theorem gs_G_copy {LL : Nat} {xs : Nat → Int32} {d mc ms : Nat} {h : gx_H} {Q : gx_Q} (o : Nat) (a0 : Int32) (k : gx_E LL xs (gx_call LL xs d) cd_G_copy Q 0 [some (.ref o), some (.int a0), none, none] [] h mc ms) : gx_call LL xs (d + 1) z_G_copy mc ms [.ref o, .int a0] h Q := ⟨rfl, rfl, k⟩
abbrev z_G_roll : Nat := 64
theorem gs_G_roll {LL : Nat} {xs : Nat → Int32} {d mc ms : Nat} {h : gx_H} {Q : gx_Q} (o : Nat) (a0 a1 : Int32) (k : gx_E LL xs (gx_call LL xs d) cd_G_roll Q 0 [some (.ref o), some (.int a0), some (.int a1), none] [] h mc ms) : gx_call LL xs (d + 1) z_G_roll mc ms [.ref o, .int a0, .int a1] h Q := ⟨rfl, rfl, k⟩
abbrev z_G_swap : Nat := 65
theorem gs_G_swap {LL : Nat} {xs : Nat → Int32} {d mc ms : Nat} {h : gx_H} {Q : gx_Q} (o : Nat) (k : gx_E LL xs (gx_call LL xs d) cd_G_swap Q 0 [some (.ref o), none] [] h mc ms) : gx_call LL xs (d + 1) z_G_swap mc ms [.ref o] h Q := ⟨rfl, rfl, k⟩
abbrev z_G_faultOfLast : Nat := 66
theorem gs_G_faultOfLast {LL : Nat} {xs : Nat → Int32} {d mc ms : Nat} {h : gx_H} {Q : gx_Q} (o : Nat) (a0 : Int32) (k : gx_E LL xs (gx_call LL xs d) cd_G_faultOfLast Q 0 [some (.ref o), some (.int a0)] [] h mc ms) : gx_call LL xs (d + 1) z_G_faultOfLast mc ms [.ref o, .int a0] h Q := ⟨rfl, rfl, k⟩
abbrev z_G_rollLast : Nat := 67
theorem gs_G_rollLast {LL : Nat} {xs : Nat → Int32} {d mc ms : Nat} {h : gx_H} {Q : gx_Q} (o : Nat) (a0 a1 : Int32) (k : gx_E LL xs (gx_call LL xs d) cd_G_rollLast Q 0 [some (.ref o), some (.int a0), some (.int a1), none, none] [] h mc ms) : gx_call LL xs (d + 1) z_G_rollLast mc ms [.ref o, .int a0, .int a1] h Q := ⟨rfl, rfl, k⟩
abbrev z_G_valuesBegin : Nat := 68
theorem gs_G_valuesBegin {LL : Nat} {xs : Nat → Int32} {d mc ms : Nat} {h : gx_H} {Q : gx_Q} (o : Nat) (k : gx_E LL xs (gx_call LL xs d) cd_G_valuesBegin Q 0 [some (.ref o), none] [] h mc ms) : gx_call LL xs (d + 1) z_G_valuesBegin mc ms [.ref o] h Q := ⟨rfl, rfl, k⟩
abbrev z_G_valueCount : Nat := 69
theorem gs_G_valueCount {LL : Nat} {xs : Nat → Int32} {d mc ms : Nat} {h : gx_H} {Q : gx_Q} (o : Nat) (k : gx_E LL xs (gx_call LL xs d) cd_G_valueCount Q 0 [some (.ref o)] [] h mc ms) : gx_call LL xs (d + 1) z_G_valueCount mc ms [.ref o] h Q := ⟨rfl, rfl, k⟩
abbrev z_G_valueFromLast : Nat := 70
theorem gs_G_valueFromLast {LL : Nat} {xs : Nat → Int32} {d mc ms : Nat} {h : gx_H} {Q : gx_Q} (o : Nat) (a0 : Int32) (k : gx_E LL xs (gx_call LL xs d) cd_G_valueFromLast Q 0 [some (.ref o), some (.int a0)] [] h mc ms) : gx_call LL xs (d + 1) z_G_valueFromLast mc ms [.ref o, .int a0] h Q := ⟨rfl, rfl, k⟩
abbrev z_G_takeValues : Nat := 71
theorem gs_G_takeValues {LL : Nat} {xs : Nat → Int32} {d mc ms : Nat} {h : gx_H} {Q : gx_Q} (o : Nat) (a0 : Int32) (k : gx_E LL xs (gx_call LL xs d) cd_G_takeValues Q 0 [some (.ref o), some (.int a0), none] [] h mc ms) : gx_call LL xs (d + 1) z_G_takeValues mc ms [.ref o, .int a0] h Q := ⟨rfl, rfl, k⟩
abbrev z_G_takenValue : Nat := 72
theorem gs_G_takenValue {LL : Nat} {xs : Nat → Int32} {d mc ms : Nat} {h : gx_H} {Q : gx_Q} (o : Nat) (a0 : Int32) (k : gx_E LL xs (gx_call LL xs d) cd_G_takenValue Q 0 [some (.ref o), some (.int a0)] [] h mc ms) : gx_call LL xs (d + 1) z_G_takenValue mc ms [.ref o, .int a0] h Q := ⟨rfl, rfl, k⟩
abbrev z_G_load : Nat := 73
theorem gs_G_load {LL : Nat} {xs : Nat → Int32} {d mc ms : Nat} {h : gx_H} {Q : gx_Q} (o : Nat) (a0 a1 : Int32) (k : gx_E LL xs (gx_call LL xs d) cd_G_load Q 0 [some (.ref o), some (.int a0), some (.int a1), none] [] h mc ms) : gx_call LL xs (d + 1) z_G_load mc ms [.ref o, .int a0, .int a1] h Q := ⟨rfl, rfl, k⟩
abbrev z_G_store : Nat := 74
theorem gs_G_store {LL : Nat} {xs : Nat → Int32} {d mc ms : Nat} {h : gx_H} {Q : gx_Q} (o : Nat) (a0 a1 a2 : Int32) (k : gx_E LL xs (gx_call LL xs d) cd_G_store Q 0 [some (.ref o), some (.int a0), some (.int a1), some (.int a2), none] [] h mc ms) : gx_call LL xs (d + 1) z_G_store mc ms [.ref o, .int a0, .int a1, .int a2] h Q := ⟨rfl, rfl, k⟩
abbrev z_G_faultOfLocal : Nat := 75
theorem gs_G_faultOfLocal {LL : Nat} {xs : Nat → Int32} {d mc ms : Nat} {h : gx_H} {Q : gx_Q} (o : Nat) (a0 a1 : Int32) (k : gx_E LL xs (gx_call LL xs d) cd_G_faultOfLocal Q 0 [some (.ref o), some (.int a0), some (.int a1)] [] h mc ms) : gx_call LL xs (d + 1) z_G_faultOfLocal mc ms [.ref o, .int a0, .int a1] h Q := ⟨rfl, rfl, k⟩
abbrev z_G_byteAt : Nat := 76
theorem gs_G_byteAt {LL : Nat} {xs : Nat → Int32} {d mc ms : Nat} {h : gx_H} {Q : gx_Q} (o : Nat) (a0 : Int32) (k : gx_E LL xs (gx_call LL xs d) cd_G_byteAt Q 0 [some (.ref o), some (.int a0)] [] h mc ms) : gx_call LL xs (d + 1) z_G_byteAt mc ms [.ref o, .int a0] h Q := ⟨rfl, rfl, k⟩
abbrev z_G_cell : Nat := 77
theorem gs_G_cell {LL : Nat} {xs : Nat → Int32} {d mc ms : Nat} {h : gx_H} {Q : gx_Q} (o : Nat) (a0 : Int32) (k : gx_E LL xs (gx_call LL xs d) cd_G_cell Q 0 [some (.ref o), some (.int a0)] [] h mc ms) : gx_call LL xs (d + 1) z_G_cell mc ms [.ref o, .int a0] h Q := ⟨rfl, rfl, k⟩
abbrev z_G_count : Nat := 78
theorem gs_G_count {LL : Nat} {xs : Nat → Int32} {d mc ms : Nat} {h : gx_H} {Q : gx_Q} (o : Nat) (a0 : Int32) (k : gx_E LL xs (gx_call LL xs d) cd_G_count Q 0 [some (.ref o), some (.int a0)] [] h mc ms) : gx_call LL xs (d + 1) z_G_count mc ms [.ref o, .int a0] h Q := ⟨rfl, rfl, k⟩
abbrev z_M_init : Nat := 79
theorem gs_M_init {LL : Nat} {xs : Nat → Int32} {d mc ms : Nat} {h : gx_H} {Q : gx_Q} (o : Nat) (a0 : Int32) (k : gx_E LL xs (gx_call LL xs d) cd_M_init Q 0 [some (.ref o), some (.int a0), none] [] h mc ms) : gx_call LL xs (d + 1) z_M_init mc ms [.ref o, .int a0] h Q := ⟨rfl, rfl, k⟩
abbrev z_M_fault : Nat := 81
theorem gs_M_fault {LL : Nat} {xs : Nat → Int32} {d mc ms : Nat} {h : gx_H} {Q : gx_Q} (a0 : Int32) (k : gx_E LL xs (gx_call LL xs d) cd_M_fault Q 0 [some (.int a0)] [] h mc ms) : gx_call LL xs (d + 1) z_M_fault mc ms [.int a0] h Q := ⟨rfl, rfl, k⟩
abbrev z_M_read : Nat := 82
theorem gs_M_read {LL : Nat} {xs : Nat → Int32} {d mc ms : Nat} {h : gx_H} {Q : gx_Q} (o : Nat) (a0 a1 : Int32) (k : gx_E LL xs (gx_call LL xs d) cd_M_read Q 0 [some (.ref o), some (.int a0), some (.int a1), none, none] [] h mc ms) : gx_call LL xs (d + 1) z_M_read mc ms [.ref o, .int a0, .int a1] h Q := ⟨rfl, rfl, k⟩
abbrev z_M_write : Nat := 83
theorem gs_M_write {LL : Nat} {xs : Nat → Int32} {d mc ms : Nat} {h : gx_H} {Q : gx_Q} (o : Nat) (a0 a1 a2 : Int32) (k : gx_E LL xs (gx_call LL xs d) cd_M_write Q 0 [some (.ref o), some (.int a0), some (.int a1), some (.int a2), none, none] [] h mc ms) : gx_call LL xs (d + 1) z_M_write mc ms [.ref o, .int a0, .int a1, .int a2] h Q := ⟨rfl, rfl, k⟩
abbrev z_M_isFunction : Nat := 84
theorem gs_M_isFunction {LL : Nat} {xs : Nat → Int32} {d mc ms : Nat} {h : gx_H} {Q : gx_Q} (a0 : Int32) (k : gx_E LL xs (gx_call LL xs d) cd_M_isFunction Q 0 [some (.int a0)] [] h mc ms) : gx_call LL xs (d + 1) z_M_isFunction mc ms [.int a0] h Q := ⟨rfl, rfl, k⟩
abbrev z_M_function : Nat := 85
theorem gs_M_function {LL : Nat} {xs : Nat → Int32} {d mc ms : Nat} {h : gx_H} {Q : gx_Q} (o : Nat) (a0 a1 : Int32) (k : gx_E LL xs (gx_call LL xs d) cd_M_function Q 0 [some (.ref o), some (.int a0), some (.int a1)] [] h mc ms) : gx_call LL xs (d + 1) z_M_function mc ms [.ref o, .int a0, .int a1] h Q := ⟨rfl, rfl, k⟩
abbrev z_M_isWidth : Nat := 86
theorem gs_M_isWidth {LL : Nat} {xs : Nat → Int32} {d mc ms : Nat} {h : gx_H} {Q : gx_Q} (a0 : Int32) (k : gx_E LL xs (gx_call LL xs d) cd_M_isWidth Q 0 [some (.int a0)] [] h mc ms) : gx_call LL xs (d + 1) z_M_isWidth mc ms [.int a0] h Q := ⟨rfl, rfl, k⟩
abbrev z_M_format : Nat := 87
theorem gs_M_format {LL : Nat} {xs : Nat → Int32} {d mc ms : Nat} {h : gx_H} {Q : gx_Q} (o : Nat) (a0 a1 a2 : Int32) (k : gx_E LL xs (gx_call LL xs d) cd_M_format Q 0 [some (.ref o), some (.int a0), some (.int a1), some (.int a2)] [] h mc ms) : gx_call LL xs (d + 1) z_M_format mc ms [.ref o, .int a0, .int a1, .int a2] h Q := ⟨rfl, rfl, k⟩
abbrev z_M_accelerate : Nat := 88
theorem gs_M_accelerate {LL : Nat} {xs : Nat → Int32} {d mc ms : Nat} {h : gx_H} {Q : gx_Q} (o : Nat) (a0 a1 : Int32) (k : gx_E LL xs (gx_call LL xs d) cd_M_accelerate Q 0 [some (.ref o), some (.int a0), some (.int a1), none] [] h mc ms) : gx_call LL xs (d + 1) z_M_accelerate mc ms [.ref o, .int a0, .int a1] h Q := ⟨rfl, rfl, k⟩
abbrev z_M_up : Nat := 89
theorem gs_M_up {LL : Nat} {xs : Nat → Int32} {d mc ms : Nat} {h : gx_H} {Q : gx_Q} (a0 a1 : Int32) (k : gx_E LL xs (gx_call LL xs d) cd_M_up Q 0 [some (.int a0), some (.int a1)] [] h mc ms) : gx_call LL xs (d + 1) z_M_up mc ms [.int a0, .int a1] h Q := ⟨rfl, rfl, k⟩
abbrev z_M_begin : Nat := 90
theorem gs_M_begin {LL : Nat} {xs : Nat → Int32} {d mc ms : Nat} {h : gx_H} {Q : gx_Q} (o : Nat) (a0 : Int32) (k : gx_E LL xs (gx_call LL xs d) cd_M_begin Q 0 [some (.ref o), some (.int a0)] [] h mc ms) : gx_call LL xs (d + 1) z_M_begin mc ms [.ref o, .int a0] h Q := ⟨rfl, rfl, k⟩
abbrev z_M_locals : Nat := 91
theorem gs_M_locals {LL : Nat} {xs : Nat → Int32} {d mc ms : Nat} {h : gx_H} {Q : gx_Q} (o : Nat) (a0 : Int32) (k : gx_E LL xs (gx_call LL xs d) cd_M_locals Q 0 [some (.ref o), some (.int a0), none, none] [] h mc ms) : gx_call LL xs (d + 1) z_M_locals mc ms [.ref o, .int a0] h Q := ⟨rfl, rfl, k⟩
abbrev z_M_placeOf : Nat := 92
theorem gs_M_placeOf {LL : Nat} {xs : Nat → Int32} {d mc ms : Nat} {h : gx_H} {Q : gx_Q} (o : Nat) (a0 a1 : Int32) (k : gx_E LL xs (gx_call LL xs d) cd_M_placeOf Q 0 [some (.ref o), some (.int a0), some (.int a1), none, none, none, none, none] [] h mc ms) : gx_call LL xs (d + 1) z_M_placeOf mc ms [.ref o, .int a0, .int a1] h Q := ⟨rfl, rfl, k⟩
abbrev z_M_widthOf : Nat := 93
theorem gs_M_widthOf {LL : Nat} {xs : Nat → Int32} {d mc ms : Nat} {h : gx_H} {Q : gx_Q} (o : Nat) (a0 a1 : Int32) (k : gx_E LL xs (gx_call LL xs d) cd_M_widthOf Q 0 [some (.ref o), some (.int a0), some (.int a1), none, none] [] h mc ms) : gx_call LL xs (d + 1) z_M_widthOf mc ms [.ref o, .int a0, .int a1] h Q := ⟨rfl, rfl, k⟩
abbrev z_M_lengthOf : Nat := 94
theorem gs_M_lengthOf {LL : Nat} {xs : Nat → Int32} {d mc ms : Nat} {h : gx_H} {Q : gx_Q} (o : Nat) (a0 : Int32) (k : gx_E LL xs (gx_call LL xs d) cd_M_lengthOf Q 0 [some (.ref o), some (.int a0)] [] h mc ms) : gx_call LL xs (d + 1) z_M_lengthOf mc ms [.ref o, .int a0] h Q := ⟨rfl, rfl, k⟩
abbrev z_M_told : Nat := 95
theorem gs_M_told {LL : Nat} {xs : Nat → Int32} {d mc ms : Nat} {h : gx_H} {Q : gx_Q} (o : Nat) (a0 a1 : Int32) (k : gx_E LL xs (gx_call LL xs d) cd_M_told Q 0 [some (.ref o), some (.int a0), some (.int a1)] [] h mc ms) : gx_call LL xs (d + 1) z_M_told mc ms [.ref o, .int a0, .int a1] h Q := ⟨rfl, rfl, k⟩
abbrev z_M_local : Nat := 96
theorem gs_M_local {LL : Nat} {xs : Nat → Int32} {d mc ms : Nat} {h : gx_H} {Q : gx_Q} (o : Nat) (a0 a1 : Int32) (k : gx_E LL xs (gx_call LL xs d) cd_M_local Q 0 [some (.ref o), some (.int a0), some (.int a1)] [] h mc ms) : gx_call LL xs (d + 1) z_M_local mc ms [.ref o, .int a0, .int a1] h Q := ⟨rfl, rfl, k⟩
abbrev z_M_hasFrame : Nat := 97
theorem gs_M_hasFrame {LL : Nat} {xs : Nat → Int32} {d mc ms : Nat} {h : gx_H} {Q : gx_Q} (o : Nat) (k : gx_E LL xs (gx_call LL xs d) cd_M_hasFrame Q 0 [some (.ref o)] [] h mc ms) : gx_call LL xs (d + 1) z_M_hasFrame mc ms [.ref o] h Q := ⟨rfl, rfl, k⟩
abbrev z_M_base : Nat := 98
theorem gs_M_base {LL : Nat} {xs : Nat → Int32} {d mc ms : Nat} {h : gx_H} {Q : gx_Q} (o : Nat) (k : gx_E LL xs (gx_call LL xs d) cd_M_base Q 0 [some (.ref o), none, none] [] h mc ms) : gx_call LL xs (d + 1) z_M_base mc ms [.ref o] h Q := ⟨rfl, rfl, k⟩
abbrev z_M_values : Nat := 99
theorem gs_M_values {LL : Nat} {xs : Nat → Int32} {d mc ms : Nat} {h : gx_H} {Q : gx_Q} (o : Nat) (k : gx_E LL xs (gx_call LL xs d) cd_M_values Q 0 [some (.ref o)] [] h mc ms) : gx_call LL xs (d + 1) z_M_values mc ms [.ref o] h Q := ⟨rfl, rfl, k⟩
abbrev z_M_lengthAt : Nat := 100
theorem gs_M_lengthAt {LL : Nat} {xs : Nat → Int32} {d mc ms : Nat} {h : gx_H} {Q : gx_Q} (o : Nat) (a0 : Int32) (k : gx_E LL xs (gx_call LL xs d) cd_M_lengthAt Q 0 [some (.ref o), some (.int a0)] [] h mc ms) : gx_call LL xs (d + 1) z_M_lengthAt mc ms [.ref o, .int a0] h Q := ⟨rfl, rfl, k⟩
abbrev z_M_localsAt : Nat := 101
theorem gs_M_localsAt {LL : Nat} {xs : Nat → Int32} {d mc ms : Nat} {h : gx_H} {Q : gx_Q} (o : Nat) (a0 : Int32) (k : gx_E LL xs (gx_call LL xs d) cd_M_localsAt Q 0 [some (.ref o), some (.int a0)] [] h mc ms) : gx_call LL xs (d + 1) z_M_localsAt mc ms [.ref o, .int a0] h Q := ⟨rfl, rfl, k⟩
abbrev z_M_isPlace : Nat := 102
theorem gs_M_isPlace {LL : Nat} {xs : Nat → Int32} {d mc ms : Nat} {h : gx_H} {Q : gx_Q} (a0 a1 : Int32) (k : gx_E LL xs (gx_call LL xs d) cd_M_isPlace Q 0 [some (.int a0), some (.int a1)] [] h mc ms) : gx_call LL xs (d + 1) z_M_isPlace mc ms [.int a0, .int a1] h Q := ⟨rfl, rfl, k⟩
abbrev z_M_canGo : Nat := 103
theorem gs_M_canGo {LL : Nat} {xs : Nat → Int32} {d mc ms : Nat} {h : gx_H} {Q : gx_Q} (o : Nat) (a0 a1 a2 : Int32) (k : gx_E LL xs (gx_call LL xs d) cd_M_canGo Q 0 [some (.ref o), some (.int a0), some (.int a1), some (.int a2)] [] h mc ms) : gx_call LL xs (d + 1) z_M_canGo mc ms [.ref o, .int a0, .int a1, .int a2] h Q := ⟨rfl, rfl, k⟩
abbrev z_M_pushes : Nat := 104
theorem gs_M_pushes {LL : Nat} {xs : Nat → Int32} {d mc ms : Nat} {h : gx_H} {Q : gx_Q} (o : Nat) (a0 : Int32) (k : gx_E LL xs (gx_call LL xs d) cd_M_pushes Q 0 [some (.ref o), some (.int a0)] [] h mc ms) : gx_call LL xs (d + 1) z_M_pushes mc ms [.ref o, .int a0] h Q := ⟨rfl, rfl, k⟩
abbrev z_M_go : Nat := 105
theorem gs_M_go {LL : Nat} {xs : Nat → Int32} {d mc ms : Nat} {h : gx_H} {Q : gx_Q} (o : Nat) (a0 a1 a2 : Int32) (k : gx_E LL xs (gx_call LL xs d) cd_M_go Q 0 [some (.ref o), some (.int a0), some (.int a1), some (.int a2)] [] h mc ms) : gx_call LL xs (d + 1) z_M_go mc ms [.ref o, .int a0, .int a1, .int a2] h Q := ⟨rfl, rfl, k⟩
abbrev z_M_stub : Nat := 106
theorem gs_M_stub {LL : Nat} {xs : Nat → Int32} {d mc ms : Nat} {h : gx_H} {Q : gx_Q} (o : Nat) (a0 a1 a2 : Int32) (k : gx_E LL xs (gx_call LL xs d) cd_M_stub Q 0 [some (.ref o), some (.int a0), some (.int a1), some (.int a2)] [] h mc ms) : gx_call LL xs (d + 1) z_M_stub mc ms [.ref o, .int a0, .int a1, .int a2] h Q := ⟨rfl, rfl, k⟩
abbrev z_M_forget : Nat := 107
theorem gs_M_forget {LL : Nat} {xs : Nat → Int32} {d mc ms : Nat} {h : gx_H} {Q : gx_Q} (o : Nat) (a0 : Int32) (k : gx_E LL xs (gx_call LL xs d) cd_M_forget Q 0 [some (.ref o), some (.int a0)] [] h mc ms) : gx_call LL xs (d + 1) z_M_forget mc ms [.ref o, .int a0] h Q := ⟨rfl, rfl, k⟩
abbrev z_M_result : Nat := 108
theorem gs_M_result {LL : Nat} {xs : Nat → Int32} {d mc ms : Nat} {h : gx_H} {Q : gx_Q} (o : Nat) (a0 a1 : Int32) (k : gx_E LL xs (gx_call LL xs d) cd_M_result Q 0 [some (.ref o), some (.int a0), some (.int a1), none, none] [] h mc ms) : gx_call LL xs (d + 1) z_M_result mc ms [.ref o, .int a0, .int a1] h Q := ⟨rfl, rfl, k⟩
abbrev z_M_take : Nat := 109
theorem gs_M_take {LL : Nat} {xs : Nat → Int32} {d mc ms : Nat} {h : gx_H} {Q : gx_Q} (o : Nat) (a0 : Int32) (k : gx_E LL xs (gx_call LL xs d) cd_M_take Q 0 [some (.ref o), some (.int a0), none] [] h mc ms) : gx_call LL xs (d + 1) z_M_take mc ms [.ref o, .int a0] h Q := ⟨rfl, rfl, k⟩
abbrev z_M_room : Nat := 110
theorem gs_M_room {LL : Nat} {xs : Nat → Int32} {d mc ms : Nat} {h : gx_H} {Q : gx_Q} (o : Nat) (a0 a1 : Int32) (k : gx_E LL xs (gx_call LL xs d) cd_M_room Q 0 [some (.ref o), some (.int a0), some (.int a1)] [] h mc ms) : gx_call LL xs (d + 1) z_M_room mc ms [.ref o, .int a0, .int a1] h Q := ⟨rfl, rfl, k⟩
abbrev z_M_enter : Nat := 111
theorem gs_M_enter {LL : Nat} {xs : Nat → Int32} {d mc ms : Nat} {h : gx_H} {Q : gx_Q} (o : Nat) (a0 a1 : Int32) (k : gx_E LL xs (gx_call LL xs d) cd_M_enter Q 0 [some (.ref o), some (.int a0), some (.int a1), none, none, none, none] [] h mc ms) : gx_call LL xs (d + 1) z_M_enter mc ms [.ref o, .int a0, .int a1] h Q := ⟨rfl, rfl, k⟩
abbrev z_M_hasHead : Nat := 112
theorem gs_M_hasHead {LL : Nat} {xs : Nat → Int32} {d mc ms : Nat} {h : gx_H} {Q : gx_Q} (o : Nat) (a0 : Int32) (k : gx_E LL xs (gx_call LL xs d) cd_M_hasHead Q 0 [some (.ref o), some (.int a0)] [] h mc ms) : gx_call LL xs (d + 1) z_M_hasHead mc ms [.ref o, .int a0] h Q := ⟨rfl, rfl, k⟩
abbrev z_M_call : Nat := 113
theorem gs_M_call {LL : Nat} {xs : Nat → Int32} {d mc ms : Nat} {h : gx_H} {Q : gx_Q} (o : Nat) (a0 a1 a2 a3 a4 : Int32) (k : gx_E LL xs (gx_call LL xs d) cd_M_call Q 0 [some (.ref o), some (.int a0), some (.int a1), some (.int a2), some (.int a3), some (.int a4)] [] h mc ms) : gx_call LL xs (d + 1) z_M_call mc ms [.ref o, .int a0, .int a1, .int a2, .int a3, .int a4] h Q := ⟨rfl, rfl, k⟩
abbrev z_M_canLeave : Nat := 114
theorem gs_M_canLeave {LL : Nat} {xs : Nat → Int32} {d mc ms : Nat} {h : gx_H} {Q : gx_Q} (o : Nat) (k : gx_E LL xs (gx_call LL xs d) cd_M_canLeave Q 0 [some (.ref o)] [] h mc ms) : gx_call LL xs (d + 1) z_M_canLeave mc ms [.ref o] h Q := ⟨rfl, rfl, k⟩
abbrev z_M_leaves : Nat := 115
theorem gs_M_leaves {LL : Nat} {xs : Nat → Int32} {d mc ms : Nat} {h : gx_H} {Q : gx_Q} (o : Nat) (a0 : Int32) (k : gx_E LL xs (gx_call LL xs d) cd_M_leaves Q 0 [some (.ref o), some (.int a0), none] [] h mc ms) : gx_call LL xs (d + 1) z_M_leaves mc ms [.ref o, .int a0] h Q := ⟨rfl, rfl, k⟩
abbrev z_M_leave : Nat := 116
theorem gs_M_leave {LL : Nat} {xs : Nat → Int32} {d mc ms : Nat} {h : gx_H} {Q : gx_Q} (o : Nat) (a0 : Int32) (k : gx_E LL xs (gx_call LL xs d) cd_M_leave Q 0 [some (.ref o), some (.int a0)] [] h mc ms) : gx_call LL xs (d + 1) z_M_leave mc ms [.ref o, .int a0] h Q := ⟨rfl, rfl, k⟩
abbrev z_M_caught : Nat := 117
theorem gs_M_caught {LL : Nat} {xs : Nat → Int32} {d mc ms : Nat} {h : gx_H} {Q : gx_Q} (o : Nat) (a0 a1 a2 : Int32) (k : gx_E LL xs (gx_call LL xs d) cd_M_caught Q 0 [some (.ref o), some (.int a0), some (.int a1), some (.int a2), none] [] h mc ms) : gx_call LL xs (d + 1) z_M_caught mc ms [.ref o, .int a0, .int a1, .int a2] h Q := ⟨rfl, rfl, k⟩
abbrev z_M_thrown : Nat := 118
theorem gs_M_thrown {LL : Nat} {xs : Nat → Int32} {d mc ms : Nat} {h : gx_H} {Q : gx_Q} (o : Nat) (a0 a1 : Int32) (k : gx_E LL xs (gx_call LL xs d) cd_M_thrown Q 0 [some (.ref o), some (.int a0), some (.int a1), none, none, none, none, none] [] h mc ms) : gx_call LL xs (d + 1) z_M_thrown mc ms [.ref o, .int a0, .int a1] h Q := ⟨rfl, rfl, k⟩
abbrev z_M_tail : Nat := 119
theorem gs_M_tail {LL : Nat} {xs : Nat → Int32} {d mc ms : Nat} {h : gx_H} {Q : gx_Q} (o : Nat) (a0 a1 : Int32) (k : gx_E LL xs (gx_call LL xs d) cd_M_tail Q 0 [some (.ref o), some (.int a0), some (.int a1)] [] h mc ms) : gx_call LL xs (d + 1) z_M_tail mc ms [.ref o, .int a0, .int a1] h Q := ⟨rfl, rfl, k⟩
abbrev z_M_push : Nat := 120
theorem gs_M_push {LL : Nat} {xs : Nat → Int32} {d mc ms : Nat} {h : gx_H} {Q : gx_Q} (o : Nat) (a0 : Int32) (k : gx_E LL xs (gx_call LL xs d) cd_M_push Q 0 [some (.ref o), some (.int a0)] [] h mc ms) : gx_call LL xs (d + 1) z_M_push mc ms [.ref o, .int a0] h Q := ⟨rfl, rfl, k⟩
abbrev z_M_pop : Nat := 121
theorem gs_M_pop {LL : Nat} {xs : Nat → Int32} {d mc ms : Nat} {h : gx_H} {Q : gx_Q} (o : Nat) (k : gx_E LL xs (gx_call LL xs d) cd_M_pop Q 0 [some (.ref o)] [] h mc ms) : gx_call LL xs (d + 1) z_M_pop mc ms [.ref o] h Q := ⟨rfl, rfl, k⟩
abbrev z_M_popped : Nat := 122
theorem gs_M_popped {LL : Nat} {xs : Nat → Int32} {d mc ms : Nat} {h : gx_H} {Q : gx_Q} (o : Nat) (k : gx_E LL xs (gx_call LL xs d) cd_M_popped Q 0 [some (.ref o)] [] h mc ms) : gx_call LL xs (d + 1) z_M_popped mc ms [.ref o] h Q := ⟨rfl, rfl, k⟩
abbrev z_M_peek : Nat := 123
theorem gs_M_peek {LL : Nat} {xs : Nat → Int32} {d mc ms : Nat} {h : gx_H} {Q : gx_Q} (o : Nat) (a0 : Int32) (k : gx_E LL xs (gx_call LL xs d) cd_M_peek Q 0 [some (.ref o), some (.int a0)] [] h mc ms) : gx_call LL xs (d + 1) z_M_peek mc ms [.ref o, .int a0] h Q := ⟨rfl, rfl, k⟩
abbrev z_M_copy : Nat := 124
theorem gs_M_copy {LL : Nat} {xs : Nat → Int32} {d mc ms : Nat} {h : gx_H} {Q : gx_Q} (o : Nat) (a0 : Int32) (k : gx_E LL xs (gx_call LL xs d) cd_M_copy Q 0 [some (.ref o), some (.int a0), none, none] [] h mc ms) : gx_call LL xs (d + 1) z_M_copy mc ms [.ref o, .int a0] h Q := ⟨rfl, rfl, k⟩
abbrev z_M_roll : Nat := 125
theorem gs_M_roll {LL : Nat} {xs : Nat → Int32} {d mc ms : Nat} {h : gx_H} {Q : gx_Q} (o : Nat) (a0 a1 : Int32) (k : gx_E LL xs (gx_call LL xs d) cd_M_roll Q 0 [some (.ref o), some (.int a0), some (.int a1), none, none, none] [] h mc ms) : gx_call LL xs (d + 1) z_M_roll mc ms [.ref o, .int a0, .int a1] h Q := ⟨rfl, rfl, k⟩
abbrev z_M_swap : Nat := 126
theorem gs_M_swap {LL : Nat} {xs : Nat → Int32} {d mc ms : Nat} {h : gx_H} {Q : gx_Q} (o : Nat) (k : gx_E LL xs (gx_call LL xs d) cd_M_swap Q 0 [some (.ref o), none] [] h mc ms) : gx_call LL xs (d + 1) z_M_swap mc ms [.ref o] h Q := ⟨rfl, rfl, k⟩
abbrev z_M_against : Nat := 127
theorem gs_M_against {LL : Nat} {xs : Nat → Int32} {d mc ms : Nat} {h : gx_H} {Q : gx_Q} (o : Nat) (a0 a1 : Int32) (k : gx_E LL xs (gx_call LL xs d) cd_M_against Q 0 [some (.ref o), some (.int a0), some (.int a1)] [] h mc ms) : gx_call LL xs (d + 1) z_M_against mc ms [.ref o, .int a0, .int a1] h Q := ⟨rfl, rfl, k⟩
abbrev z_M_load : Nat := 128
theorem gs_M_load {LL : Nat} {xs : Nat → Int32} {d mc ms : Nat} {h : gx_H} {Q : gx_Q} (o : Nat) (a0 a1 : Int32) (k : gx_E LL xs (gx_call LL xs d) cd_M_load Q 0 [some (.ref o), some (.int a0), some (.int a1), none] [] h mc ms) : gx_call LL xs (d + 1) z_M_load mc ms [.ref o, .int a0, .int a1] h Q := ⟨rfl, rfl, k⟩
abbrev z_M_store : Nat := 129
theorem gs_M_store {LL : Nat} {xs : Nat → Int32} {d mc ms : Nat} {h : gx_H} {Q : gx_Q} (o : Nat) (a0 a1 a2 : Int32) (k : gx_E LL xs (gx_call LL xs d) cd_M_store Q 0 [some (.ref o), some (.int a0), some (.int a1), some (.int a2), none] [] h mc ms) : gx_call LL xs (d + 1) z_M_store mc ms [.ref o, .int a0, .int a1, .int a2] h Q := ⟨rfl, rfl, k⟩
abbrev z_M_byteAt : Nat := 130
theorem gs_M_byteAt {LL : Nat} {xs : Nat → Int32} {d mc ms : Nat} {h : gx_H} {Q : gx_Q} (o : Nat) (a0 : Int32) (k : gx_E LL xs (gx_call LL xs d) cd_M_byteAt Q 0 [some (.ref o), some (.int a0)] [] h mc ms) : gx_call LL xs (d + 1) z_M_byteAt mc ms [.ref o, .int a0] h Q := ⟨rfl, rfl, k⟩
abbrev z_M_cell : Nat := 131
theorem gs_M_cell {LL : Nat} {xs : Nat → Int32} {d mc ms : Nat} {h : gx_H} {Q : gx_Q} (o : Nat) (a0 : Int32) (k : gx_E LL xs (gx_call LL xs d) cd_M_cell Q 0 [some (.ref o), some (.int a0)] [] h mc ms) : gx_call LL xs (d + 1) z_M_cell mc ms [.ref o, .int a0] h Q := ⟨rfl, rfl, k⟩
abbrev z_M_frames : Nat := 132
theorem gs_M_frames {LL : Nat} {xs : Nat → Int32} {d mc ms : Nat} {h : gx_H} {Q : gx_Q} (o : Nat) (k : gx_E LL xs (gx_call LL xs d) cd_M_frames Q 0 [some (.ref o), none, none] [] h mc ms) : gx_call LL xs (d + 1) z_M_frames mc ms [.ref o] h Q := ⟨rfl, rfl, k⟩
abbrev z_M_count : Nat := 133
theorem gs_M_count {LL : Nat} {xs : Nat → Int32} {d mc ms : Nat} {h : gx_H} {Q : gx_Q} (o : Nat) (a0 : Int32) (k : gx_E LL xs (gx_call LL xs d) cd_M_count Q 0 [some (.ref o), some (.int a0)] [] h mc ms) : gx_call LL xs (d + 1) z_M_count mc ms [.ref o, .int a0] h Q := ⟨rfl, rfl, k⟩
abbrev z_J_floorMod : Nat := 134
theorem gs_J_floorMod {LL : Nat} {xs : Nat → Int32} {d mc ms : Nat} {h : gx_H} {Q : gx_Q} (a0 a1 : Int32) (k : gx_E LL xs (gx_call LL xs d) cd_J_floorMod Q 0 [some (.int a0), some (.int a1), none] [] h mc ms) : gx_call LL xs (d + 1) z_J_floorMod mc ms [.int a0, .int a1] h Q := ⟨rfl, rfl, k⟩
abbrev z_J_max : Nat := 135
theorem gs_J_max {LL : Nat} {xs : Nat → Int32} {d mc ms : Nat} {h : gx_H} {Q : gx_Q} (a0 a1 : Int32) (k : gx_E LL xs (gx_call LL xs d) cd_J_max Q 0 [some (.int a0), some (.int a1)] [] h mc ms) : gx_call LL xs (d + 1) z_J_max mc ms [.int a0, .int a1] h Q := ⟨rfl, rfl, k⟩
abbrev z_J_min : Nat := 136
theorem gs_J_min {LL : Nat} {xs : Nat → Int32} {d mc ms : Nat} {h : gx_H} {Q : gx_Q} (a0 a1 : Int32) (k : gx_E LL xs (gx_call LL xs d) cd_J_min Q 0 [some (.int a0), some (.int a1)] [] h mc ms) : gx_call LL xs (d + 1) z_J_min mc ms [.int a0, .int a1] h Q := ⟨rfl, rfl, k⟩
abbrev z_L_cell : Nat := 137
theorem gs_L_cell {LL : Nat} {xs : Nat → Int32} {d mc ms : Nat} {h : gx_H} {Q : gx_Q} (a1 : Int32) (k : gx_E LL xs (gx_call LL xs d) cd_L_cell Q 0 [some (.retAddr 0), some (.int a1)] [] h mc ms) : gx_call LL xs (d + 1) z_L_cell mc ms [.retAddr 0, .int a1] h Q := ⟨rfl, rfl, k⟩
end
section
/-! What the printed tables must keep, site by site: by program (decide) in the next part. -/
/-- a word of lw_tbl at a place -/
def gx_tb : List Jvm.Cond := lw_tbl.filter goodWord
def gx_wd (ts : List Nat) (j : Nat) (w : Jvm.Cond) : Bool := match ts[j]? with
  | some q => decide (lw_tbl[q]? = some w) && goodWord w
  | none => false
theorem gx_wd_in {ts : List Nat} {j : Nat} {w : Jvm.Cond} (h : gx_wd ts j w = true) : w ∈ gx_tb := by
  unfold gx_wd at h
  split at h
  · rw [Bool.and_eq_true] at h
    exact List.mem_filter.mpr ⟨List.mem_of_getElem? (of_decide_eq_true h.1), h.2⟩
  · cases h
/-- links between nest mates: they ride apart -/
def gx_isn (w : Jvm.Cond) : Bool := match w with
  | .methodLinkNest _ _ _ _ => true
  | _ => false
def gx_nl : List Jvm.Cond := lw_tbl.filter gx_isn
def gx_wn (ts : List Nat) (j : Nat) (w : Jvm.Cond) : Bool := match ts[j]? with
  | some q => decide (lw_tbl[q]? = some w) && gx_isn w
  | none => false
theorem gx_wn_in {ts : List Nat} {j : Nat} {w : Jvm.Cond} (h : gx_wn ts j w = true) : w ∈ gx_nl := by
  unfold gx_wn at h
  split at h
  · rw [Bool.and_eq_true] at h
    exact List.mem_filter.mpr ⟨List.mem_of_getElem? (of_decide_eq_true h.1), h.2⟩
  · cases h
def gx_NL (U : State) : Prop := ∀ w ∈ gx_nl, va_Nw w U
theorem gx_NL_warm {s U : State} (hW : s.WarmedH U.vm) (h : gx_NL s) : gx_NL U := by
  intro w hw
  have h2 := (List.mem_filter.mp hw).2
  have h1 := h w hw
  unfold gx_isn at h2
  split at h2
  · exact va_Nw.warmM hW h1
  · cases h2
theorem gx_NL_same {s U : State} (hv : s.vm = U.vm) (h : gx_NL s) : gx_NL U := by
  intro w hw
  have h2 := (List.mem_filter.mp hw).2
  have h1 := h w hw
  unfold gx_isn at h2
  split at h2
  · exact va_Nw.same rfl hv h1
  · cases h2
def gx_pc (cd : List gx_T) (i : Nat) : Nat := match cd[i]? with
  | some e => e.1
  | none => 0
/-- the instruction stands there, and the next one behind it -/
def gx_st (bc : ByteArray) (cd : List gx_T) (i pc : Nat) (ins : Instr) (len : Nat) : Bool := decide (decode bc pc = .ok (ins, len)) && decide (gx_pc cd (i + 1) = pc + len)
def gx_jp (cd : List gx_T) (pc : Nat) (off : Int) (a : Nat) : Bool := decide ((pc : Int) + off = (gx_pc cd a : Int))
def gx_cv (v : Int32) (a b : Nat) : Bool := match b with
  | 0 => decide (v = nI a)
  | _ => decide (v = -(nI a))
/-- a method of the list: its name, its code's word, its class's -/
def gx_zk (z : Nat) (f : gx_M → Bool) : Bool := match gx_mt[z]? with
  | some e => f e
  | none => false
def gx_fld (own : String) (a b ix : Nat) (ts : List Nat) (f : u_T → Bool) : Bool := match vwCl[a]? with
  | some (_, T, N) => decide (b < N) && gx_wd ts 0 (.fieldLink own ix (T b).1 (T b).2.1 (T b).2.2.1) && f T
  | none => false
def gx_tk (c : Nat) (d : String) : Bool := match c with
  | 0 => decide (parseFieldDescriptor d = some .int)
  | _ => (match parseFieldDescriptor d with
    | some (.object _) => true
    | some (.array _) => true
    | _ => false)
def gx_pf (own mn : String) (c b : Nat) (T : u_T) : Bool := gx_tk c (T b).2.2.1 && (match (T b).2.2.2 with
  | true => decide ((T b).1 = own) && decide (mn = "<init>")
  | false => true)
def gx_of (cd : List gx_T) (pc : Nat) (offs : Array Int) (ts : List Nat) : Bool := (List.range ts.length).all fun j => match offs[j]?, ts[j]? with
  | some o, some t => gx_jp cd pc o t
  | _, _ => false
def gx_lk (cd : List gx_T) (pc b : Nat) (ps : Array (Int × Int)) (ts : List Nat) : Bool := (List.range ts.length).all fun j => match ps[j]?, ts[j]? with
  | some o, some t => decide (o.1 = ((b + j : Nat) : Int)) && gx_jp cd pc o.2 t
  | _, _ => false
def gx_ok (own mn : String) (bc : ByteArray) (ret : Option FieldType) (nL : Nat) (cd : List gx_T) (i : Nat) : Bool := match cd[i]? with
  | none => true
  | some (pc, ins, a, b, c, ts) => match ins with
    | .iconst v => gx_st bc cd i pc ins 1 && gx_cv (Int32.ofInt v) a b
    | .bipush v => gx_st bc cd i pc ins 2 && gx_cv (Int8.ofInt v).toInt32 a b
    | .sipush v => gx_st bc cd i pc ins 3 && gx_cv (Int16.ofInt v).toInt32 a b
    | .aconst_null => gx_st bc cd i pc ins 1
    | .lconst v => gx_st bc cd i pc ins 1 && decide (Int64.ofNat (v : Nat) = lN a)
    | .ldc2_w ix => gx_st bc cd i pc ins 3 && gx_wd ts 0 (.constantLong own ix (lN a))
    | .iload v => gx_st bc cd i pc ins 2 && decide (v = a)
    | .iload_n v => gx_st bc cd i pc ins 1 && decide ((v : Nat) = a)
    | .aload v => gx_st bc cd i pc ins 2 && decide (v = a)
    | .aload_n v => gx_st bc cd i pc ins 1 && decide ((v : Nat) = a)
    | .istore v => gx_st bc cd i pc ins 2 && decide (v = a) && decide (a < nL)
    | .istore_n v => gx_st bc cd i pc ins 1 && decide ((v : Nat) = a) && decide (a < nL)
    | .astore v => gx_st bc cd i pc ins 2 && decide (v = a) && decide (a < nL)
    | .astore_n v => gx_st bc cd i pc ins 1 && decide ((v : Nat) = a) && decide (a < nL)
    | .iinc v n => gx_st bc cd i pc ins 3 && decide (v = a) && decide (a < nL) && gx_cv (Int32.ofInt n) b c
    | .iadd => gx_st bc cd i pc ins 1
    | .isub => gx_st bc cd i pc ins 1
    | .imul => gx_st bc cd i pc ins 1
    | .idiv => gx_st bc cd i pc ins 1
    | .irem => gx_st bc cd i pc ins 1
    | .ineg => gx_st bc cd i pc ins 1
    | .ishl => gx_st bc cd i pc ins 1
    | .ishr => gx_st bc cd i pc ins 1
    | .iand => gx_st bc cd i pc ins 1
    | .ior => gx_st bc cd i pc ins 1
    | .ixor => gx_st bc cd i pc ins 1
    | .i2b => gx_st bc cd i pc ins 1
    | .i2l => gx_st bc cd i pc ins 1
    | .dup => gx_st bc cd i pc ins 1
    | .dup2 => gx_st bc cd i pc ins 1
    | .goto off => decide (decode bc pc = .ok (ins, 3)) && gx_jp cd pc off a
    | .if_icmp _ off => gx_st bc cd i pc ins 3 && gx_jp cd pc off a
    | .ifCond _ off => gx_st bc cd i pc ins 3 && gx_jp cd pc off a
    | .ifnull off => gx_st bc cd i pc ins 3 && gx_jp cd pc off a
    | .ifnonnull off => gx_st bc cd i pc ins 3 && gx_jp cd pc off a
    | .tableswitch df lo hi offs => decide (decode bc pc = .ok (ins, c)) && gx_jp cd pc df a && decide (lo = (b : Int)) && decide (hi = ((b + ts.length : Nat) : Int) - 1) && gx_of cd pc offs ts && decide (b + ts.length < 1000)
    | .lookupswitch df ps => decide (decode bc pc = .ok (ins, c)) && gx_jp cd pc df a && decide (ps.size = ts.length) && gx_lk cd pc b ps ts && decide (b + ts.length < 1000) && (ps.toList.zip (ps.toList.drop 1)).all (fun (a, next) => a.1 < next.1)
    | .getfield ix => gx_st bc cd i pc ins 3 && gx_fld own a b ix ts fun _ => true
    | .putfield ix => gx_st bc cd i pc ins 3 && gx_fld own a b ix ts (gx_pf own mn c b)
    | .arraylength => gx_st bc cd i pc ins 1
    | .iaload => gx_st bc cd i pc ins 1
    | .baload => gx_st bc cd i pc ins 1
    | .iastore => gx_st bc cd i pc ins 1
    | .bastore => gx_st bc cd i pc ins 1
    | .aaload => gx_st bc cd i pc ins 1
    | .aastore => gx_st bc cd i pc ins 1
    | .newarray at_ => gx_st bc cd i pc ins 2 && gx_wd ts 0 (.arrayClass (newarray.typeOf at_)) && (match a with
      | 0 => decide (at_ = .int)
      | 1 => decide (at_ = .byte)
      | _ => false)
    | .anewarray ix => gx_st bc cd i pc ins 3 && gx_wd ts 0 (.classLink own ix RX0)
    | .new ix => gx_st bc cd i pc ins 3 && decide (a < 4) && (match vwCl[a]? with
      | some (C, _, N) => gx_wd ts 0 (.classLink own ix C) && gx_wd ts 1 (.instantiable C N) && gx_wd ts 2 (.initialized C)
      | none => false)
    | .invokevirtual ix => gx_st bc cd i pc ins 3 && gx_zk a fun e => gx_wd ts 0 (.methodLink own ix e.1) && decide (b = e.2.2.2.2.1) && decide (e.2.2.2.2.2.1 = 1) && gx_wd e.2.2.2.2.2.2.2 3 (.selects e.1.cls e.1 e.1) && (match vwCl[c]? with
      | some (C, _, _) => decide (C = e.1.cls)
      | none => false)
    | .invokestatic ix => gx_st bc cd i pc ins 3 && gx_zk a fun e => gx_wd ts 0 (.methodLink own ix e.1) && decide (e.2.2.2.2.2.1 = 0) && (match c with
      | 0 => decide (b = e.2.2.2.2.1)
      | _ => decide (a = 80) && decide (e.1 = yX3_in))
    | .invokespecial ix => gx_st bc cd i pc ins 3 && (match c with
      | 99 => gx_wd ts 0 (.methodLink own ix objectInit) && gx_wd ts 1 (.instanceMethod objectInit) && gx_wd ts 2 (.code objectInit ⟨#[0xb1]⟩ 1 none)
      | _ => gx_zk a fun e => decide (b = e.2.2.2.2.1) && decide (e.2.2.2.2.2.1 = 1) && decide (e.1.name = "<init>") && decide (e.2.2.2.1 = none) && (match vwCl[c % 50]? with
        | some (C, _, _) => decide (C = e.1.cls)
        | none => false) && (match decide (c < 50) with
        | true => gx_wd ts 0 (.methodLink own ix e.1)
        | false => gx_wn ts 0 (.methodLinkNest own ix e.1 RX2)))
    | .ireturn => decide (decode bc pc = .ok (ins, 1)) && (match b with
      | 0 => decide (ret = some .int)
      | _ => decide (ret = some .boolean))
    | .areturn => decide (decode bc pc = .ok (ins, 1)) && (match ret with
      | some (.object _) => true
      | some (.array _) => true
      | _ => false)
    | .return_ => decide (decode bc pc = .ok (ins, 1)) && decide (ret = none)
    | _ => false
/-- a method of the list -/
def gx_zok (e : gx_M) : Bool := match e with
  | (y, bc, nL, ret, na, kd, cd, ws) =>
    gx_wd ws 0 (.code y bc nL ret) && gx_wd ws 1 (.initialized y.cls) && decide (y.cls ≠ "java/lang/invoke/MethodHandle") && decide (y.cls ≠ "java/lang/invoke/VarHandle") && plainFor y && decide (nL ≤ 8) && decide (na ≤ nL) &&
    (match kd with
      | 0 => gx_wd ws 2 (.static y) && decide ((parseMethodDescriptor y.desc).map (fun d => d.parameters.length) = some na)
      | _ => gx_wd ws 2 (.instanceMethod y) && decide (0 < na) && decide ((parseMethodDescriptor y.desc).map (fun d => d.parameters.length) = some (na - 1))) &&
    (List.range cd.length).all (gx_ok y.cls y.name bc ret nL cd)
end
section
/-! printed by gen.py: every site of every method keeps what part 04 asks -/
theorem zk_F_init : gx_zok mt_F_init = true := by decide +kernel
theorem zk_F_begin : gx_zok mt_F_begin = true := by decide +kernel
theorem zk_F_addPair : gx_zok mt_F_addPair = true := by decide +kernel
theorem zk_F_widthOfPair : gx_zok mt_F_widthOfPair = true := by decide +kernel
theorem zk_F_countOfPair : gx_zok mt_F_countOfPair = true := by decide +kernel
theorem zk_F_isAccelerated : gx_zok mt_F_isAccelerated = true := by decide +kernel
theorem zk_F_hasFrameHead : gx_zok mt_F_hasFrameHead = true := by decide +kernel
theorem zk_F_takesPushed : gx_zok mt_F_takesPushed = true := by decide +kernel
theorem zk_F_localCount : gx_zok mt_F_localCount = true := by decide +kernel
theorem zk_F_localsBegin : gx_zok mt_F_localsBegin = true := by decide +kernel
theorem zk_F_placeOfLocal : gx_zok mt_F_placeOfLocal = true := by decide +kernel
theorem zk_F_frameLength : gx_zok mt_F_frameLength = true := by decide +kernel
theorem zk_F_bytesWith : gx_zok mt_F_bytesWith = true := by decide +kernel
theorem zk_F_upTo : gx_zok mt_F_upTo = true := by decide +kernel
theorem zk_R_init : gx_zok mt_R_init = true := by decide +kernel
theorem zk_R_size : gx_zok mt_R_size = true := by decide +kernel
theorem zk_R_end : gx_zok mt_R_end = true := by decide +kernel
theorem zk_R_reaches : gx_zok mt_R_reaches = true := by decide +kernel
theorem zk_R_number : gx_zok mt_R_number = true := by decide +kernel
theorem zk_R_set : gx_zok mt_R_set = true := by decide +kernel
theorem zk_R_append : gx_zok mt_R_append = true := by decide +kernel
theorem zk_R_appendZeros : gx_zok mt_R_appendZeros = true := by decide +kernel
theorem zk_R_cutTo : gx_zok mt_R_cutTo = true := by decide +kernel
theorem zk_R_byteOrZero : gx_zok mt_R_byteOrZero = true := by decide +kernel
theorem zk_R_setByte : gx_zok mt_R_setByte = true := by decide +kernel
theorem zk_G_init : gx_zok mt_G_init = true := by decide +kernel
theorem zk_G_function : gx_zok mt_G_function = true := by decide +kernel
theorem zk_G_format : gx_zok mt_G_format = true := by decide +kernel
theorem zk_G_accelerate : gx_zok mt_G_accelerate = true := by decide +kernel
theorem zk_G_told : gx_zok mt_G_told = true := by decide +kernel
theorem zk_G_local : gx_zok mt_G_local = true := by decide +kernel
theorem zk_G_functionOf : gx_zok mt_G_functionOf = true := by decide +kernel
theorem zk_G_isWidth : gx_zok mt_G_isWidth = true := by decide +kernel
theorem zk_G_call : gx_zok mt_G_call = true := by decide +kernel
theorem zk_G_callAccelerated : gx_zok mt_G_callAccelerated = true := by decide +kernel
theorem zk_G_tail : gx_zok mt_G_tail = true := by decide +kernel
theorem zk_G_leave : gx_zok mt_G_leave = true := by decide +kernel
theorem zk_G_caught : gx_zok mt_G_caught = true := by decide +kernel
theorem zk_G_thrown : gx_zok mt_G_thrown = true := by decide +kernel
theorem zk_G_givenBy : gx_zok mt_G_givenBy = true := by decide +kernel
theorem zk_G_pushStub : gx_zok mt_G_pushStub = true := by decide +kernel
theorem zk_G_goBack : gx_zok mt_G_goBack = true := by decide +kernel
theorem zk_G_frameBelow : gx_zok mt_G_frameBelow = true := by decide +kernel
theorem zk_G_pushFrame : gx_zok mt_G_pushFrame = true := by decide +kernel
theorem zk_G_pushArguments : gx_zok mt_G_pushArguments = true := by decide +kernel
theorem zk_G_setLocals : gx_zok mt_G_setLocals = true := by decide +kernel
theorem zk_G_isFrame : gx_zok mt_G_isFrame = true := by decide +kernel
theorem zk_G_valuesAt : gx_zok mt_G_valuesAt = true := by decide +kernel
theorem zk_G_localsAt : gx_zok mt_G_localsAt = true := by decide +kernel
theorem zk_G_isInLocals : gx_zok mt_G_isInLocals = true := by decide +kernel
theorem zk_G_frameCount : gx_zok mt_G_frameCount = true := by decide +kernel
theorem zk_G_isWay : gx_zok mt_G_isWay = true := by decide +kernel
theorem zk_G_canGo : gx_zok mt_G_canGo = true := by decide +kernel
theorem zk_G_send : gx_zok mt_G_send = true := by decide +kernel
theorem zk_G_isCell : gx_zok mt_G_isCell = true := by decide +kernel
theorem zk_G_addToken : gx_zok mt_G_addToken = true := by decide +kernel
theorem zk_G_latestToken : gx_zok mt_G_latestToken = true := by decide +kernel
theorem zk_G_isLive : gx_zok mt_G_isLive = true := by decide +kernel
theorem zk_G_dropTokensFrom : gx_zok mt_G_dropTokensFrom = true := by decide +kernel
theorem zk_G_push : gx_zok mt_G_push = true := by decide +kernel
theorem zk_G_pop : gx_zok mt_G_pop = true := by decide +kernel
theorem zk_G_popped : gx_zok mt_G_popped = true := by decide +kernel
theorem zk_G_peek : gx_zok mt_G_peek = true := by decide +kernel
theorem zk_G_copy : gx_zok mt_G_copy = true := by decide +kernel
theorem zk_G_roll : gx_zok mt_G_roll = true := by decide +kernel
theorem zk_G_swap : gx_zok mt_G_swap = true := by decide +kernel
theorem zk_G_faultOfLast : gx_zok mt_G_faultOfLast = true := by decide +kernel
theorem zk_G_rollLast : gx_zok mt_G_rollLast = true := by decide +kernel
theorem zk_G_valuesBegin : gx_zok mt_G_valuesBegin = true := by decide +kernel
theorem zk_G_valueCount : gx_zok mt_G_valueCount = true := by decide +kernel
theorem zk_G_valueFromLast : gx_zok mt_G_valueFromLast = true := by decide +kernel
theorem zk_G_takeValues : gx_zok mt_G_takeValues = true := by decide +kernel
theorem zk_G_takenValue : gx_zok mt_G_takenValue = true := by decide +kernel
theorem zk_G_load : gx_zok mt_G_load = true := by decide +kernel
theorem zk_G_store : gx_zok mt_G_store = true := by decide +kernel
theorem zk_G_faultOfLocal : gx_zok mt_G_faultOfLocal = true := by decide +kernel
theorem zk_G_byteAt : gx_zok mt_G_byteAt = true := by decide +kernel
theorem zk_G_cell : gx_zok mt_G_cell = true := by decide +kernel
theorem zk_G_count : gx_zok mt_G_count = true := by decide +kernel
theorem zk_M_init : gx_zok mt_M_init = true := by decide +kernel
theorem zk_M_in : gx_zok mt_M_in = true := by decide +kernel
theorem zk_M_fault : gx_zok mt_M_fault = true := by decide +kernel
theorem zk_M_read : gx_zok mt_M_read = true := by decide +kernel
theorem zk_M_write : gx_zok mt_M_write = true := by decide +kernel
theorem zk_M_isFunction : gx_zok mt_M_isFunction = true := by decide +kernel
theorem zk_M_function : gx_zok mt_M_function = true := by decide +kernel
theorem zk_M_isWidth : gx_zok mt_M_isWidth = true := by decide +kernel
theorem zk_M_format : gx_zok mt_M_format = true := by decide +kernel
theorem zk_M_accelerate : gx_zok mt_M_accelerate = true := by decide +kernel
theorem zk_M_up : gx_zok mt_M_up = true := by decide +kernel
theorem zk_M_begin : gx_zok mt_M_begin = true := by decide +kernel
theorem zk_M_locals : gx_zok mt_M_locals = true := by decide +kernel
theorem zk_M_placeOf : gx_zok mt_M_placeOf = true := by decide +kernel
theorem zk_M_widthOf : gx_zok mt_M_widthOf = true := by decide +kernel
theorem zk_M_lengthOf : gx_zok mt_M_lengthOf = true := by decide +kernel
theorem zk_M_told : gx_zok mt_M_told = true := by decide +kernel
theorem zk_M_local : gx_zok mt_M_local = true := by decide +kernel
theorem zk_M_hasFrame : gx_zok mt_M_hasFrame = true := by decide +kernel
theorem zk_M_base : gx_zok mt_M_base = true := by decide +kernel
theorem zk_M_values : gx_zok mt_M_values = true := by decide +kernel
theorem zk_M_lengthAt : gx_zok mt_M_lengthAt = true := by decide +kernel
theorem zk_M_localsAt : gx_zok mt_M_localsAt = true := by decide +kernel
theorem zk_M_isPlace : gx_zok mt_M_isPlace = true := by decide +kernel
theorem zk_M_canGo : gx_zok mt_M_canGo = true := by decide +kernel
theorem zk_M_pushes : gx_zok mt_M_pushes = true := by decide +kernel
theorem zk_M_go : gx_zok mt_M_go = true := by decide +kernel
theorem zk_M_stub : gx_zok mt_M_stub = true := by decide +kernel
theorem zk_M_forget : gx_zok mt_M_forget = true := by decide +kernel
theorem zk_M_result : gx_zok mt_M_result = true := by decide +kernel
theorem zk_M_take : gx_zok mt_M_take = true := by decide +kernel
theorem zk_M_room : gx_zok mt_M_room = true := by decide +kernel
theorem zk_M_enter : gx_zok mt_M_enter = true := by decide +kernel
theorem zk_M_hasHead : gx_zok mt_M_hasHead = true := by decide +kernel
theorem zk_M_call : gx_zok mt_M_call = true := by decide +kernel
theorem zk_M_canLeave : gx_zok mt_M_canLeave = true := by decide +kernel
theorem zk_M_leaves : gx_zok mt_M_leaves = true := by decide +kernel
theorem zk_M_leave : gx_zok mt_M_leave = true := by decide +kernel
theorem zk_M_caught : gx_zok mt_M_caught = true := by decide +kernel
theorem zk_M_thrown : gx_zok mt_M_thrown = true := by decide +kernel
theorem zk_M_tail : gx_zok mt_M_tail = true := by decide +kernel
theorem zk_M_push : gx_zok mt_M_push = true := by decide +kernel
theorem zk_M_pop : gx_zok mt_M_pop = true := by decide +kernel
theorem zk_M_popped : gx_zok mt_M_popped = true := by decide +kernel
theorem zk_M_peek : gx_zok mt_M_peek = true := by decide +kernel
theorem zk_M_copy : gx_zok mt_M_copy = true := by decide +kernel
theorem zk_M_roll : gx_zok mt_M_roll = true := by decide +kernel
theorem zk_M_swap : gx_zok mt_M_swap = true := by decide +kernel
theorem zk_M_against : gx_zok mt_M_against = true := by decide +kernel
theorem zk_M_load : gx_zok mt_M_load = true := by decide +kernel
theorem zk_M_store : gx_zok mt_M_store = true := by decide +kernel
theorem zk_M_byteAt : gx_zok mt_M_byteAt = true := by decide +kernel
theorem zk_M_cell : gx_zok mt_M_cell = true := by decide +kernel
theorem zk_M_frames : gx_zok mt_M_frames = true := by decide +kernel
theorem zk_M_count : gx_zok mt_M_count = true := by decide +kernel
theorem zk_J_floorMod : gx_zok mt_J_floorMod = true := by decide +kernel
theorem zk_J_max : gx_zok mt_J_max = true := by decide +kernel
theorem zk_J_min : gx_zok mt_J_min = true := by decide +kernel
theorem zk_L_cell : gx_zok mt_L_cell = true := by decide +kernel
theorem zk_all_0 : ∀ e ∈ ([mt_F_init, mt_F_begin, mt_F_addPair, mt_F_widthOfPair, mt_F_countOfPair, mt_F_isAccelerated, mt_F_hasFrameHead, mt_F_takesPushed, mt_F_localCount, mt_F_localsBegin, mt_F_placeOfLocal, mt_F_frameLength, mt_F_bytesWith, mt_F_upTo, mt_R_init, mt_R_size, mt_R_end, mt_R_reaches, mt_R_number, mt_R_set] : List gx_M), gx_zok e = true := List.forall_mem_cons.mpr ⟨zk_F_init, List.forall_mem_cons.mpr ⟨zk_F_begin, List.forall_mem_cons.mpr ⟨zk_F_addPair, List.forall_mem_cons.mpr ⟨zk_F_widthOfPair, List.forall_mem_cons.mpr ⟨zk_F_countOfPair, List.forall_mem_cons.mpr ⟨zk_F_isAccelerated, List.forall_mem_cons.mpr ⟨zk_F_hasFrameHead, List.forall_mem_cons.mpr ⟨zk_F_takesPushed, List.forall_mem_cons.mpr ⟨zk_F_localCount, List.forall_mem_cons.mpr ⟨zk_F_localsBegin, List.forall_mem_cons.mpr ⟨zk_F_placeOfLocal, List.forall_mem_cons.mpr ⟨zk_F_frameLength, List.forall_mem_cons.mpr ⟨zk_F_bytesWith, List.forall_mem_cons.mpr ⟨zk_F_upTo, List.forall_mem_cons.mpr ⟨zk_R_init, List.forall_mem_cons.mpr ⟨zk_R_size, List.forall_mem_cons.mpr ⟨zk_R_end, List.forall_mem_cons.mpr ⟨zk_R_reaches, List.forall_mem_cons.mpr ⟨zk_R_number, List.forall_mem_cons.mpr ⟨zk_R_set, fun _ h => absurd h List.not_mem_nil⟩⟩⟩⟩⟩⟩⟩⟩⟩⟩⟩⟩⟩⟩⟩⟩⟩⟩⟩⟩
theorem zk_all_1 : ∀ e ∈ ([mt_R_append, mt_R_appendZeros, mt_R_cutTo, mt_R_byteOrZero, mt_R_setByte, mt_G_init, mt_G_function, mt_G_format, mt_G_accelerate, mt_G_told, mt_G_local, mt_G_functionOf, mt_G_isWidth, mt_G_call, mt_G_callAccelerated, mt_G_tail, mt_G_leave, mt_G_caught, mt_G_thrown, mt_G_givenBy] : List gx_M), gx_zok e = true := List.forall_mem_cons.mpr ⟨zk_R_append, List.forall_mem_cons.mpr ⟨zk_R_appendZeros, List.forall_mem_cons.mpr ⟨zk_R_cutTo, List.forall_mem_cons.mpr ⟨zk_R_byteOrZero, List.forall_mem_cons.mpr ⟨zk_R_setByte, List.forall_mem_cons.mpr ⟨zk_G_init, List.forall_mem_cons.mpr ⟨zk_G_function, List.forall_mem_cons.mpr ⟨zk_G_format, List.forall_mem_cons.mpr ⟨zk_G_accelerate, List.forall_mem_cons.mpr ⟨zk_G_told, List.forall_mem_cons.mpr ⟨zk_G_local, List.forall_mem_cons.mpr ⟨zk_G_functionOf, List.forall_mem_cons.mpr ⟨zk_G_isWidth, List.forall_mem_cons.mpr ⟨zk_G_call, List.forall_mem_cons.mpr ⟨zk_G_callAccelerated, List.forall_mem_cons.mpr ⟨zk_G_tail, List.forall_mem_cons.mpr ⟨zk_G_leave, List.forall_mem_cons.mpr ⟨zk_G_caught, List.forall_mem_cons.mpr ⟨zk_G_thrown, List.forall_mem_cons.mpr ⟨zk_G_givenBy, fun _ h => absurd h List.not_mem_nil⟩⟩⟩⟩⟩⟩⟩⟩⟩⟩⟩⟩⟩⟩⟩⟩⟩⟩⟩⟩
theorem zk_all_2 : ∀ e ∈ ([mt_G_pushStub, mt_G_goBack, mt_G_frameBelow, mt_G_pushFrame, mt_G_pushArguments, mt_G_setLocals, mt_G_isFrame, mt_G_valuesAt, mt_G_localsAt, mt_G_isInLocals, mt_G_frameCount, mt_G_isWay, mt_G_canGo, mt_G_send, mt_G_isCell, mt_G_addToken, mt_G_latestToken, mt_G_isLive, mt_G_dropTokensFrom, mt_G_push] : List gx_M), gx_zok e = true := List.forall_mem_cons.mpr ⟨zk_G_pushStub, List.forall_mem_cons.mpr ⟨zk_G_goBack, List.forall_mem_cons.mpr ⟨zk_G_frameBelow, List.forall_mem_cons.mpr ⟨zk_G_pushFrame, List.forall_mem_cons.mpr ⟨zk_G_pushArguments, List.forall_mem_cons.mpr ⟨zk_G_setLocals, List.forall_mem_cons.mpr ⟨zk_G_isFrame, List.forall_mem_cons.mpr ⟨zk_G_valuesAt, List.forall_mem_cons.mpr ⟨zk_G_localsAt, List.forall_mem_cons.mpr ⟨zk_G_isInLocals, List.forall_mem_cons.mpr ⟨zk_G_frameCount, List.forall_mem_cons.mpr ⟨zk_G_isWay, List.forall_mem_cons.mpr ⟨zk_G_canGo, List.forall_mem_cons.mpr ⟨zk_G_send, List.forall_mem_cons.mpr ⟨zk_G_isCell, List.forall_mem_cons.mpr ⟨zk_G_addToken, List.forall_mem_cons.mpr ⟨zk_G_latestToken, List.forall_mem_cons.mpr ⟨zk_G_isLive, List.forall_mem_cons.mpr ⟨zk_G_dropTokensFrom, List.forall_mem_cons.mpr ⟨zk_G_push, fun _ h => absurd h List.not_mem_nil⟩⟩⟩⟩⟩⟩⟩⟩⟩⟩⟩⟩⟩⟩⟩⟩⟩⟩⟩⟩
theorem zk_all_3 : ∀ e ∈ ([mt_G_pop, mt_G_popped, mt_G_peek, mt_G_copy, mt_G_roll, mt_G_swap, mt_G_faultOfLast, mt_G_rollLast, mt_G_valuesBegin, mt_G_valueCount, mt_G_valueFromLast, mt_G_takeValues, mt_G_takenValue, mt_G_load, mt_G_store, mt_G_faultOfLocal, mt_G_byteAt, mt_G_cell, mt_G_count, mt_M_init] : List gx_M), gx_zok e = true := List.forall_mem_cons.mpr ⟨zk_G_pop, List.forall_mem_cons.mpr ⟨zk_G_popped, List.forall_mem_cons.mpr ⟨zk_G_peek, List.forall_mem_cons.mpr ⟨zk_G_copy, List.forall_mem_cons.mpr ⟨zk_G_roll, List.forall_mem_cons.mpr ⟨zk_G_swap, List.forall_mem_cons.mpr ⟨zk_G_faultOfLast, List.forall_mem_cons.mpr ⟨zk_G_rollLast, List.forall_mem_cons.mpr ⟨zk_G_valuesBegin, List.forall_mem_cons.mpr ⟨zk_G_valueCount, List.forall_mem_cons.mpr ⟨zk_G_valueFromLast, List.forall_mem_cons.mpr ⟨zk_G_takeValues, List.forall_mem_cons.mpr ⟨zk_G_takenValue, List.forall_mem_cons.mpr ⟨zk_G_load, List.forall_mem_cons.mpr ⟨zk_G_store, List.forall_mem_cons.mpr ⟨zk_G_faultOfLocal, List.forall_mem_cons.mpr ⟨zk_G_byteAt, List.forall_mem_cons.mpr ⟨zk_G_cell, List.forall_mem_cons.mpr ⟨zk_G_count, List.forall_mem_cons.mpr ⟨zk_M_init, fun _ h => absurd h List.not_mem_nil⟩⟩⟩⟩⟩⟩⟩⟩⟩⟩⟩⟩⟩⟩⟩⟩⟩⟩⟩⟩
theorem zk_all_4 : ∀ e ∈ ([mt_M_in, mt_M_fault, mt_M_read, mt_M_write, mt_M_isFunction, mt_M_function, mt_M_isWidth, mt_M_format, mt_M_accelerate, mt_M_up, mt_M_begin, mt_M_locals, mt_M_placeOf, mt_M_widthOf, mt_M_lengthOf, mt_M_told, mt_M_local, mt_M_hasFrame, mt_M_base, mt_M_values] : List gx_M), gx_zok e = true := List.forall_mem_cons.mpr ⟨zk_M_in, List.forall_mem_cons.mpr ⟨zk_M_fault, List.forall_mem_cons.mpr ⟨zk_M_read, List.forall_mem_cons.mpr ⟨zk_M_write, List.forall_mem_cons.mpr ⟨zk_M_isFunction, List.forall_mem_cons.mpr ⟨zk_M_function, List.forall_mem_cons.mpr ⟨zk_M_isWidth, List.forall_mem_cons.mpr ⟨zk_M_format, List.forall_mem_cons.mpr ⟨zk_M_accelerate, List.forall_mem_cons.mpr ⟨zk_M_up, List.forall_mem_cons.mpr ⟨zk_M_begin, List.forall_mem_cons.mpr ⟨zk_M_locals, List.forall_mem_cons.mpr ⟨zk_M_placeOf, List.forall_mem_cons.mpr ⟨zk_M_widthOf, List.forall_mem_cons.mpr ⟨zk_M_lengthOf, List.forall_mem_cons.mpr ⟨zk_M_told, List.forall_mem_cons.mpr ⟨zk_M_local, List.forall_mem_cons.mpr ⟨zk_M_hasFrame, List.forall_mem_cons.mpr ⟨zk_M_base, List.forall_mem_cons.mpr ⟨zk_M_values, fun _ h => absurd h List.not_mem_nil⟩⟩⟩⟩⟩⟩⟩⟩⟩⟩⟩⟩⟩⟩⟩⟩⟩⟩⟩⟩
theorem zk_all_5 : ∀ e ∈ ([mt_M_lengthAt, mt_M_localsAt, mt_M_isPlace, mt_M_canGo, mt_M_pushes, mt_M_go, mt_M_stub, mt_M_forget, mt_M_result, mt_M_take, mt_M_room, mt_M_enter, mt_M_hasHead, mt_M_call, mt_M_canLeave, mt_M_leaves, mt_M_leave, mt_M_caught, mt_M_thrown, mt_M_tail] : List gx_M), gx_zok e = true := List.forall_mem_cons.mpr ⟨zk_M_lengthAt, List.forall_mem_cons.mpr ⟨zk_M_localsAt, List.forall_mem_cons.mpr ⟨zk_M_isPlace, List.forall_mem_cons.mpr ⟨zk_M_canGo, List.forall_mem_cons.mpr ⟨zk_M_pushes, List.forall_mem_cons.mpr ⟨zk_M_go, List.forall_mem_cons.mpr ⟨zk_M_stub, List.forall_mem_cons.mpr ⟨zk_M_forget, List.forall_mem_cons.mpr ⟨zk_M_result, List.forall_mem_cons.mpr ⟨zk_M_take, List.forall_mem_cons.mpr ⟨zk_M_room, List.forall_mem_cons.mpr ⟨zk_M_enter, List.forall_mem_cons.mpr ⟨zk_M_hasHead, List.forall_mem_cons.mpr ⟨zk_M_call, List.forall_mem_cons.mpr ⟨zk_M_canLeave, List.forall_mem_cons.mpr ⟨zk_M_leaves, List.forall_mem_cons.mpr ⟨zk_M_leave, List.forall_mem_cons.mpr ⟨zk_M_caught, List.forall_mem_cons.mpr ⟨zk_M_thrown, List.forall_mem_cons.mpr ⟨zk_M_tail, fun _ h => absurd h List.not_mem_nil⟩⟩⟩⟩⟩⟩⟩⟩⟩⟩⟩⟩⟩⟩⟩⟩⟩⟩⟩⟩
theorem zk_all_6 : ∀ e ∈ ([mt_M_push, mt_M_pop, mt_M_popped, mt_M_peek, mt_M_copy, mt_M_roll, mt_M_swap, mt_M_against, mt_M_load, mt_M_store, mt_M_byteAt, mt_M_cell, mt_M_frames, mt_M_count, mt_J_floorMod, mt_J_max, mt_J_min, mt_L_cell] : List gx_M), gx_zok e = true := List.forall_mem_cons.mpr ⟨zk_M_push, List.forall_mem_cons.mpr ⟨zk_M_pop, List.forall_mem_cons.mpr ⟨zk_M_popped, List.forall_mem_cons.mpr ⟨zk_M_peek, List.forall_mem_cons.mpr ⟨zk_M_copy, List.forall_mem_cons.mpr ⟨zk_M_roll, List.forall_mem_cons.mpr ⟨zk_M_swap, List.forall_mem_cons.mpr ⟨zk_M_against, List.forall_mem_cons.mpr ⟨zk_M_load, List.forall_mem_cons.mpr ⟨zk_M_store, List.forall_mem_cons.mpr ⟨zk_M_byteAt, List.forall_mem_cons.mpr ⟨zk_M_cell, List.forall_mem_cons.mpr ⟨zk_M_frames, List.forall_mem_cons.mpr ⟨zk_M_count, List.forall_mem_cons.mpr ⟨zk_J_floorMod, List.forall_mem_cons.mpr ⟨zk_J_max, List.forall_mem_cons.mpr ⟨zk_J_min, List.forall_mem_cons.mpr ⟨zk_L_cell, fun _ h => absurd h List.not_mem_nil⟩⟩⟩⟩⟩⟩⟩⟩⟩⟩⟩⟩⟩⟩⟩⟩⟩⟩
theorem zk_all : ∀ e ∈ gx_mt, gx_zok e = true := by
  intro e he
  have h : e ∈ [mt_F_init, mt_F_begin, mt_F_addPair, mt_F_widthOfPair, mt_F_countOfPair, mt_F_isAccelerated, mt_F_hasFrameHead, mt_F_takesPushed, mt_F_localCount, mt_F_localsBegin, mt_F_placeOfLocal, mt_F_frameLength, mt_F_bytesWith, mt_F_upTo, mt_R_init, mt_R_size, mt_R_end, mt_R_reaches, mt_R_number, mt_R_set] ++ ([mt_R_append, mt_R_appendZeros, mt_R_cutTo, mt_R_byteOrZero, mt_R_setByte, mt_G_init, mt_G_function, mt_G_format, mt_G_accelerate, mt_G_told, mt_G_local, mt_G_functionOf, mt_G_isWidth, mt_G_call, mt_G_callAccelerated, mt_G_tail, mt_G_leave, mt_G_caught, mt_G_thrown, mt_G_givenBy] ++ ([mt_G_pushStub, mt_G_goBack, mt_G_frameBelow, mt_G_pushFrame, mt_G_pushArguments, mt_G_setLocals, mt_G_isFrame, mt_G_valuesAt, mt_G_localsAt, mt_G_isInLocals, mt_G_frameCount, mt_G_isWay, mt_G_canGo, mt_G_send, mt_G_isCell, mt_G_addToken, mt_G_latestToken, mt_G_isLive, mt_G_dropTokensFrom, mt_G_push] ++ ([mt_G_pop, mt_G_popped, mt_G_peek, mt_G_copy, mt_G_roll, mt_G_swap, mt_G_faultOfLast, mt_G_rollLast, mt_G_valuesBegin, mt_G_valueCount, mt_G_valueFromLast, mt_G_takeValues, mt_G_takenValue, mt_G_load, mt_G_store, mt_G_faultOfLocal, mt_G_byteAt, mt_G_cell, mt_G_count, mt_M_init] ++ ([mt_M_in, mt_M_fault, mt_M_read, mt_M_write, mt_M_isFunction, mt_M_function, mt_M_isWidth, mt_M_format, mt_M_accelerate, mt_M_up, mt_M_begin, mt_M_locals, mt_M_placeOf, mt_M_widthOf, mt_M_lengthOf, mt_M_told, mt_M_local, mt_M_hasFrame, mt_M_base, mt_M_values] ++ ([mt_M_lengthAt, mt_M_localsAt, mt_M_isPlace, mt_M_canGo, mt_M_pushes, mt_M_go, mt_M_stub, mt_M_forget, mt_M_result, mt_M_take, mt_M_room, mt_M_enter, mt_M_hasHead, mt_M_call, mt_M_canLeave, mt_M_leaves, mt_M_leave, mt_M_caught, mt_M_thrown, mt_M_tail] ++ ([mt_M_push, mt_M_pop, mt_M_popped, mt_M_peek, mt_M_copy, mt_M_roll, mt_M_swap, mt_M_against, mt_M_load, mt_M_store, mt_M_byteAt, mt_M_cell, mt_M_frames, mt_M_count, mt_J_floorMod, mt_J_max, mt_J_min, mt_L_cell])))))) := he
  simp only [List.mem_append] at h
  rcases h with h | h | h | h | h | h | h
  · exact zk_all_0 e h
  · exact zk_all_1 e h
  · exact zk_all_2 e h
  · exact zk_all_3 e h
  · exact zk_all_4 e h
  · exact zk_all_5 e h
  · exact zk_all_6 e h
theorem zl_0 : (List.range' 0 40).all (gx_ok RL "law" code (some .boolean) 4 cd_L_law) = true := by decide +kernel
theorem zl_40 : (List.range' 40 40).all (gx_ok RL "law" code (some .boolean) 4 cd_L_law) = true := by decide +kernel
theorem zl_80 : (List.range' 80 40).all (gx_ok RL "law" code (some .boolean) 4 cd_L_law) = true := by decide +kernel
theorem zl_120 : (List.range' 120 40).all (gx_ok RL "law" code (some .boolean) 4 cd_L_law) = true := by decide +kernel
theorem zl_160 : (List.range' 160 40).all (gx_ok RL "law" code (some .boolean) 4 cd_L_law) = true := by decide +kernel
theorem zl_200 : (List.range' 200 40).all (gx_ok RL "law" code (some .boolean) 4 cd_L_law) = true := by decide +kernel
theorem zl_240 : (List.range' 240 40).all (gx_ok RL "law" code (some .boolean) 4 cd_L_law) = true := by decide +kernel
theorem zl_280 : (List.range' 280 40).all (gx_ok RL "law" code (some .boolean) 4 cd_L_law) = true := by decide +kernel
theorem zl_320 : (List.range' 320 40).all (gx_ok RL "law" code (some .boolean) 4 cd_L_law) = true := by decide +kernel
theorem zl_360 : (List.range' 360 40).all (gx_ok RL "law" code (some .boolean) 4 cd_L_law) = true := by decide +kernel
theorem zl_400 : (List.range' 400 40).all (gx_ok RL "law" code (some .boolean) 4 cd_L_law) = true := by decide +kernel
theorem zl_440 : (List.range' 440 40).all (gx_ok RL "law" code (some .boolean) 4 cd_L_law) = true := by decide +kernel
theorem zl_480 : (List.range' 480 40).all (gx_ok RL "law" code (some .boolean) 4 cd_L_law) = true := by decide +kernel
theorem zl_520 : (List.range' 520 36).all (gx_ok RL "law" code (some .boolean) 4 cd_L_law) = true := by decide +kernel
theorem zl_all : ∀ i, gx_ok RL "law" code (some .boolean) 4 cd_L_law i = true := by
  intro i
  by_cases hi : i < 556
  · rcases Nat.lt_or_ge i 40 with h | h
    · exact List.all_eq_true.mp zl_0 i (by simp only [List.mem_range'_1]; omega)
    · rcases Nat.lt_or_ge i 80 with h | h
      · exact List.all_eq_true.mp zl_40 i (by simp only [List.mem_range'_1]; omega)
      · rcases Nat.lt_or_ge i 120 with h | h
        · exact List.all_eq_true.mp zl_80 i (by simp only [List.mem_range'_1]; omega)
        · rcases Nat.lt_or_ge i 160 with h | h
          · exact List.all_eq_true.mp zl_120 i (by simp only [List.mem_range'_1]; omega)
          · rcases Nat.lt_or_ge i 200 with h | h
            · exact List.all_eq_true.mp zl_160 i (by simp only [List.mem_range'_1]; omega)
            · rcases Nat.lt_or_ge i 240 with h | h
              · exact List.all_eq_true.mp zl_200 i (by simp only [List.mem_range'_1]; omega)
              · rcases Nat.lt_or_ge i 280 with h | h
                · exact List.all_eq_true.mp zl_240 i (by simp only [List.mem_range'_1]; omega)
                · rcases Nat.lt_or_ge i 320 with h | h
                  · exact List.all_eq_true.mp zl_280 i (by simp only [List.mem_range'_1]; omega)
                  · rcases Nat.lt_or_ge i 360 with h | h
                    · exact List.all_eq_true.mp zl_320 i (by simp only [List.mem_range'_1]; omega)
                    · rcases Nat.lt_or_ge i 400 with h | h
                      · exact List.all_eq_true.mp zl_360 i (by simp only [List.mem_range'_1]; omega)
                      · rcases Nat.lt_or_ge i 440 with h | h
                        · exact List.all_eq_true.mp zl_400 i (by simp only [List.mem_range'_1]; omega)
                        · rcases Nat.lt_or_ge i 480 with h | h
                          · exact List.all_eq_true.mp zl_440 i (by simp only [List.mem_range'_1]; omega)
                          · rcases Nat.lt_or_ge i 520 with h | h
                            · exact List.all_eq_true.mp zl_480 i (by simp only [List.mem_range'_1]; omega)
                            · rcases Nat.lt_or_ge i 556 with h | h
                              · exact List.all_eq_true.mp zl_520 i (by simp only [List.mem_range'_1]; omega)
                              · omega
  · have : cd_L_law[i]? = none := List.getElem?_eq_none (by show cd_L_law.length ≤ i; have h2 : cd_L_law.length = 556 := by decide +kernel
                                                            omega)
    unfold gx_ok; rw [this]
end
section
/-! The own machine's words over the kit's worlds: addresses from bs on, the script at bq. -/
def gx_tr (bs bq : Nat) (v : Value) : Value := match v with
  | .ref q => .ref (bs + q)
  | .retAddr _ => .ref bq
  | v => v
def gx_ce (bs bq : Nat) (cA : Nat → ClassId) (a : gx_A) : va_E := match a with
  | .inl (t, n, f) => .inl (cA t, n, .inl f)
  | .inr (.inl (n, g)) => .inl (cA 2, n, .inr (.inr (.inr (.inr (fun j => (g j).map (fun q => bs + q))))))
  | .inr (.inr (ci, fs)) => .inr (ci, fs.map (gx_tr bs bq))
def gx_ws (bs bq : Nat) (cA : Nat → ClassId) (h : gx_H) : va_W := h.mapIdx fun i a => (bs + i, gx_ce bs bq cA a)
theorem gx_ws_get {bs bq : Nat} {cA : Nat → ClassId} {h : gx_H} {k : Nat} {a : gx_A} (hk : h[k]? = some a) : (gx_ws bs bq cA h)[k]? = some (bs + k, gx_ce bs bq cA a) := by
  simp [gx_ws, hk]
theorem gx_ws_of {bs bq : Nat} {cA : Nat → ClassId} {h : gx_H} {k : Nat} {q : Nat × va_E} (hk : (gx_ws bs bq cA h)[k]? = some q) : ∃ a, h[k]? = some a ∧ q = (bs + k, gx_ce bs bq cA a) := by
  simp only [gx_ws, List.getElem?_mapIdx, Option.map_eq_some_iff] at hk
  obtain ⟨a, h1, h2⟩ := hk
  exact ⟨a, h1, h2.symm⟩
theorem gx_ws_set {bs bq : Nat} {cA : Nat → ClassId} {h : gx_H} {k : Nat} {a : gx_A} : (gx_ws bs bq cA h).set k (bs + k, gx_ce bs bq cA a) = gx_ws bs bq cA (h.set k a) := by
  apply List.ext_getElem?
  intro i
  simp only [gx_ws, List.getElem?_set, List.getElem?_mapIdx, List.length_mapIdx]
  by_cases e : k = i
  · subst e
    by_cases l : k < h.length <;> simp [l]
  · simp [e]
theorem gx_ws_app {bs bq : Nat} {cA : Nat → ClassId} {h : gx_H} {a : gx_A} : gx_ws bs bq cA h ++ [(bs + h.length, gx_ce bs bq cA a)] = gx_ws bs bq cA (h ++ [a]) := by
  simp [gx_ws, List.mapIdx_append]
theorem gx_ws_len {bs bq : Nat} {cA : Nat → ClassId} {h : gx_H} : (gx_ws bs bq cA h).length = h.length := by simp [gx_ws]
theorem gx_ws_D {bs bq : Nat} {cA : Nat → ClassId} {h : gx_H} : va_D (fun q => bs ≤ q) (gx_ws bs bq cA h) := by
  refine ⟨fun i j p q hi hj e => ?_, fun k q hk => ?_⟩
  · obtain ⟨a, -, rfl⟩ := gx_ws_of hi
    obtain ⟨a2, -, rfl⟩ := gx_ws_of hj
    have : bs + i = bs + j := e
    omega
  · obtain ⟨a, -, rfl⟩ := gx_ws_of hk
    exact Nat.le_add_right _ _
def gx_hr (D : va_G) (bs bq : Nat) (cA : Nat → ClassId) (h : gx_H) (H : Heap) : Prop := va_P D vwCl (gx_ws bs bq cA h) H ∧ H.size = bs + h.length
abbrev gx_ty (cA : Nat → ClassId) : List (ClassId × FieldType) := [(cA 0, .int), (cA 1, .byte), (cA 2, .object RX0)]
/-- the locals -/
def gx_lv (bs bq : Nat) (L : gx_L) : List (Nat × Value) := (List.range L.length).filterMap fun i => match L[i]? with
  | some (some v) => some (i, gx_tr bs bq v)
  | _ => none
theorem gx_lv_mem {bs bq : Nat} {L : gx_L} {q : Nat × Value} : q ∈ gx_lv bs bq L ↔ ∃ v, L[q.1]? = some (some v) ∧ q.2 = gx_tr bs bq v := by
  unfold gx_lv
  rw [List.mem_filterMap]
  constructor
  · rintro ⟨i, -, hi⟩
    split at hi
    · rename_i v hv
      cases hi
      exact ⟨v, hv, rfl⟩
    · cases hi
  · rintro ⟨v, hv, e⟩
    refine ⟨q.1, List.mem_range.mpr (List.getElem?_eq_some_iff.mp hv).1, ?_⟩
    rw [hv]
    show some (q.1, gx_tr bs bq v) = some q
    rw [← e]
def gx_lh (bs bq : Nat) (nL : Nat) (ls : Array Slot) (L : gx_L) : Prop := lv_has ls nL (gx_lv bs bq L) ∧ L.length = nL ∧ ∀ (i : Nat) (v : Value), L[i]? = some (some v) → v.category = 1
theorem gx_tr_cat (bs bq : Nat) (v : Value) : (gx_tr bs bq v).category = v.category := by cases v <;> rfl
theorem gx_lh_get {bs bq nL : Nat} {ls : Array Slot} {L : gx_L} (h : gx_lh bs bq nL ls L) {i : Nat} {v : Value} (hv : L[i]? = some (some v)) : ls[i]? = some (.val (gx_tr bs bq v)) :=
  h.1.2.2 (i, gx_tr bs bq v) (gx_lv_mem.mpr ⟨v, hv, rfl⟩)
/-- behind a store the kit's list holds ours -/
theorem gx_lh_set {bs bq nL : Nat} {ls ls' : Array Slot} {L : gx_L} (h : gx_lh bs bq nL ls L) {i : Nat} {v : Value} (hc : v.category = 1)
    (h' : lv_has ls' nL ((i, gx_tr bs bq v) :: (gx_lv bs bq L).filter (fun q => !(q.1 == i) && !(q.1 + 1 == i && q.2.category == 2)))) : gx_lh bs bq nL ls' (L.set i (some v)) := by
  refine ⟨⟨h'.1, h'.2.1, fun q hq => h'.2.2 q ?_⟩, by rw [List.length_set]; exact h.2.1, fun j w hw => ?_⟩
  · obtain ⟨w, hw, e⟩ := gx_lv_mem.mp hq
    rw [List.getElem?_set] at hw
    by_cases e2 : i = q.1
    · rw [if_pos e2] at hw
      split at hw
      · cases hw
        refine List.mem_cons.mpr (Or.inl ?_)
        exact Prod.ext e2.symm e
      · cases hw
    · rw [if_neg e2] at hw
      refine List.mem_cons.mpr (Or.inr (List.mem_filter.mpr ⟨gx_lv_mem.mpr ⟨w, hw, e⟩, ?_⟩))
      have h1 : w.category = 1 := h.2.2 _ _ hw
      have h2 : q.2.category = 1 := by rw [e, gx_tr_cat]; exact h1
      have h3 : (q.1 == i) = false := by simpa using fun z : q.1 = i => e2 z.symm
      simp [h3, h2]
  · rw [List.getElem?_set] at hw
    by_cases e2 : i = j
    · rw [if_pos e2] at hw
      split at hw
      · cases hw; exact hc
      · cases hw
    · rw [if_neg e2] at hw
      exact h.2.2 _ _ hw
theorem gx_sl1 : ∀ (vs : List Value), (∀ v ∈ vs, v.category = 1) → lg_sl vs = vs.map Slot.val
  | [], _ => rfl
  | v :: vs, h => by
    have h1 : ¬ v.category = 2 := by rw [h v List.mem_cons_self]; decide
    have ih := gx_sl1 vs fun w hw => h w (List.mem_cons_of_mem _ hw)
    unfold lg_sl at ih ⊢
    rw [List.flatMap_cons, ih, if_neg h1]
    rfl
theorem gx_args : ∀ (vs : List Value) (k : Nat), (∀ v ∈ vs, v.category = 1) → ∀ i w, vs[i]? = some w → (k + i, w) ∈ lv_args k vs
  | [], _, _, i, w, h => by simp at h
  | v :: vs, k, hc, i, w, h => by
    have h1 : ¬ v.category = 2 := by rw [hc v List.mem_cons_self]; decide
    unfold lv_args
    rw [if_neg h1]
    cases i with
    | zero =>
      rw [List.getElem?_cons_zero] at h
      cases h
      exact List.mem_cons_self
    | succ i =>
      rw [List.getElem?_cons_succ] at h
      refine List.mem_cons_of_mem _ ?_
      have := gx_args vs (k + 1) (fun v hv => hc v (List.mem_cons_of_mem _ hv)) i w h
      rw [show k + (i + 1) = k + 1 + i by omega]
      exact this
/-- the locals at a method's entry -/
theorem gx_entry {bs bq nL : Nat} {av : List Value} (hc : ∀ v ∈ av, v.category = 1) (hn : av.length ≤ nL) :
    gx_lh bs bq nL ((lg_sl (av.map (gx_tr bs bq)) ++ List.replicate (nL - (lg_sl (av.map (gx_tr bs bq))).length) Slot.unset).toArray) (gx_l0 av nL) := by
  have hc2 : ∀ v ∈ av.map (gx_tr bs bq), v.category = 1 := fun v hv => by
    obtain ⟨w, hw, rfl⟩ := List.mem_map.mp hv
    rw [gx_tr_cat]; exact hc w hw
  have hl : (lg_sl (av.map (gx_tr bs bq))).length = av.length := by rw [gx_sl1 _ hc2]; simp
  have h0 := lv_entry (av.map (gx_tr bs bq)) (n := nL) (by rw [hl]; exact hn)
  have hget : ∀ (i : Nat) (v : Value), (gx_l0 av nL)[i]? = some (some v) → av[i]? = some v := by
    intro i v hv
    unfold gx_l0 at hv
    by_cases hi : i < av.length
    · rw [List.getElem?_append_left (by simpa using hi), List.getElem?_map] at hv
      rw [List.getElem?_eq_getElem hi] at hv ⊢
      simpa using hv
    · rw [List.getElem?_append_right (by simpa using hi)] at hv
      have := List.mem_of_getElem? hv
      simp at this
  refine ⟨⟨h0.1, h0.2.1, fun q hq => h0.2.2 q ?_⟩, by unfold gx_l0; simp; omega, fun i v hv => hc v (List.mem_of_getElem? (hget i v hv))⟩
  obtain ⟨v, hv, e⟩ := gx_lv_mem.mp hq
  have h1 := hget _ _ hv
  have h2 := gx_args (av.map (gx_tr bs bq)) 0 hc2 q.1 (gx_tr bs bq v) (by rw [List.getElem?_map, h1]; rfl)
  rw [Nat.zero_add, ← e] at h2
  exact h2
/-- what a method's entry knows of tables and script -/
def gx_cx (D : va_G) (bs bq : Nat) (cA : Nat → ClassId) (LL : Nat) (xs : Nat → Int32) (U : State) : Prop := va_K D vwCl (gx_ty cA) U ∧ va_X bq LL xs U U.heap ∧ bq < bs ∧ bs ≤ U.heap.size ∧ va_AO RX0 U ∧ gx_NL U
def gx_pre (D : va_G) (bs bq : Nat) (cA : Nat → ClassId) (LL : Nat) (xs : Nat → Int32) (h : gx_H) (U : State) : Prop := gx_hr D bs bq cA h U.heap ∧ gx_cx D bs bq cA LL xs U
def gx_pst (D : va_G) (bs bq : Nat) (cA : Nat → ClassId) (Q : gx_Q) : Array Value → State → Outcome → State → Prop := fun _ st oc t =>
  (∃ r h1, Q r h1 ∧ oc = .returned (r.map (gx_tr bs bq)) ∧ gx_hr D bs bq cA h1 t.heap) ∧ va_F (fun q => bs ≤ q) st t
def gx_rm (d mc ms : Nat) : Room := { frames := d, cells := mc, slots := ms, locals := 27 * d }
abbrev gx_wy (y : MethodName) (bc : ByteArray) (nL : Nat) (ret : Option FieldType) : List Jvm.Cond := .code y bc nL ret :: gx_tb
/-- a method's contract over the machine -/
def gx_met (l : Launch) (D : va_G) (bs bq : Nat) (cA : Nat → ClassId) (LL : Nat) (xs : Nat → Int32) (d : Nat) (e : gx_M) (mc ms : Nat) (av : List Value) (h : gx_H) (Q : gx_Q) : Prop :=
  Met l e.1 (gx_wy e.1 e.2.1 e.2.2.1 e.2.2.2.1) (gx_rm d mc ms) (va_Pc (av.map (gx_tr bs bq)) (gx_pre D bs bq cA LL xs h)) (gx_pst D bs bq cA Q) mc ms (fun q => bs ≤ q)
theorem gx_good : GoodIn gx_tb gx_tb := fun w hw => ⟨hw, good_of_word (List.mem_filter.mp hw).2⟩
theorem gx_blind {D : va_G} {bs bq : Nat} {cA : Nat → ClassId} {LL : Nat} {xs : Nat → Int32} {h : gx_H} {av : List Value} : FrameBlind (va_Pc av (gx_pre D bs bq cA LL xs h)) := fun a U g mk q =>
  ⟨q.1, q.2.1, va_K.moved (u := U) (U := U.calling g mk a) (Vm.Alike.refl U.vm) q.2.2.1, va_X.moved (u := U) (U := U.calling g mk a) (Vm.Alike.refl U.vm) q.2.2.2.1, q.2.2.2.2.1, q.2.2.2.2.2.1, va_AO.moved (u := U) (U := U.calling g mk a) (Vm.Alike.refl U.vm) q.2.2.2.2.2.2.1, gx_NL_same (s := U) (U := U.calling g mk a) rfl q.2.2.2.2.2.2.2⟩
end
section
/-! Rows of the machine that write or make cells, over our heaps: with the exact size. -/
theorem gx_hr_set {D : va_G} {bs bq : Nat} {cA : Nat → ClassId} {h : gx_H} {H H1 : Heap} {k : Nat} {a0 a : gx_A} (hr : gx_hr D bs bq cA h H) (hk : h[k]? = some a0) (he : va_at D vwCl (bs + k, gx_ce bs bq cA a) H1) (z : H1.size = H.size) (oq : ∀ q : Nat, q ≠ bs + k → H1[q]? = H[q]?) : gx_hr D bs bq cA (h.set k a) H1 := by
  refine ⟨?_, by rw [z, hr.2, List.length_set]⟩
  rw [← gx_ws_set]
  exact hr.1.set gx_ws_D (gx_ws_get hk) he oq
theorem gx_hr_push {D : va_G} {bs bq : Nat} {cA : Nat → ClassId} {h : gx_H} {H H1 : Heap} {a : gx_A} (hr : gx_hr D bs bq cA h H) (he : va_at D vwCl (bs + h.length, gx_ce bs bq cA a) H1) (z : H1.size = H.size + 1) (oq : ∀ q : Nat, q < H.size → H1[q]? = H[q]?) : gx_hr D bs bq cA (h ++ [a]) H1 := by
  refine ⟨?_, by rw [z, hr.2, List.length_append]; rfl⟩
  rw [← gx_ws_app]
  refine va_P.app (hr.1.kept fun k x hx => oq x.1 ((hr.1 k x hx).lt)) (fun k x hx => ?_)
  have hz : k < 1 := (List.getElem?_eq_some_iff.mp hx).1
  rw [show k = 0 by omega] at hx
  cases hx
  exact he
theorem gx_S_push {bs : Nat} {H0 H H1 : Heap} {locs : List Loc} (hS : va_S (fun q => bs ≤ q) H0 H locs) (z : H1.size = H.size + 1) (oq : ∀ q : Nat, q < H.size → H1[q]? = H[q]?) : va_S (fun q => bs ≤ q) H0 H1 locs :=
  ⟨Nat.le_trans hS.1 (by omega), fun x h1 h2 => (oq x (Nat.lt_of_lt_of_le h1 hS.1)).trans (hS.2.1 x h1 h2), hS.2.2⟩
/-- the classes: their fields' types, names, words -/
theorem gx_inw : ∀ (a : Nat) (C : String) (T : u_T) (N : Nat), vwCl[a]? = some (C, T, N) → ∀ w ∈ u_ws C T N, w ∈ gx_tb := by
  have h : ∀ q ∈ vwCl, ∀ w ∈ u_ws q.1 q.2.1 q.2.2, w ∈ gx_tb := by
    have h1 : ∀ w ∈ u_ws RX0 TX0 5, w ∈ gx_tb := by decide +kernel
    have h2 : ∀ w ∈ u_ws RX1 TX1 2, w ∈ gx_tb := by decide +kernel
    have h3 : ∀ w ∈ u_ws RX2 TX2 9, w ∈ gx_tb := by decide +kernel
    have h4 : ∀ w ∈ u_ws RX3 TX3 15, w ∈ gx_tb := by decide +kernel
    exact List.forall_mem_cons.mpr ⟨h1, List.forall_mem_cons.mpr ⟨h2, List.forall_mem_cons.mpr ⟨h3, List.forall_mem_cons.mpr ⟨h4, fun _ h => absurd h List.not_mem_nil⟩⟩⟩⟩
  intro a C T N ha
  exact h _ (List.mem_of_getElem? ha)
theorem gx_tys : ∀ (a : Nat) (C : String) (T : u_T) (N : Nat), vwCl[a]? = some (C, T, N) → ∃ ty : Nat → FieldType, (∀ k, k < N → parseFieldDescriptor (T k).2.2.1 = some (ty k)) ∧ (∀ a, a < N → ∀ b, b < N → a ≠ b → (T a).2.1 ≠ (T b).2.1) ∧ (gx_df a).length = N ∧ ∀ bs bq j, j < N → defaultValue (ty j) = vp_V ((gx_df a).map (gx_tr bs bq)) j := by
  intro a C T N ha
  match a, ha with
  | 0, ha => cases ha; exact ⟨tyX0, tyX0_ok, nmX0, rfl, fun bs bq j hj => by match j, hj with | 0, _ => rfl | 1, _ => rfl | 2, _ => rfl | 3, _ => rfl | 4, _ => rfl⟩
  | 1, ha => cases ha; exact ⟨tyX1, tyX1_ok, nmX1, rfl, fun bs bq j hj => by match j, hj with | 0, _ => rfl | 1, _ => rfl⟩
  | 2, ha => cases ha; exact ⟨tyX2, tyX2_ok, nmX2, rfl, fun bs bq j hj => by match j, hj with | 0, _ => rfl | 1, _ => rfl | 2, _ => rfl | 3, _ => rfl | 4, _ => rfl | 5, _ => rfl | 6, _ => rfl | 7, _ => rfl | 8, _ => rfl⟩
  | 3, ha => cases ha; exact ⟨tyX3, tyX3_ok, nmX3, rfl, fun bs bq j hj => by match j, hj with | 0, _ => rfl | 1, _ => rfl | 2, _ => rfl | 3, _ => rfl | 4, _ => rfl | 5, _ => rfl | 6, _ => rfl | 7, _ => rfl | 8, _ => rfl | 9, _ => rfl | 10, _ => rfl | 11, _ => rfl | 12, _ => rfl | 13, _ => rfl | 14, _ => rfl⟩
  | a + 4, ha => simp [vwCl] at ha
section GXR
variable {p : Program} {l : Launch} {e : Env} {R : Room} {s : State} {m : MethodId} {args : Array Value} {below : List Frame} {meth : Method} {c : Code} {H : Heap} {locs : List Loc} {cells slots : Nat} {F : State → Prop}
variable {cc : ByteArray} {pc : Nat} {ls : Array Slot} {rest : List Value} {D : va_G} {bs bq : Nat} {cA : Nat → ClassId} {h : gx_H}
theorem gx_put (hx : p.tables.exec = Jvm.exec) (hb : c.code = cc) {own C : String} {T : u_T} {N ci index : Nat} (hts : ∀ w ∈ gx_tb, w.before args s = true) (hown : s.vm.findClass own = some m.cls) (hK : va_K D vwCl (gx_ty cA) s) (hr : gx_hr D bs bq cA h H) (hS : va_S (fun q => bs ≤ q) s.heap H locs)
    {q : Nat} {fs : List Value} (he : h[q]? = some (.inr (.inr (ci, fs)))) (hc : vwCl[ci]? = some (C, T, N)) (k : Nat) (hk : k < N) (hlink : (Jvm.Cond.fieldLink own index (T k).1 (T k).2.1 (T k).2.2.1).before args s = true)
    {v : Value} {ty : FieldType} (hl : k < fs.length) (hd : parseFieldDescriptor (T k).2.2.1 = some ty) (hn : narrow ty (gx_tr bs bq v) = gx_tr bs bq v) (hfit : fits ty (gx_tr bs bq v) = true) (hfin : (T k).2.2.2 = false ∨ ((T k).2.2.2 = true ∧ meth.name = "<init>" ∧ (T k).1 = own))
    (hdg : decode cc pc = .ok (.putfield index, 3))
    (kk : ∀ (H1 : Heap) (locs1 : List Loc), gx_hr D bs bq cA (h.set q (.inr (.inr (ci, fs.set k v)))) H1 → va_S (fun q => bs ≤ q) s.heap H1 locs1 → W p l e R s m args below meth c H1 locs1 cells slots F (F0 m (pc + 3) ls rest)) :
    W p l e R s m args below meth c H locs cells slots F (F0 m pc ls (gx_tr bs bq v :: .ref (bs + q) :: rest)) := by
  have hin := gx_inw ci C T N hc
  obtain ⟨ty0, hty, hnm, -⟩ := gx_tys ci C T N hc
  have hap := va_apart (own := own) hts hin ty0 hty hnm hK hc
  obtain ⟨r, h1, cell, q1, q2, q3, q4⟩ := hr.1 q _ (gx_ws_get he)
  have hrr : r = (C, T, N) := Option.some.inj (h1.symm.trans hc)
  subst hrr
  obtain ⟨hSl, hfc, kC, hkC, hkind⟩ := hK.1 ci _ hc
  obtain ⟨cf, kf, fi, f, hi, hsl⟩ := hSl k hk
  have hlay := hts _ (hin _ (u_in_lay hk))
  have hst := (u_facts hfc hkC (u_lays hts hin hk) hi).1
  have hl' : k < (fs.map (gx_tr bs bq)).length := by simpa using hl
  have fin : ∀ (H' : Heap), H'[bs + q]? = some (cell.setSlot f.slot (gx_tr bs bq v)) → H'.size = H.size → (∀ x : Nat, x ≠ bs + q → H'[x]? = H[x]?) → W p l e R s m args below meth c H' (locs ++ [⟨bs + q, f.slot⟩]) cells slots F (F0 m (pc + 3) ls rest) := by
    intro H' e1 e2 e3
    rw [hsl] at e1
    refine kk H' _ (gx_hr_set hr he ⟨_, hc, ?_⟩ e2 e3) (hS.put e2 e3 (Nat.le_add_right _ _))
    show t_OB (bs + q) (D.1 ci) N (D.2 ci) H' (vp_V ((fs.set k v).map (gx_tr bs bq)))
    rw [List.map_set]
    exact t_OB.to (V := updV (vp_V (fs.map (gx_tr bs bq))) k (gx_tr bs bq v)) ⟨_, e1, q2, q3, t_set q4 hap hk (gx_tr bs bq v)⟩ (fun j _ => vp_updV_set hl' (gx_tr bs bq v) j)
  rcases hfin with hfin | ⟨hfin, hin2, hdecl⟩
  · unfold u_lay at hlay
    rw [if_neg (by rw [hfin]; decide)] at hlay
    have h6 := u_store hfc hkC hkind hlay hi hd hn hfit
    exact W.putK hx hb (f := f) ⟨hown, hlink, ⟨_, _, _, hi⟩, hst⟩ (by rw [q2]; exact h6) q1 q3 (by rw [hsl]; exact k2_hasslot (q4 k hk)) rfl rfl hdg fin
  · unfold u_lay at hlay
    rw [if_pos hfin] at hlay
    have hcf : m.cls = cf := by
      obtain ⟨_, _, c', _, _, _, -, -, hf', -, -, -, hown2, -⟩ := Cond.laysFinal_spec hlay
      have e1 : c' = cf := by have := hi.symm.trans hf'; simp at this; exact this.1.symm
      rw [hdecl] at hown2
      rw [← e1]; exact Option.some.inj (hown.symm.trans hown2)
    have h6 := u_fits hfc hkC hkind (Or.inr hlay) hi hd hn hfit
    exact W.putFinK hx hb hown hlink hi hst hcf hin2 (by rw [q2]; exact h6) q1 q3 (by rw [hsl]; exact k2_hasslot (q4 k hk)) rfl rfl hdg fin
theorem gx_upd {cA0 : ClassId} {n j : Nat} {f : Nat → Int32} {y : Int32} : (fun z => Value.int (upd f j y z)) = updV (fun z => Value.int (f z)) j (.int y) := by
  funext z
  by_cases hz : z = j <;> simp [updV, upd, hz]
theorem gx_ias (hx : p.tables.exec = Jvm.exec) (hb : c.code = cc) (hK : va_K D vwCl (gx_ty cA) s) (hr : gx_hr D bs bq cA h H) (hS : va_S (fun q => bs ≤ q) s.heap H locs) {q n : Nat} {f : Nat → Int32} (ha : h[q]? = some (.inl (0, n, f))) {j : Nat} {x : Int32} (hj : j < n) (hn : n < 2147483648) (hdg : decode cc pc = .ok (.iastore, 1))
    (kk : ∀ (H1 : Heap) (locs1 : List Loc), gx_hr D bs bq cA (h.set q (.inl (0, n, upd f j x))) H1 → va_S (fun q => bs ≤ q) s.heap H1 locs1 → W p l e R s m args below meth c H1 locs1 cells slots F (F0 m (pc + 1) ls rest)) :
    W p l e R s m args below meth c H locs cells slots F (F0 m pc ls (.int x :: .int (nI j) :: .ref (bs + q) :: rest)) := by
  have hin : vp_in (nI j) n := vp_in_nI hj hn
  have hcl : (nI j).toNatClampNeg = j := nI_clamp (Nat.lt_trans hj hn)
  refine W.iast hx hb (hr.1 q _ (gx_ws_get ha)) ((hK.2 0 _ rfl).1 n (fun j => .int (f j))) (fun q => by cases q) (by show ¬ (nI j < 0 ∨ (arrV _ _ _).slots.size ≤ _); rw [arrV_size]; exact hin) rfl rfl hdg fun H1 e z oq => ?_
  refine kk H1 _ (gx_hr_set hr ha ?_ z oq) (hS.put z oq (Nat.le_add_right _ _))
  show H1[bs + q]? = some (arrV (cA 0) n (fun z => .int (upd f j x z)))
  rw [e, hcl]
  show some ((arrV (cA 0) n (fun z => .int (f z))).setSlot j (.int x)) = _
  rw [arrV_store, gx_upd (cA0 := cA 0) (n := n)]
theorem gx_bas (hx : p.tables.exec = Jvm.exec) (hb : c.code = cc) (hK : va_K D vwCl (gx_ty cA) s) (hr : gx_hr D bs bq cA h H) (hS : va_S (fun q => bs ≤ q) s.heap H locs) {q n : Nat} {f : Nat → Int32} (ha : h[q]? = some (.inl (1, n, f))) {j : Nat} {x : Int32} (hj : j < n) (hn : n < 2147483648) (hdg : decode cc pc = .ok (.bastore, 1))
    (kk : ∀ (H1 : Heap) (locs1 : List Loc), gx_hr D bs bq cA (h.set q (.inl (1, n, upd f j x.toInt8.toInt32))) H1 → va_S (fun q => bs ≤ q) s.heap H1 locs1 → W p l e R s m args below meth c H1 locs1 cells slots F (F0 m (pc + 1) ls rest)) :
    W p l e R s m args below meth c H locs cells slots F (F0 m pc ls (.int x :: .int (nI j) :: .ref (bs + q) :: rest)) := by
  have hin : vp_in (nI j) n := vp_in_nI hj hn
  have hcl : (nI j).toNatClampNeg = j := nI_clamp (Nat.lt_trans hj hn)
  refine W.bast hx hb (hr.1 q _ (gx_ws_get ha)) ((hK.2 1 _ rfl).1 n (fun j => .int (f j))) (fun q => by cases q) (by show ¬ (nI j < 0 ∨ (arrV _ _ _).slots.size ≤ _); rw [arrV_size]; exact hin) rfl rfl hdg fun H1 e z oq => ?_
  refine kk H1 _ (gx_hr_set hr ha ?_ z oq) (hS.put z oq (Nat.le_add_right _ _))
  show H1[bs + q]? = some (arrV (cA 1) n (fun z => .int (upd f j x.toInt8.toInt32 z)))
  rw [e, hcl, gx_upd (cA0 := cA 0) (n := n), ← arrV_store]
  rfl
theorem gx_aas (hx : p.tables.exec = Jvm.exec) (hb : c.code = cc) (hK : va_K D vwCl (gx_ty cA) s) (hr : gx_hr D bs bq cA h H) (hS : va_S (fun q => bs ≤ q) s.heap H locs) {q n w : Nat} {fs : List Value} {g : Nat → Option Nat} (ha : h[q]? = some (.inr (.inl (n, g)))) (hv : h[w]? = some (.inr (.inr (0, fs)))) {j : Nat} (hj : j < n) (hn : n < 2147483648) (hdg : decode cc pc = .ok (.aastore, 1))
    (kk : ∀ (H1 : Heap) (locs1 : List Loc), gx_hr D bs bq cA (h.set q (.inr (.inl (n, va_up g j (some w))))) H1 → va_S (fun q => bs ≤ q) s.heap H1 locs1 → W p l e R s m args below meth c H1 locs1 cells slots F (F0 m (pc + 1) ls rest)) :
    W p l e R s m args below meth c H locs cells slots F (F0 m pc ls (.ref (bs + w) :: .int (nI j) :: .ref (bs + q) :: rest)) := by
  have hin : vp_in (nI j) n := vp_in_nI hj hn
  have hcl : (nI j).toNatClampNeg = j := nI_clamp (Nat.lt_trans hj hn)
  have hc : vwCl[0]? = some (RX0, TX0, 5) := rfl
  obtain ⟨r', hr', cellV, g1, g2, g3, -⟩ := hr.1 w _ (gx_ws_get hv)
  have hcls := (hK.1 0 _ hc).2
  obtain ⟨kA, comp, k1, k2, k3, -⟩ := (hK.2 2 _ rfl).2
  have hcomp : comp = D.1 0 := Option.some.inj (k3.symm.trans hcls.1)
  subst hcomp
  obtain ⟨kC, hkC, -⟩ := hcls.2
  refine W.aast hx hb (hr.1 q _ (gx_ws_get ha)) (fun q h => by cases h) (fun h => by cases h) k1 k2 rfl hkC ⟨fun z => hin (Or.inl z), by show _ < (arrV _ _ _).slots.size; rw [arrV_size]; exact Nat.not_le.mp fun z => hin (Or.inr z)⟩ g1 (fun q h => by rw [g3] at h; cases h) (by rw [g2]; exact hkC) (by rw [g2]; exact va_assign hcls) rfl rfl hdg fun H1 e z oq => ?_
  refine kk H1 _ (gx_hr_set hr ha ?_ z oq) (hS.put z oq (Nat.le_add_right _ _))
  show H1[bs + q]? = some (arrV (cA 2) n (fun z => va_rf ((va_up g j (some w) z).map (fun q => bs + q))))
  rw [e, hcl]
  show some ((arrV (cA 2) n (fun z => va_rf ((g z).map (fun q => bs + q)))).setSlot j (.ref (bs + w))) = _
  rw [arrV_store]
  congr 2
  funext z
  by_cases hz : z = j
  · subst hz; simp [updV, va_up, va_rf]
  · simp [updV, va_up, hz]
theorem gx_new (hx : p.tables.exec = Jvm.exec) (hb : c.code = cc) {own C : String} {T : u_T} {N ci index : Nat} (hts : ∀ w ∈ gx_tb, w.before args s = true) (hown : s.vm.findClass own = some m.cls) (hK : va_K D vwCl (gx_ty cA) s) (hr : gx_hr D bs bq cA h H) (hS : va_S (fun q => bs ≤ q) s.heap H locs)
    (hc : vwCl[ci]? = some (C, T, N)) (hcl : (Jvm.Cond.classLink own index C).before args s = true) (hinst : (Jvm.Cond.instantiable C N).before args s = true) (hini : (Jvm.Cond.initialized C).before args s = true) (hcells : cells + 1 ≤ R.cells) (hslots : slots + N ≤ R.slots) (hdg : decode cc pc = .ok (.new index, 3))
    (kk : ∀ (H1 : Heap), gx_hr D bs bq cA (h ++ [.inr (.inr (ci, gx_df ci))]) H1 → va_S (fun q => bs ≤ q) s.heap H1 locs → W p l e R s m args below meth c H1 locs (cells + 1) (slots + N) F (F0 m (pc + 3) ls (.ref (bs + h.length) :: rest))) :
    W p l e R s m args below meth c H locs cells slots F (F0 m pc ls rest) := by
  have hin := gx_inw ci C T N hc
  obtain ⟨ty, hty, -, -, hfs⟩ := gx_tys ci C T N hc
  have hKn := hK.1 ci _ hc
  refine W.newcK hx hb hown hcl hinst hini rfl hdg hcells hslots hKn.2.1 hr.2 fun H1 kC hkC e1 z1 o1 => ?_
  have z2 : H1.size = H.size + 1 := by rw [z1, hr.2]
  have o2 : ∀ q : Nat, q < H.size → H1[q]? = H[q]? := fun q hq => o1 q (by rw [← hr.2]; exact hq)
  exact kk H1 (gx_hr_push hr ⟨_, hc, (u_born ty hts hin hKn hkC e1 hty).to (hfs bs bq)⟩ z2 o2) (gx_S_push hS z2 o2)
theorem gx_newa (hx : p.tables.exec = Jvm.exec) (hb : c.code = cc) {atype : ArrayType} (harr : (Jvm.Cond.arrayClass (newarray.typeOf atype)).before args s = true) {t n : Nat} (ht : (t = 0 ∧ atype = .int) ∨ (t = 1 ∧ atype = .byte)) (hK : va_K D vwCl (gx_ty cA) s) (hr : gx_hr D bs bq cA h H) (hS : va_S (fun q => bs ≤ q) s.heap H locs)
    (hn : n ≤ 65536) (hcells : cells + 1 ≤ R.cells) (hslots : slots + n ≤ R.slots) (hdg : decode cc pc = .ok (.newarray atype, 2))
    (kk : ∀ (H1 : Heap), gx_hr D bs bq cA (h ++ [.inl (t, n, fun _ => 0)]) H1 → va_S (fun q => bs ≤ q) s.heap H1 locs → W p l e R s m args below meth c H1 locs (cells + 1) (slots + n) F (F0 m (pc + 2) ls (.ref (bs + h.length) :: rest))) :
    W p l e R s m args below meth c H locs cells slots F (F0 m pc ls (.int (nI n) :: rest)) := by
  have hlt : n < 2 ^ 31 := by omega
  refine va_newaK hx hb harr rfl hdg rfl (nI_pos hlt) (nI_clamp hlt) ?_ hcells hslots hr.2 fun H1 cA' e1 z1 o1 hAr hNm => ?_
  · rcases ht with ⟨-, rfl⟩ | ⟨-, rfl⟩
    · show n * 4 ≤ 536870912; omega
    · show n * 1 ≤ 536870912; omega
  have z2 : H1.size = H.size + 1 := by rw [z1, hr.2]
  have o2 : ∀ q : Nat, q < H.size → H1[q]? = H[q]? := fun q hq => o1 q (by rw [← hr.2]; exact hq)
  refine kk H1 (gx_hr_push hr ?_ z2 o2) (gx_S_push hS z2 o2)
  rcases ht with ⟨rfl, rfl⟩ | ⟨rfl, rfl⟩
  · have h2 : s.vm.findClass ("[" ++ FieldType.int.toString) = some (cA 0) := (hK.2 0 _ rfl).2
    have e : cA' = cA 0 := Option.some.inj (hNm.symm.trans h2)
    subst e
    exact e1
  · have h2 : s.vm.findClass ("[" ++ FieldType.byte.toString) = some (cA 1) := (hK.2 1 _ rfl).2
    have e : cA' = cA 1 := Option.some.inj (hNm.symm.trans h2)
    subst e
    exact e1
theorem gx_newq (hx : p.tables.exec = Jvm.exec) (hb : c.code = cc) {own : String} {index n : Nat} (hown : s.vm.findClass own = some m.cls) (hcl : (Jvm.Cond.classLink own index RX0).before args s = true) (hover : (Jvm.Cond.arrayOver (.object RX0)).before args s = true) (hK : va_K D vwCl (gx_ty cA) s) (hr : gx_hr D bs bq cA h H) (hS : va_S (fun q => bs ≤ q) s.heap H locs)
    (hn : n ≤ 65536) (hcells : cells + 1 ≤ R.cells) (hslots : slots + n ≤ R.slots) (hdg : decode cc pc = .ok (.anewarray index, 3))
    (kk : ∀ (H1 : Heap), gx_hr D bs bq cA (h ++ [.inr (.inl (n, fun _ => none))]) H1 → va_S (fun q => bs ≤ q) s.heap H1 locs → W p l e R s m args below meth c H1 locs (cells + 1) (slots + n) F (F0 m (pc + 3) ls (.ref (bs + h.length) :: rest))) :
    W p l e R s m args below meth c H locs cells slots F (F0 m pc ls (.int (nI n) :: rest)) := by
  have hlt : n < 2 ^ 31 := by omega
  have hcp : (nI n).toNatClampNeg = n := nI_clamp hlt
  refine W.anew hx hb hown hcl hover rfl hdg rfl (nI_pos hlt) (by rw [hcp]; omega) hcells (by rw [hcp]; exact hslots) fun cA' kA comp f1 f2 f3 f4 => ?_
  rw [hcp]
  obtain ⟨-, -, -, -, -, k4⟩ := (hK.2 2 _ rfl).2
  have e : cA' = cA 2 := Option.some.inj (f1.symm.trans k4)
  subst e
  generalize hH1 : H.push ({ cls := cA 2, slots := Array.replicate n .null, vm := .none } : Cell) = H1
  have z1 : H1.size = H.size + 1 := by rw [← hH1, Array.size_push]
  have o1 : ∀ q : Nat, q < H.size → H1[q]? = H[q]? := fun q hq => by rw [← hH1, Array.getElem?_push, if_neg (Nat.ne_of_lt hq)]
  have e1 : H1[bs + h.length]? = some (arrV (cA 2) n (fun _ => .null)) := by rw [← hr.2, ← hH1, Array.getElem?_push_size, ← arrV_new]
  have k := kk H1 (gx_hr_push hr e1 z1 o1) (gx_S_push hS z1 o1)
  rw [hr.2]
  exact k
/-- behind a call -/
theorem gx_cal {Q' : gx_Q} {mc ms : Nat} {a : Array Value} {st0 : List Value} (hr : va_Run p l e R s m args below meth c H locs cells slots mc ms (F0 m pc ls st0) rest (gx_pst D bs bq cA Q' a) (fun q => bs ≤ q)) (hS : va_S (fun q => bs ≤ q) s.heap H locs)
    (kk : ∀ (r : Option Value) (h1 : gx_H) (H1 : Heap) (locs1 : List Loc), Q' r h1 → gx_hr D bs bq cA h1 H1 → va_S (fun q => bs ≤ q) s.heap H1 locs1 → W p l e R s m args below meth c H1 locs1 (cells + mc) (slots + ms) F (F0 m (pc + 3) ls ((r.map (gx_tr bs bq)).toList ++ rest))) :
    W p l e R s m args below meth c H locs cells slots F (F0 m pc ls st0) := by
  intro T hT X
  obtain ⟨v, st₀, t, T', L, h0, X', hL, e1, e2, ⟨⟨r, h1, hq, hv, hh⟩, hz, hk⟩, st⟩ := hr T hT X
  cases hv
  rw [h0] at hz hk
  obtain ⟨t2, a1, b1⟩ := kk r h1 T'.heap (locs ++ L) hq (by rw [e1]; exact hh) ⟨Nat.le_trans hS.1 (by rw [e1]; exact hz), fun q h1 h2 => by rw [e1, hk q (Nat.lt_of_lt_of_le h1 hS.1) h2]; exact hS.2.1 q h1 h2, fun q hq => by
      rcases List.mem_append.mp hq with h | h
      · exact hS.2.2 q h
      · exact hL q h⟩ T' rfl X'
  exact ⟨t2, st t2 a1, b1⟩
end GXR
end
section
/-! Soundness: what our machine brings to its end, the kit's machine does. -/
theorem gx_sw_at {x : Int32} {k : Nat → Prop} : ∀ {ts : List Nat} {j0 j t : Nat}, gx_sw x k ts j0 → ts[j]? = some t → x = nI (j0 + j) → k t
  | [], _, j, _, _, h, _ => by simp at h
  | t0 :: ts, j0, j, t, hs, h, hx => by
    unfold gx_sw at hs
    cases j with
    | zero =>
      rw [List.getElem?_cons_zero] at h
      cases h
      exact hs.1 (by rw [hx, Nat.add_zero])
    | succ j =>
      rw [List.getElem?_cons_succ] at h
      exact gx_sw_at hs.2 h (by rw [hx]; congr 1; omega)
theorem gx_lko (x : Int) (d : Int) : ∀ ps : List (Int × Int), (∃ (j : Nat) (o : Int × Int), ps[j]? = some o ∧ o.1 = x ∧ Op.lookupswitch.offset ps d x = o.2) ∨ ((∀ o ∈ ps, o.1 ≠ x) ∧ Op.lookupswitch.offset ps d x = d)
  | [] => Or.inr ⟨fun o h => absurd h List.not_mem_nil, rfl⟩
  | (a, o) :: r => by
    rw [Op.lookupswitch.offset_cons]
    by_cases h : a = x
    · exact Or.inl ⟨0, (a, o), rfl, h, by rw [if_pos h]⟩
    · rw [if_neg h]
      rcases gx_lko x d r with ⟨j, q, h1, h2, h3⟩ | ⟨h1, h2⟩
      · exact Or.inl ⟨j + 1, q, by rw [List.getElem?_cons_succ]; exact h1, h2, h3⟩
      · refine Or.inr ⟨fun q hq => ?_, h2⟩
        rcases List.mem_cons.mp hq with rfl | hq
        · exact fun e => h e
        · exact h1 q hq
theorem gx_of_at {cd : List gx_T} {pc : Nat} {offs : Array Int} {ts : List Nat} (h : gx_of cd pc offs ts = true) {j : Nat} (hj : j < ts.length) : ∃ o t, offs[j]? = some o ∧ ts[j]? = some t ∧ (pc : Int) + o = (gx_pc cd t : Int) := by
  have h1 := List.all_eq_true.mp h j (List.mem_range.mpr hj)
  split at h1
  · rename_i o t e1 e2
    exact ⟨o, t, e1, e2, of_decide_eq_true h1⟩
  · cases h1
theorem gx_lk_at {cd : List gx_T} {pc b : Nat} {ps : Array (Int × Int)} {ts : List Nat} (h : gx_lk cd pc b ps ts = true) {j : Nat} (hj : j < ts.length) : ∃ o t, ps[j]? = some o ∧ ts[j]? = some t ∧ o.1 = ((b + j : Nat) : Int) ∧ (pc : Int) + o.2 = (gx_pc cd t : Int) := by
  have h1 := List.all_eq_true.mp h j (List.mem_range.mpr hj)
  split at h1
  · rename_i o t e1 e2
    rw [Bool.and_eq_true] at h1
    exact ⟨o, t, e1, e2, of_decide_eq_true h1.1, of_decide_eq_true h1.2⟩
  · cases h1
theorem gx_cat_tr {bs bq : Nat} (vs : List Value) : ((vs.map (gx_tr bs bq)).map fun v => v.category).sum = gx_cat vs := by
  unfold gx_cat
  rw [List.map_map]
  congr 1
  exact List.map_congr_left fun v _ => gx_tr_cat bs bq v
theorem gx_nIx {x : Int32} {n : Nat} (h : x.toInt = (n : Int)) (hn : n < 2147483648) : x = nI n := Int32.toInt_inj.mp (by rw [nI_toInt (show n < 2 ^ 31 from hn)]; exact h)
theorem gx_b_0 {x y : Prop} : gx_b 0 x y = x := rfl
theorem gx_b_s {x y : Prop} {n : Nat} : gx_b (n + 1) x y = y := rfl
/-- a return's instruction, and what it gives -/
def gx_rt (bc : ByteArray) (ret : Option FieldType) (pc : Nat) (v : Option Value) : Prop :=
  (∃ x : Int32, v = some (.int x) ∧ decode bc pc = .ok (.ireturn, 1) ∧ (ret = some .int ∨ (ret = some .boolean ∧ (x = nI 0 ∨ x = nI 1)))) ∨ (v = none ∧ decode bc pc = .ok (.return_, 1) ∧ ret = none) ∨
  (∃ w : Value, v = some w ∧ (w = .null ∨ ∃ a, w = .ref a) ∧ decode bc pc = .ok (.areturn, 1) ∧ ∃ rt, ret = some rt ∧ ((∃ n, rt = .object n) ∨ ∃ t, rt = .array t))
theorem gx_call_args {LL : Nat} {xs : Nat → Int32} {d z mc ms : Nat} {av : List Value} {h : gx_H} {Q : gx_Q} {e : gx_M} (he : gx_mt[z]? = some e) (h1 : gx_call LL xs d z mc ms av h Q) : (∀ v ∈ av, v.category = 1) ∧ av.length = e.2.2.2.2.1 := by
  cases d with
  | zero => exact h1.elim
  | succ d =>
    unfold gx_call at h1
    rw [he] at h1
    obtain ⟨y, bc, n, ret, na, kd, cd, ws⟩ := e
    exact ⟨fun v hv => by simpa using List.all_eq_true.mp h1.1 v hv, h1.2.1⟩
/-- what every method of the list keeps -/
theorem gx_zfact {z : Nat} {y : MethodName} {bc : ByteArray} {nL : Nat} {ret : Option FieldType} {na kd : Nat} {cd : List gx_T} {ws : List Nat} (hz : gx_mt[z]? = some (y, bc, nL, ret, na, kd, cd, ws)) :
    Jvm.Cond.code y bc nL ret ∈ gx_tb ∧ Jvm.Cond.initialized y.cls ∈ gx_tb ∧ (y.cls ≠ "java/lang/invoke/MethodHandle" ∧ y.cls ≠ "java/lang/invoke/VarHandle") ∧ plainFor y = true ∧ nL ≤ 8 ∧ na ≤ nL ∧
    (kd = 0 → Jvm.Cond.static y ∈ gx_tb ∧ ∀ sig, parseMethodDescriptor y.desc = some sig → na = sig.parameters.length) ∧ (kd ≠ 0 → Jvm.Cond.instanceMethod y ∈ gx_tb ∧ 0 < na ∧ ∀ sig, parseMethodDescriptor y.desc = some sig → na - 1 = sig.parameters.length) ∧ ∀ i, gx_ok y.cls y.name bc ret nL cd i = true := by
  have h := zk_all _ (List.mem_of_getElem? hz)
  unfold gx_zok at h
  simp only [Bool.and_eq_true, decide_eq_true_eq] at h
  obtain ⟨⟨⟨⟨⟨⟨⟨⟨h1, h2⟩, h3⟩, h4⟩, h5⟩, h6⟩, h7⟩, h8⟩, h9⟩ := h
  refine ⟨gx_wd_in h1, gx_wd_in h2, ⟨h3, h4⟩, h5, h6, h7, fun hk => ?_, fun hk => ?_, fun i => ?_⟩
  · subst hk
    simp only [Bool.and_eq_true, decide_eq_true_eq] at h8
    exact ⟨gx_wd_in h8.1, fun sig hs => by have := h8.2; rw [hs] at this; exact (Option.some.inj this).symm⟩
  · obtain ⟨k, rfl⟩ := Nat.exists_eq_succ_of_ne_zero hk
    simp only [Bool.and_eq_true, decide_eq_true_eq] at h8
    exact ⟨gx_wd_in h8.1.1, h8.1.2, fun sig hs => by have := h8.2; rw [hs] at this; exact (Option.some.inj this).symm⟩
  · by_cases hi : i < cd.length
    · exact List.all_eq_true.mp h9 i (List.mem_range.mpr hi)
    · unfold gx_ok
      rw [List.getElem?_eq_none (Nat.not_lt.mp hi)]
theorem gx_pay {args : Array Value} {s : State} (hts : ∀ w ∈ gx_tb, w.before args s = true) {y : MethodName} {bc : ByteArray} {nL : Nat} {ret : Option FieldType} (hc : Jvm.Cond.code y bc nL ret ∈ gx_tb) : ∀ w ∈ gx_wy y bc nL ret, ∀ (a' : Array Value) (U : State), s.WarmedH U.vm → w.before a' U = true :=
  pay_in hts fun w hw => (List.mem_cons.mp hw).elim (fun e => by subst e; exact gx_good _ hc) (fun h => gx_good w h)
/-- in(long, long, long) over the machine -/
def gx_met_in (l : Launch) : Prop := ∀ x y z : Int64, Met l yX3_in (gx_wy yX3_in cX3_in 6 (some .boolean)) rm0 (va_Pc [.long x, .long y, .long z] (fun _ => True)) (QcRead (if y ≤ x ∧ x ≤ z then nI 1 else nI 0)) 0 0 (fun _ => False)
section GXB
variable {p : Program} {l : Launch} {e : Env} {R : Room} {s : State} {m : MethodId} {args : Array Value} {below : List Frame} {meth : Method} {c : Code}
set_option maxHeartbeats 4000000 in
theorem gx_body {F : State → Prop} {D : va_G} {bs bq : Nat} {cA : Nat → ClassId} {LL : Nat} {xs : Nat → Int32} {d : Nat} {own mn : String} {bc : ByteArray} {ret : Option FieldType} {nL : Nat} {cd : List gx_T} {Q : gx_Q} {MC MS : Nat}
    (hx : p.tables.exec = Jvm.exec) (hb : c.code = bc) (hml : c.maxLocals = nL) (hown : s.vm.findClass own = some m.cls) (hts : ∀ w ∈ gx_tb, w.before args s = true) (hmn : mn = "<init>" → meth.name = mn) (hcx : gx_cx D bs bq cA LL xs s) (hok : ∀ i, gx_ok own mn bc ret nL cd i = true)
    (hRf : d + 1 ≤ R.frames) (hRl : 27 * (d + 1) ≤ R.locals) (hRC : R.cells = MC) (hRS : R.slots = MS) (hmi : gx_met_in l)
    (hIH : ∀ (z mc ms : Nat) (av : List Value) (h : gx_H) (Q' : gx_Q) (e0 : gx_M), gx_mt[z]? = some e0 → gx_call LL xs d z mc ms av h Q' → gx_met l D bs bq cA LL xs d e0 mc ms av h Q')
    (hret : ∀ (v : Option Value) (h1 : gx_H) (H : Heap) (locs : List Loc) (cells slots pc : Nat) (ls : Array Slot), Q v h1 → gx_hr D bs bq cA h1 H → va_S (fun q => bs ≤ q) s.heap H locs → cells ≤ MC → slots ≤ MS → gx_rt bc ret pc v →
      W p l e R s m args below meth c H locs cells slots F (F0 m pc ls (v.map (gx_tr bs bq)).toList))
    {i : Nat} {L : gx_L} {st : List Value} {h : gx_H} {cb sb : Nat} (hE : gx_E LL xs (gx_call LL xs d) cd Q i L st h cb sb) :
    ∀ (H : Heap) (locs : List Loc) (ls : Array Slot) (cells slots : Nat), gx_hr D bs bq cA h H → va_S (fun q => bs ≤ q) s.heap H locs → gx_lh bs bq nL ls L → cells + cb = MC → slots + sb = MS →
      W p l e R s m args below meth c H locs cells slots F (F0 m (gx_pc cd i) ls (st.map (gx_tr bs bq))) := by
  obtain ⟨hK, hX, hbq, hbs, hAO, hNL⟩ := hcx
  have hA : ∀ q : Nat, s.heap.size ≤ q → bs ≤ q := fun q hq => Nat.le_trans hbs hq
  refine hE (fun i L st h cb sb => ∀ (H : Heap) (locs : List Loc) (ls : Array Slot) (cells slots : Nat), gx_hr D bs bq cA h H → va_S (fun q => bs ≤ q) s.heap H locs → gx_lh bs bq nL ls L → cells + cb = MC → slots + sb = MS →
      W p l e R s m args below meth c H locs cells slots F (F0 m (gx_pc cd i) ls (st.map (gx_tr bs bq)))) ?_
  clear hE
  intro k hk i L st h cb sb h1 H locs ls cells slots hr hS hL hc0 hs0
  have hoki := hok i
  unfold gx_1 at h1
  unfold gx_ok at hoki
  cases hcd : cd[i]? with
  | none => rw [hcd] at h1; exact h1.elim
  | some en =>
  obtain ⟨pc, ins, a, b, c0, ts⟩ := en
  have hpc : gx_pc cd i = pc := by unfold gx_pc; rw [hcd]
  rw [hcd] at h1 hoki
  rw [hpc]
  clear hpc hok
  -- one instruction on, with the stack of a continuation
  have go : ∀ {i' : Nat} {L' : gx_L} {st' : List Value} {h' : gx_H} {cb' sb' : Nat}, k i' L' st' h' cb' sb' → ∀ {H' : Heap} {locs' : List Loc} {ls' : Array Slot} {cells' slots' pc' : Nat}, gx_pc cd i' = pc' → gx_hr D bs bq cA h' H' → va_S (fun q => bs ≤ q) s.heap H' locs' → gx_lh bs bq nL ls' L' → cells' + cb' = MC → slots' + sb' = MS →
      W p l e R s m args below meth c H' locs' cells' slots' F (F0 m pc' ls' (st'.map (gx_tr bs bq))) := by
    intro i' L' st' h' cb' sb' hk1 H' locs' ls' cells' slots' pc' e1 a1 a2 a3 a4 a5
    rw [← e1]
    exact hk _ _ _ _ _ _ hk1 H' locs' ls' cells' slots' a1 a2 a3 a4 a5
  clear hk
  cases ins with
  | iconst v =>
    try dsimp only at h1
    simp only [gx_st, Bool.and_eq_true, decide_eq_true_eq] at hoki
    obtain ⟨⟨h2, h3⟩, h4⟩ := hoki
    cases b with
    | zero => exact lv_iconst hx hb h2 (of_decide_eq_true h4) (go h1 h3 hr hS hL hc0 hs0)
    | succ b => exact lv_iconst hx hb h2 (of_decide_eq_true h4) (go h1 h3 hr hS hL hc0 hs0)
  | bipush v =>
    try dsimp only at h1
    simp only [gx_st, Bool.and_eq_true, decide_eq_true_eq] at hoki
    obtain ⟨⟨h2, h3⟩, h4⟩ := hoki
    cases b with
    | zero => exact lv_bipush hx hb h2 (of_decide_eq_true h4) (go h1 h3 hr hS hL hc0 hs0)
    | succ b => exact lv_bipush hx hb h2 (of_decide_eq_true h4) (go h1 h3 hr hS hL hc0 hs0)
  | sipush v =>
    try dsimp only at h1
    simp only [gx_st, Bool.and_eq_true, decide_eq_true_eq] at hoki
    obtain ⟨⟨h2, h3⟩, h4⟩ := hoki
    cases b with
    | zero => exact lv_sipush hx hb h2 (of_decide_eq_true h4) (go h1 h3 hr hS hL hc0 hs0)
    | succ b => exact lv_sipush hx hb h2 (of_decide_eq_true h4) (go h1 h3 hr hS hL hc0 hs0)
  | aconst_null =>
    try dsimp only at h1
    simp only [gx_st, Bool.and_eq_true, decide_eq_true_eq] at hoki
    exact lv_null hx hb hoki.1 (go h1 hoki.2 hr hS hL hc0 hs0)
  | lconst v =>
    try dsimp only at h1
    simp only [gx_st, Bool.and_eq_true, decide_eq_true_eq] at hoki
    obtain ⟨⟨h2, h3⟩, h4⟩ := hoki
    exact lv_lconst hx hb h2 h4 (go h1 h3 hr hS hL hc0 hs0)
  | ldc2_w ix =>
    try dsimp only at h1
    simp only [gx_st, Bool.and_eq_true, decide_eq_true_eq] at hoki
    obtain ⟨⟨h2, h3⟩, h4⟩ := hoki
    exact lv_ldc2 hx hb hown (hts _ (gx_wd_in h4)) h2 (go h1 h3 hr hS hL hc0 hs0)
  | iload v =>
    try dsimp only at h1
    simp only [gx_st, Bool.and_eq_true, decide_eq_true_eq] at hoki
    obtain ⟨⟨h2, h3⟩, h4⟩ := hoki
    subst h4
    unfold gx_li at h1
    split at h1
    · rename_i x hx2
      exact lv_iload hx hb h2 (gx_lh_get hL hx2) (go h1 h3 hr hS hL hc0 hs0)
    · exact h1.elim
  | iload_n v =>
    try dsimp only at h1
    simp only [gx_st, Bool.and_eq_true, decide_eq_true_eq] at hoki
    obtain ⟨⟨h2, h3⟩, h4⟩ := hoki
    unfold gx_li at h1
    split at h1
    · rename_i x hx2
      exact lv_iload_n hx hb h2 h4 (gx_lh_get hL hx2) (go h1 h3 hr hS hL hc0 hs0)
    · exact h1.elim
  | aload v =>
    try dsimp only at h1
    simp only [gx_st, Bool.and_eq_true, decide_eq_true_eq] at hoki
    obtain ⟨⟨h2, h3⟩, h4⟩ := hoki
    subst h4
    unfold gx_la at h1
    split at h1
    · rename_i q hx2
      exact lv_aload hx hb h2 (gx_lh_get hL hx2) (go h1 h3 hr hS hL hc0 hs0)
    · rename_i hx2
      exact lv_aloadN hx hb h2 (gx_lh_get hL hx2) (go h1 h3 hr hS hL hc0 hs0)
    · rename_i q hx2
      exact lv_aload hx hb h2 (gx_lh_get hL hx2) (go h1 h3 hr hS hL hc0 hs0)
    · exact h1.elim
  | aload_n v =>
    try dsimp only at h1
    simp only [gx_st, Bool.and_eq_true, decide_eq_true_eq] at hoki
    obtain ⟨⟨h2, h3⟩, h4⟩ := hoki
    unfold gx_la at h1
    split at h1
    · rename_i q hx2
      exact lv_aload_n hx hb h2 h4 (gx_lh_get hL hx2) (go h1 h3 hr hS hL hc0 hs0)
    · rename_i hx2
      exact lv_aload_nN hx hb h2 h4 (gx_lh_get hL hx2) (go h1 h3 hr hS hL hc0 hs0)
    · rename_i q hx2
      exact lv_aload_n hx hb h2 h4 (gx_lh_get hL hx2) (go h1 h3 hr hS hL hc0 hs0)
    · exact h1.elim
  | istore v =>
    try dsimp only at h1
    simp only [gx_st, Bool.and_eq_true, decide_eq_true_eq] at hoki
    obtain ⟨⟨⟨h2, h3⟩, h4⟩, h5⟩ := hoki
    subst h4
    unfold gx_I1 at h1
    split at h1
    · rename_i x r
      exact lv_istore hx hb h2 hL.1 h5 rfl (fun ls' hl' => go h1 h3 hr hS (gx_lh_set hL rfl hl') hc0 hs0)
    · exact h1.elim
  | istore_n v =>
    try dsimp only at h1
    simp only [gx_st, Bool.and_eq_true, decide_eq_true_eq] at hoki
    obtain ⟨⟨⟨h2, h3⟩, h4⟩, h5⟩ := hoki
    unfold gx_I1 at h1
    split at h1
    · rename_i x r
      exact lv_istore_n hx hb h2 h4 hL.1 h5 rfl (fun ls' hl' => go h1 h3 hr hS (gx_lh_set hL rfl hl') hc0 hs0)
    · exact h1.elim
  | astore v =>
    try dsimp only at h1
    simp only [gx_st, Bool.and_eq_true, decide_eq_true_eq] at hoki
    obtain ⟨⟨⟨h2, h3⟩, h4⟩, h5⟩ := hoki
    subst h4
    unfold gx_R1 at h1
    split at h1
    · exact lv_astore hx hb h2 hL.1 h5 rfl (fun ls' hl' => go h1 h3 hr hS (gx_lh_set hL rfl hl') hc0 hs0)
    · exact lv_astoreN hx hb h2 hL.1 h5 rfl (fun ls' hl' => go h1 h3 hr hS (gx_lh_set hL rfl hl') hc0 hs0)
    · exact lv_astore hx hb h2 hL.1 h5 rfl (fun ls' hl' => go h1 h3 hr hS (gx_lh_set (v := .retAddr _) hL rfl hl') hc0 hs0)
    · exact h1.elim
  | astore_n v =>
    try dsimp only at h1
    simp only [gx_st, Bool.and_eq_true, decide_eq_true_eq] at hoki
    obtain ⟨⟨⟨h2, h3⟩, h4⟩, h5⟩ := hoki
    unfold gx_R1 at h1
    split at h1
    · exact lv_astore_n hx hb h2 h4 hL.1 h5 rfl (fun ls' hl' => go h1 h3 hr hS (gx_lh_set hL rfl hl') hc0 hs0)
    · exact lv_astore_nN hx hb h2 h4 hL.1 h5 rfl (fun ls' hl' => go h1 h3 hr hS (gx_lh_set hL rfl hl') hc0 hs0)
    · exact lv_astore_n hx hb h2 h4 hL.1 h5 rfl (fun ls' hl' => go h1 h3 hr hS (gx_lh_set (v := .retAddr _) hL rfl hl') hc0 hs0)
    · exact h1.elim
  | iinc v n =>
    try dsimp only at h1
    simp only [gx_st, Bool.and_eq_true, decide_eq_true_eq] at hoki
    obtain ⟨⟨⟨⟨h2, h3⟩, h4⟩, h5⟩, h6⟩ := hoki
    subst h4
    unfold gx_li at h1
    split at h1
    · rename_i x hx2
      obtain ⟨kk, hkk⟩ := List.getElem?_of_mem (gx_lv_mem (bs := bs) (bq := bq) (q := (v, .int x)).mpr ⟨.int x, hx2, rfl⟩)
      cases c0 with
      | zero => exact lv_iinc hx hb h2 hL.1 hkk (by rw [of_decide_eq_true h6]) h5 rfl (fun ls' hl' => go h1 h3 hr hS (gx_lh_set hL rfl hl') hc0 hs0)
      | succ c0 => exact lv_iinc (v := x - nI b) hx hb h2 hL.1 hkk (by rw [of_decide_eq_true h6, Int32.sub_eq_add_neg]) h5 rfl (fun ls' hl' => go h1 h3 hr hS (gx_lh_set hL rfl hl') hc0 hs0)
    · exact h1.elim
  | iadd =>
    try dsimp only at h1
    simp only [gx_st, Bool.and_eq_true, decide_eq_true_eq] at hoki
    unfold gx_I2 at h1
    split at h1
    · exact lv_iadd hx hb hoki.1 (go h1 hoki.2 hr hS hL hc0 hs0)
    · exact h1.elim
  | isub =>
    try dsimp only at h1
    simp only [gx_st, Bool.and_eq_true, decide_eq_true_eq] at hoki
    unfold gx_I2 at h1
    split at h1
    · exact lv_isub hx hb hoki.1 (go h1 hoki.2 hr hS hL hc0 hs0)
    · exact h1.elim
  | imul =>
    try dsimp only at h1
    simp only [gx_st, Bool.and_eq_true, decide_eq_true_eq] at hoki
    unfold gx_I2 at h1
    split at h1
    · exact lv_imul hx hb hoki.1 (go h1 hoki.2 hr hS hL hc0 hs0)
    · exact h1.elim
  | ishl =>
    try dsimp only at h1
    simp only [gx_st, Bool.and_eq_true, decide_eq_true_eq] at hoki
    unfold gx_I2 at h1
    split at h1
    · exact lv_ishl hx hb hoki.1 (go h1 hoki.2 hr hS hL hc0 hs0)
    · exact h1.elim
  | ishr =>
    try dsimp only at h1
    simp only [gx_st, Bool.and_eq_true, decide_eq_true_eq] at hoki
    unfold gx_I2 at h1
    split at h1
    · exact lv_ishr hx hb hoki.1 (go h1 hoki.2 hr hS hL hc0 hs0)
    · exact h1.elim
  | iand =>
    try dsimp only at h1
    simp only [gx_st, Bool.and_eq_true, decide_eq_true_eq] at hoki
    unfold gx_I2 at h1
    split at h1
    · exact lv_iand hx hb hoki.1 (go h1 hoki.2 hr hS hL hc0 hs0)
    · exact h1.elim
  | ior =>
    try dsimp only at h1
    simp only [gx_st, Bool.and_eq_true, decide_eq_true_eq] at hoki
    unfold gx_I2 at h1
    split at h1
    · exact lv_ior hx hb hoki.1 (go h1 hoki.2 hr hS hL hc0 hs0)
    · exact h1.elim
  | ixor =>
    try dsimp only at h1
    simp only [gx_st, Bool.and_eq_true, decide_eq_true_eq] at hoki
    unfold gx_I2 at h1
    split at h1
    · exact lv_ixor hx hb hoki.1 (go h1 hoki.2 hr hS hL hc0 hs0)
    · exact h1.elim
  | idiv =>
    try dsimp only at h1
    simp only [gx_st, Bool.and_eq_true, decide_eq_true_eq] at hoki
    unfold gx_I2 at h1
    split at h1
    · exact lv_idiv hx hb hoki.1 h1.1 (go h1.2 hoki.2 hr hS hL hc0 hs0)
    · exact h1.elim
  | irem =>
    try dsimp only at h1
    simp only [gx_st, Bool.and_eq_true, decide_eq_true_eq] at hoki
    unfold gx_I2 at h1
    split at h1
    · exact lv_irem hx hb hoki.1 h1.1 (go h1.2 hoki.2 hr hS hL hc0 hs0)
    · exact h1.elim
  | ineg =>
    try dsimp only at h1
    simp only [gx_st, Bool.and_eq_true, decide_eq_true_eq] at hoki
    unfold gx_I1 at h1
    split at h1
    · exact lv_ineg hx hb hoki.1 (go h1 hoki.2 hr hS hL hc0 hs0)
    · exact h1.elim
  | i2b =>
    try dsimp only at h1
    simp only [gx_st, Bool.and_eq_true, decide_eq_true_eq] at hoki
    unfold gx_I1 at h1
    split at h1
    · exact lv_i2b hx hb hoki.1 rfl (go h1 hoki.2 hr hS hL hc0 hs0)
    · exact h1.elim
  | i2l =>
    try dsimp only at h1
    simp only [gx_st, Bool.and_eq_true, decide_eq_true_eq] at hoki
    unfold gx_I1 at h1
    split at h1
    · exact lv_i2l hx hb hoki.1 rfl (go h1 hoki.2 hr hS hL hc0 hs0)
    · exact h1.elim
  | dup =>
    try dsimp only at h1
    simp only [gx_st, Bool.and_eq_true, decide_eq_true_eq] at hoki
    split at h1
    · exact lv_dup hx hb hoki.1 rfl (go h1 hoki.2 hr hS hL hc0 hs0)
    · exact lv_dup hx hb hoki.1 rfl (go h1 hoki.2 hr hS hL hc0 hs0)
    · exact h1.elim
  | dup2 =>
    try dsimp only at h1
    simp only [gx_st, Bool.and_eq_true, decide_eq_true_eq] at hoki
    split at h1
    · exact lv_dup2_11 hx hb hoki.1 rfl rfl (go h1 hoki.2 hr hS hL hc0 hs0)
    · exact h1.elim
  | goto off =>
    try dsimp only at h1
    simp only [gx_st, gx_jp, Bool.and_eq_true, decide_eq_true_eq] at hoki
    exact lv_goto hx hb hoki.1 hoki.2 (go h1 rfl hr hS hL hc0 hs0)
  | if_icmp cnd off =>
    try dsimp only at h1
    simp only [gx_st, gx_jp, Bool.and_eq_true, decide_eq_true_eq] at hoki
    obtain ⟨⟨h2, h3⟩, h4⟩ := hoki
    unfold gx_I2 at h1
    split at h1
    · cases cnd with
      | eq => exact lv_icmp_eq hx hb h2 h4 (fun z => go (h1.1 z) rfl hr hS hL hc0 hs0) (fun z => go (h1.2 z) h3 hr hS hL hc0 hs0)
      | ne => exact lv_icmp_ne hx hb h2 h4 (fun z => go (h1.1 z) rfl hr hS hL hc0 hs0) (fun z => go (h1.2 z) h3 hr hS hL hc0 hs0)
      | lt => exact lv_icmp_lt hx hb h2 h4 (fun z => go (h1.1 z) rfl hr hS hL hc0 hs0) (fun z => go (h1.2 z) h3 hr hS hL hc0 hs0)
      | ge => exact lv_icmp_ge hx hb h2 h4 (fun z => go (h1.1 z) rfl hr hS hL hc0 hs0) (fun z => go (h1.2 z) h3 hr hS hL hc0 hs0)
      | gt => exact lv_icmp_gt hx hb h2 h4 (fun z => go (h1.1 z) rfl hr hS hL hc0 hs0) (fun z => go (h1.2 z) h3 hr hS hL hc0 hs0)
      | le => exact lv_icmp_le hx hb h2 h4 (fun z => go (h1.1 z) rfl hr hS hL hc0 hs0) (fun z => go (h1.2 z) h3 hr hS hL hc0 hs0)
    · exact h1.elim
  | ifCond cnd off =>
    try dsimp only at h1
    simp only [gx_st, gx_jp, Bool.and_eq_true, decide_eq_true_eq] at hoki
    obtain ⟨⟨h2, h3⟩, h4⟩ := hoki
    unfold gx_I1 at h1
    split at h1
    · cases cnd with
      | eq => exact lv_if_eq hx hb h2 h4 (fun z => go (h1.1 z) rfl hr hS hL hc0 hs0) (fun z => go (h1.2 z) h3 hr hS hL hc0 hs0)
      | ne => exact lv_if_ne hx hb h2 h4 (fun z => go (h1.1 z) rfl hr hS hL hc0 hs0) (fun z => go (h1.2 z) h3 hr hS hL hc0 hs0)
      | lt => exact lv_if_lt hx hb h2 h4 (fun z => go (h1.1 z) rfl hr hS hL hc0 hs0) (fun z => go (h1.2 z) h3 hr hS hL hc0 hs0)
      | ge => exact lv_if_ge hx hb h2 h4 (fun z => go (h1.1 z) rfl hr hS hL hc0 hs0) (fun z => go (h1.2 z) h3 hr hS hL hc0 hs0)
      | gt => exact lv_if_gt hx hb h2 h4 (fun z => go (h1.1 z) rfl hr hS hL hc0 hs0) (fun z => go (h1.2 z) h3 hr hS hL hc0 hs0)
      | le => exact lv_if_le hx hb h2 h4 (fun z => go (h1.1 z) rfl hr hS hL hc0 hs0) (fun z => go (h1.2 z) h3 hr hS hL hc0 hs0)
    · exact h1.elim
  | ifnull off =>
    try dsimp only at h1
    simp only [gx_st, gx_jp, Bool.and_eq_true, decide_eq_true_eq] at hoki
    obtain ⟨⟨h2, h3⟩, h4⟩ := hoki
    split at h1
    · exact lv_ifnull hx hb h2 (go h1 h3 hr hS hL hc0 hs0)
    · exact lv_ifnullN hx hb h2 h4 (go h1 rfl hr hS hL hc0 hs0)
    · exact h1.elim
  | ifnonnull off =>
    try dsimp only at h1
    simp only [gx_st, gx_jp, Bool.and_eq_true, decide_eq_true_eq] at hoki
    obtain ⟨⟨h2, h3⟩, h4⟩ := hoki
    split at h1
    · exact lv_ifnonnull hx hb h2 h4 (go h1 rfl hr hS hL hc0 hs0)
    · exact lv_ifnonnullN hx hb h2 (go h1 h3 hr hS hL hc0 hs0)
    · exact h1.elim
  | tableswitch df lo hi offs =>
    try dsimp only at h1
    simp only [gx_jp, Bool.and_eq_true, decide_eq_true_eq] at hoki
    obtain ⟨⟨⟨⟨⟨h2, h3⟩, h4⟩, h5⟩, h6⟩, h7⟩ := hoki
    unfold gx_I1 at h1
    split at h1
    · rename_i x r
      by_cases hout : x.toInt < lo ∨ hi < x.toInt
      · refine lv_tableOut hx hb h2 hout h3 (go (h1.1 fun j hj e1 => ?_) rfl hr hS hL hc0 hs0)
        rw [e1, nI_toInt (by omega)] at hout
        omega
      · have hlo : ¬ x.toInt < lo := fun z => hout (Or.inl z)
        have hhi : ¬ hi < x.toInt := fun z => hout (Or.inr z)
        obtain ⟨j, hj⟩ : ∃ j : Nat, x.toInt - lo = (j : Int) := ⟨(x.toInt - lo).toNat, by omega⟩
        have hjl : j < ts.length := by omega
        obtain ⟨o, t, e1, e2, e3⟩ := gx_of_at h6 hjl
        have hxe : x = nI (b + j) := gx_nIx (by omega) (by omega)
        exact lv_tableIn hx hb h2 hlo hhi (by rw [hj]; exact e1) e3 (go (show k t L r h cb sb from gx_sw_at (k := fun t => k t L r h cb sb) h1.2 e2 hxe) rfl hr hS hL hc0 hs0)
    · exact h1.elim
  | lookupswitch df ps =>
    try dsimp only at h1
    simp only [gx_jp, Bool.and_eq_true, decide_eq_true_eq] at hoki
    obtain ⟨⟨⟨⟨⟨h2, h3⟩, h4⟩, h5⟩, h7⟩, h8⟩ := hoki
    unfold gx_I1 at h1
    split at h1
    · rename_i x r
      rcases gx_lko x.toInt df ps.toList with ⟨j, o, e1, e2, e3⟩ | ⟨e1, e2⟩
      · have hjl : j < ts.length := by
          have := (List.getElem?_eq_some_iff.mp e1).1
          rw [Array.length_toList] at this
          omega
        obtain ⟨o', t, f1, f2, f3, f4⟩ := gx_lk_at h5 hjl
        rw [Array.getElem?_toList] at e1
        cases e1.symm.trans f1
        exact lv_lookup hx hb h2 h8 e3 f4 (go (show k t L r h cb sb from gx_sw_at (k := fun t => k t L r h cb sb) h1.2 f2 (gx_nIx (by rw [← e2, f3]) (by omega))) rfl hr hS hL hc0 hs0)
      · refine lv_lookup hx hb h2 h8 e2 h3 (go (h1.1 fun j hj e3 => ?_) rfl hr hS hL hc0 hs0)
        obtain ⟨o', t, f1, f2, f3, f4⟩ := gx_lk_at h5 hj
        refine e1 o' (List.mem_of_getElem? (by rw [Array.getElem?_toList]; exact f1)) ?_
        rw [f3, e3, nI_toInt (by omega)]
    · exact h1.elim
  | getfield ix =>
    try dsimp only at h1
    simp only [gx_st, gx_fld, Bool.and_eq_true, decide_eq_true_eq] at hoki
    obtain ⟨⟨h2, h3⟩, h4⟩ := hoki
    split at h4
    case h_2 => cases h4
    rename_i C T N hcl
    simp only [Bool.and_eq_true, decide_eq_true_eq] at h4
    obtain ⟨⟨h5, h6⟩, h7⟩ := h4
    split at h1
    · rename_i q r
      unfold gx_ob at h1
      split at h1
      case h_2 => exact h1.elim
      rename_i c1 fs hq
      split at h1
      case h_2 => exact h1.elim
      rename_i hceq
      obtain rfl := Nat.eq_of_beq_eq_true hceq
      unfold gx_fd at h1
      split at h1
      case h_2 => exact h1.elim
      rename_i v hv
      exact va_get (D := D) (ci := c1) (v := gx_tr bs bq v) (C := C) (T := T) (N := N) hx hb hts (gx_inw _ _ _ _ hcl) hown hK hr.1 q (gx_ws_get hq) hcl b h5 (hts _ (gx_wd_in h6)) (fun _ h9 => h9) (by rw [List.getElem?_map, hv]; rfl) h2 (go h1 h3 hr hS hL hc0 hs0)
    · exact h1.elim
  | putfield ix =>
    try dsimp only at h1
    simp only [gx_st, gx_fld, Bool.and_eq_true, decide_eq_true_eq] at hoki
    obtain ⟨⟨h2, h3⟩, h4⟩ := hoki
    split at h4
    case h_2 => cases h4
    rename_i C T N hcl
    simp only [Bool.and_eq_true, decide_eq_true_eq] at h4
    obtain ⟨⟨h5, h6⟩, h7⟩ := h4
    unfold gx_pf at h7
    rw [Bool.and_eq_true] at h7
    obtain ⟨h7, h8⟩ := h7
    have hfin : (T b).2.2.2 = false ∨ ((T b).2.2.2 = true ∧ meth.name = "<init>" ∧ (T b).1 = own) := by
      split at h8
      · rename_i hf
        rw [Bool.and_eq_true] at h8
        exact Or.inr ⟨hf, (hmn (of_decide_eq_true h8.2)).trans (of_decide_eq_true h8.2), of_decide_eq_true h8.1⟩
      · rename_i hf
        exact Or.inl hf
    split at h1
    · rename_i v q r
      unfold gx_ob at h1
      split at h1
      case h_2 => exact h1.elim
      rename_i c1 fs hq
      split at h1
      case h_2 => exact h1.elim
      rename_i hceq
      obtain rfl := Nat.eq_of_beq_eq_true hceq
      unfold gx_fd at h1
      split at h1
      case h_2 => exact h1.elim
      rename_i v0 hv0
      have hl : b < fs.length := (List.getElem?_eq_some_iff.mp hv0).1
      unfold gx_kd at h1
      split at h1
      · rename_i x
        exact gx_put (v := .int x) hx hb hts hown hK hr hS hq hcl b h5 (hts _ (gx_wd_in h6)) hl (of_decide_eq_true h7) rfl rfl hfin h2 (fun H1 locs1 r1 s1 => go h1 h3 r1 s1 hL hc0 hs0)
      · rename_i w
        unfold gx_tk at h7
        split at h7
        case h_1 => rename_i hz9; cases hz9
        split at h7
        · rename_i nm hd
          exact gx_put (v := .ref w) hx hb hts hown hK hr hS hq hcl b h5 (hts _ (gx_wd_in h6)) hl hd rfl rfl hfin h2 (fun H1 locs1 r1 s1 => go h1 h3 r1 s1 hL hc0 hs0)
        · rename_i nm hd
          exact gx_put (v := .ref w) hx hb hts hown hK hr hS hq hcl b h5 (hts _ (gx_wd_in h6)) hl hd rfl rfl hfin h2 (fun H1 locs1 r1 s1 => go h1 h3 r1 s1 hL hc0 hs0)
        · cases h7
      · exact h1.elim
    · exact h1.elim
  | arraylength =>
    try dsimp only at h1
    simp only [gx_st, Bool.and_eq_true, decide_eq_true_eq] at hoki
    split at h1
    · rename_i q r
      unfold gx_ln at h1
      split at h1
      · rename_i n g hq
        exact va_alen hx hb hK hr.1 q 0 (gx_ws_get hq) rfl rfl hoki.1 (go h1 hoki.2 hr hS hL hc0 hs0)
      · rename_i n g hq
        exact va_alen hx hb hK hr.1 q 1 (gx_ws_get hq) rfl rfl hoki.1 (go h1 hoki.2 hr hS hL hc0 hs0)
      · rename_i n g hq
        exact va_alen hx hb hK hr.1 q 2 (gx_ws_get hq) rfl rfl hoki.1 (go h1 hoki.2 hr hS hL hc0 hs0)
      · exact h1.elim
    · exact va_slen hx hb hX (Nat.lt_of_lt_of_le hbq hbs) (Nat.not_le.mpr hbq) hS hoki.1 (go h1 hoki.2 hr hS hL hc0 hs0)
    · exact h1.elim
  | iaload =>
    try dsimp only at h1
    simp only [gx_st, Bool.and_eq_true, decide_eq_true_eq] at hoki
    split at h1
    · rename_i x q r
      unfold gx_a0 at h1
      split at h1
      case h_2 => exact h1.elim
      rename_i n g hq
      obtain ⟨j, rfl, hj, hn, h1⟩ := h1
      have hcl : (nI j).toNatClampNeg = j := nI_clamp (Nat.lt_trans hj hn)
      refine va_iald hx hb hK hr.1 q 0 (gx_ws_get hq) rfl (vp_in_nI hj hn) hoki.1 ?_
      rw [hcl]
      exact go h1 hoki.2 hr hS hL hc0 hs0
    · rename_i x q r
      obtain ⟨j, rfl, hj, hn, h1⟩ := h1
      have hcl : (nI j).toNatClampNeg = j := nI_clamp (Nat.lt_trans hj hn)
      refine va_sld hx hb hX (Nat.lt_of_lt_of_le hbq hbs) (Nat.not_le.mpr hbq) hS (vp_in_nI hj hn) hoki.1 ?_
      rw [hcl]
      exact go h1 hoki.2 hr hS hL hc0 hs0
    · exact h1.elim
  | baload =>
    try dsimp only at h1
    simp only [gx_st, Bool.and_eq_true, decide_eq_true_eq] at hoki
    split at h1
    · rename_i x q r
      unfold gx_a1 at h1
      split at h1
      case h_2 => exact h1.elim
      rename_i n g hq
      obtain ⟨j, rfl, hj, hn, h1⟩ := h1
      have hcl : (nI j).toNatClampNeg = j := nI_clamp (Nat.lt_trans hj hn)
      refine va_bald hx hb hK hr.1 q 1 (gx_ws_get hq) rfl (vp_in_nI hj hn) hoki.1 ?_
      rw [hcl]
      exact go h1 hoki.2 hr hS hL hc0 hs0
    · exact h1.elim
  | aaload =>
    try dsimp only at h1
    simp only [gx_st, Bool.and_eq_true, decide_eq_true_eq] at hoki
    split at h1
    · rename_i x q r
      unfold gx_a2 at h1
      split at h1
      case h_2 => exact h1.elim
      rename_i n g hq
      obtain ⟨j, rfl, hj, hn, h1⟩ := h1
      have hcl : (nI j).toNatClampNeg = j := nI_clamp (Nat.lt_trans hj hn)
      refine va_aldq hx hb hK hr.1 q 2 (gx_ws_get hq) rfl (vp_in_nI hj hn) hoki.1 ?_
      rw [hcl]
      have e9 : va_rf ((g j).map (fun q => bs + q)) = gx_tr bs bq (va_rf (g j)) := by cases g j <;> rfl
      rw [e9]
      exact go h1 hoki.2 hr hS hL hc0 hs0
    · exact h1.elim
  | iastore =>
    try dsimp only at h1
    simp only [gx_st, Bool.and_eq_true, decide_eq_true_eq] at hoki
    split at h1
    · rename_i v x q r
      unfold gx_a0 at h1
      split at h1
      case h_2 => exact h1.elim
      rename_i n g hq
      obtain ⟨j, rfl, hj, hn, h1⟩ := h1
      exact gx_ias hx hb hK hr hS hq hj hn hoki.1 (fun H1 locs1 r1 s1 => go h1 hoki.2 r1 s1 hL hc0 hs0)
    · exact h1.elim
  | bastore =>
    try dsimp only at h1
    simp only [gx_st, Bool.and_eq_true, decide_eq_true_eq] at hoki
    split at h1
    · rename_i v x q r
      unfold gx_a1 at h1
      split at h1
      case h_2 => exact h1.elim
      rename_i n g hq
      obtain ⟨j, rfl, hj, hn, h1⟩ := h1
      exact gx_bas hx hb hK hr hS hq hj hn hoki.1 (fun H1 locs1 r1 s1 => go h1 hoki.2 r1 s1 hL hc0 hs0)
    · exact h1.elim
  | aastore =>
    try dsimp only at h1
    simp only [gx_st, Bool.and_eq_true, decide_eq_true_eq] at hoki
    split at h1
    · rename_i w x q r
      unfold gx_a2 at h1
      split at h1
      case h_2 => exact h1.elim
      rename_i n g hq
      obtain ⟨j, rfl, hj, hn, ⟨fs, hw⟩, h1⟩ := h1
      exact gx_aas hx hb hK hr hS hq hw hj hn hoki.1 (fun H1 locs1 r1 s1 => go h1 hoki.2 r1 s1 hL hc0 hs0)
    · exact h1.elim
  | newarray at_ =>
    try dsimp only at h1
    simp only [gx_st, Bool.and_eq_true, decide_eq_true_eq] at hoki
    obtain ⟨⟨⟨h2, h3⟩, h4⟩, h5⟩ := hoki
    have ht : (a = 0 ∧ at_ = .int) ∨ (a = 1 ∧ at_ = .byte) := by
      split at h5
      · exact Or.inl ⟨rfl, of_decide_eq_true h5⟩
      · exact Or.inr ⟨rfl, of_decide_eq_true h5⟩
      · cases h5
    unfold gx_I1 at h1
    split at h1
    · rename_i x r
      obtain ⟨n, rfl, hn, hcb, hsb, h1⟩ := h1
      exact gx_newa hx hb (hts _ (gx_wd_in h4)) ht hK hr hS hn (by omega) (by omega) h2 (fun H1 r1 s1 => go h1 h3 r1 s1 hL (by omega) (by omega))
    · exact h1.elim
  | anewarray ix =>
    try dsimp only at h1
    simp only [gx_st, Bool.and_eq_true, decide_eq_true_eq] at hoki
    obtain ⟨⟨h2, h3⟩, h4⟩ := hoki
    unfold gx_I1 at h1
    split at h1
    · rename_i x r
      obtain ⟨n, rfl, hn, hcb, hsb, h1⟩ := h1
      exact gx_newq hx hb hown (hts _ (gx_wd_in h4)) (va_AO.use hAO) hK hr hS hn (by omega) (by omega) h2 (fun H1 r1 s1 => go h1 h3 r1 s1 hL (by omega) (by omega))
    · exact h1.elim
  | new ix =>
    try dsimp only at h1
    simp only [gx_st, Bool.and_eq_true, decide_eq_true_eq] at hoki
    obtain ⟨⟨⟨h2, h3⟩, h4⟩, h5⟩ := hoki
    split at h5
    case h_2 => cases h5
    rename_i C T N hcl
    simp only [Bool.and_eq_true] at h5
    obtain ⟨⟨h6, h7⟩, h8⟩ := h5
    obtain ⟨-, -, -, hN, -⟩ := gx_tys a C T N hcl
    rw [hN] at h1
    obtain ⟨hcb, hsb, h1⟩ := h1
    exact gx_new hx hb hts hown hK hr hS hcl (hts _ (gx_wd_in h6)) (hts _ (gx_wd_in h7)) (hts _ (gx_wd_in h8)) (by omega) (by omega) h2 (fun H1 r1 s1 => go h1 h3 r1 s1 hL (by omega) (by omega))
  | invokevirtual ix =>
    try dsimp only at h1
    simp only [gx_st, Bool.and_eq_true, decide_eq_true_eq] at hoki
    obtain ⟨⟨h2, h3⟩, h4⟩ := hoki
    unfold gx_zk at h4
    split at h4
    case h_2 => cases h4
    rename_i e0 hz
    obtain ⟨y, bcz, nLz, retz, na, kd, cdz, wsz⟩ := e0
    obtain ⟨zc, zi, zh, zp, zL, zn, z0, z1, -⟩ := gx_zfact hz
    simp only [Bool.and_eq_true, decide_eq_true_eq] at h4
    obtain ⟨⟨⟨⟨h5, h6⟩, h7⟩, h8⟩, h9⟩ := h4
    subst h6 h7
    split at h9
    case h_2 => cases h9
    rename_i C T N hcl
    have hCy : C = y.cls := of_decide_eq_true h9
    subst hCy
    obtain ⟨hobj, h1⟩ := h1
    unfold gx_inv at h1
    obtain ⟨hcat, mc, ms, Q', hmc, hms, hcall, hcont⟩ := h1
    have hpre : ∀ U : State, U.heap = H → s.WarmedH U.vm → va_Pc ((st.take b).reverse.map (gx_tr bs bq)) (gx_pre D bs bq cA LL xs h) ((st.take b).reverse.map (gx_tr bs bq)).toArray U := fun U hU hW => ⟨rfl, by rw [hU]; exact hr, va_K.moved hW.alike hK, by
      rw [hU]
      exact va_X.moved hW.alike (hX.kept (hS.2.1 bq (Nat.lt_of_lt_of_le hbq hbs) (Nat.not_le.mpr hbq))), hbq, by rw [hU, hr.2]; exact Nat.le_add_right _ _, va_AO.moved hW.alike hAO, gx_NL_warm hW hNL⟩
    have hcatW : ((st.drop b).map (gx_tr bs bq) |>.map fun v => v.category).sum ≤ 8 := by rw [gx_cat_tr]; exact hcat
    have hM := hIH _ _ _ _ _ _ _ hz hcall
    obtain ⟨hav, hlen⟩ := gx_call_args hz hcall
    have hst : st.map (gx_tr bs bq) = (((st.take b).reverse.map (gx_tr bs bq)).reverse) ++ (st.drop b).map (gx_tr bs bq) := by
      rw [← List.map_reverse, List.reverse_reverse, ← List.map_append, List.take_append_drop]
    obtain ⟨zin, zpos, zlen⟩ := z1 (by decide)
    cases hrev : (st.take b).reverse with
    | nil => rw [hrev] at hobj; exact hobj.elim
    | cons v as =>
      rw [hrev] at hobj hM hpre hlen hst
      cases v with
      | ref q =>
        obtain ⟨fs, hq⟩ := hobj
        rw [hst]
        have hrun := va_runV (p := p) (l := l) (e := e) (R := R) (s := s) (m := m) (args := args) (below := below) (meth := meth) (c := c) (H := H) (locs := locs) (cells := cells) (slots := slots) (b := bs + q) (As := as.map (gx_tr bs bq)) (rest := (st.drop b).map (gx_tr bs bq)) (g := F0 m pc ls (((Value.ref q :: as).map (gx_tr bs bq)).reverse ++ (st.drop b).map (gx_tr bs bq))) (n := b - 1) (C := y.cls) (own := own) (index := ix)
          ⟨hx, hb, hml, hown, hts⟩ hM ⟨⟨rfl, rfl, hRf, by show 8 + (nLz + 11) + 27 * d ≤ R.locals; omega, gx_pay hts zc, List.mem_cons_self, hts _ zc, hts _ zi, zh, zlen, hts _ (gx_wd_in h5)⟩, hts _ zin, hts _ (gx_wd_in h8)⟩
          ⟨gx_blind, va_recv hK hr.1 hcl (gx_ws_get hq), hpre⟩ rfl (by rw [List.length_map]; simp only [List.length_cons] at hlen; omega) hL.1.1 (by simp [gx_tr]) (lv_room hcatW) h2 ⟨by omega, by omega⟩
        refine gx_cal hrun hS (fun r h1 H1 locs1 q1 r1 s1 => ?_)
        have hk1 := hcont r h1 q1
        have := go hk1 h3 r1 s1 hL (cells' := cells + mc) (slots' := slots + ms) (by omega) (by omega)
        rw [List.map_append] at this
        cases r <;> exact this
      | _ => exact hobj.elim
  | invokestatic ix =>
    try dsimp only at h1
    simp only [gx_st, Bool.and_eq_true, decide_eq_true_eq] at hoki
    obtain ⟨⟨h2, h3⟩, h4⟩ := hoki
    unfold gx_zk at h4
    split at h4
    case h_2 => cases h4
    rename_i e0 hz
    obtain ⟨y, bcz, nLz, retz, na, kd, cdz, wsz⟩ := e0
    obtain ⟨zc, zi, zh, zp, zL, zn, z0, z1, -⟩ := gx_zfact hz
    simp only [Bool.and_eq_true, decide_eq_true_eq] at h4
    obtain ⟨⟨h5, h6⟩, h7⟩ := h4
    subst h6
    obtain ⟨zst, zlen⟩ := z0 rfl
    cases c0 with
    | zero =>
      have h7 : b = na := of_decide_eq_true h7
      subst h7
      rw [gx_b_0] at h1
      unfold gx_inv at h1
      obtain ⟨hcat, mc, ms, Q', hmc, hms, hcall, hcont⟩ := h1
      have hpre : ∀ U : State, U.heap = H → s.WarmedH U.vm → va_Pc ((st.take b).reverse.map (gx_tr bs bq)) (gx_pre D bs bq cA LL xs h) ((st.take b).reverse.map (gx_tr bs bq)).toArray U := fun U hU hW => ⟨rfl, by rw [hU]; exact hr, va_K.moved hW.alike hK, by
        rw [hU]
        exact va_X.moved hW.alike (hX.kept (hS.2.1 bq (Nat.lt_of_lt_of_le hbq hbs) (Nat.not_le.mpr hbq))), hbq, by rw [hU, hr.2]; exact Nat.le_add_right _ _, va_AO.moved hW.alike hAO, gx_NL_warm hW hNL⟩
      have hcatW : ((st.drop b).map (gx_tr bs bq) |>.map fun v => v.category).sum ≤ 8 := by rw [gx_cat_tr]; exact hcat
      have hM := hIH _ _ _ _ _ _ _ hz hcall
      obtain ⟨hav, hlen⟩ := gx_call_args hz hcall
      have hst : st.map (gx_tr bs bq) = (((st.take b).reverse.map (gx_tr bs bq)).reverse) ++ (st.drop b).map (gx_tr bs bq) := by
        rw [← List.map_reverse, List.reverse_reverse, ← List.map_append, List.take_append_drop]
      rw [hst]
      have hrun := va_runS (p := p) (l := l) (e := e) (R := R) (s := s) (m := m) (args := args) (below := below) (meth := meth) (c := c) (H := H) (locs := locs) (cells := cells) (slots := slots) (As := (st.take b).reverse.map (gx_tr bs bq)) (rest := (st.drop b).map (gx_tr bs bq)) (g := F0 m pc ls (((st.take b).reverse.map (gx_tr bs bq)).reverse ++ (st.drop b).map (gx_tr bs bq))) (n := b) (own := own) (index := ix)
        ⟨hx, hb, hml, hown, hts⟩ hM ⟨⟨rfl, rfl, hRf, by show 8 + (nLz + 11) + 27 * d ≤ R.locals; omega, gx_pay hts zc, List.mem_cons_self, hts _ zc, hts _ zi, zh, zlen, hts _ (gx_wd_in h5)⟩, hts _ zst⟩
        ⟨gx_blind, hpre⟩ rfl (by rw [List.length_map]; exact hlen) hL.1.1 rfl (lv_room hcatW) h2 ⟨by omega, by omega⟩
      refine gx_cal hrun hS (fun r h1 H1 locs1 q1 r1 s1 => ?_)
      have hk1 := hcont r h1 q1
      have := go hk1 h3 r1 s1 hL (cells' := cells + mc) (slots' := slots + ms) (by omega) (by omega)
      rw [List.map_append] at this
      cases r <;> exact this
    | succ c0 =>
      rw [gx_b_s] at h1
      replace h7 : (decide (a = 80) && decide (y = yX3_in)) = true := h7
      rw [Bool.and_eq_true] at h7
      have ha80 : a = 80 := of_decide_eq_true h7.1
      have hyin : y = yX3_in := of_decide_eq_true h7.2
      subst ha80
      have hzz : gx_mt[80]? = some mt_M_in := rfl
      cases hzz.symm.trans hz
      unfold gx_in at h1
      split at h1
      · rename_i z9 y9 x9 r9
        obtain ⟨hcat, h1⟩ := h1
        have hrun := W.runS (p := p) (l := l) (e := e) (R := R) (s := s) (m := m) (args := args) (below := below) (meth := meth) (c := c) (H := H) (locs := locs) (cells := cells) (slots := slots) (As := [.long x9, .long y9, .long z9]) (rest := r9.map (gx_tr bs bq)) (g := F0 m pc ls (.long z9 :: .long y9 :: .long x9 :: r9.map (gx_tr bs bq))) (n := 3) (own := own) (index := ix)
          ⟨hx, hb, hml, hown, hts⟩ (hmi x9 y9 z9) ⟨⟨rfl, rfl, by show 0 + 1 ≤ R.frames; omega, by show 8 + (6 + 11) + 0 ≤ R.locals; omega, gx_pay hts zc, List.mem_cons_self, hts _ zc, hts _ zi, zh, zlen, hts _ (gx_wd_in h5)⟩, hts _ zst⟩
          ⟨fun a U g mk q => ⟨q.1, trivial⟩, fun U hU hW => ⟨rfl, trivial⟩⟩ rfl rfl hL.1.1 rfl (lv_room (by rw [gx_cat_tr]; exact hcat)) h2 ⟨by omega, by omega⟩
        refine W.callR hrun ?_
        by_cases hc9 : y9 ≤ x9 ∧ x9 ≤ z9
        · rw [if_pos hc9]
          exact go (h1.1 hc9) h3 hr hS hL hc0 hs0
        · rw [if_neg hc9]
          exact go (h1.2 hc9) h3 hr hS hL hc0 hs0
      · exact h1.elim
  | invokespecial ix =>
    try dsimp only at h1
    simp only [gx_st, Bool.and_eq_true, decide_eq_true_eq] at hoki
    obtain ⟨⟨h2, h3⟩, h4⟩ := hoki
    by_cases hc99 : c0 = 99
    · subst hc99
      simp only [Bool.and_eq_true] at h4
      replace h1 : (match (generalizing := false) st with
            | .ref _ :: r => gx_cat r ≤ 8 ∧ k (i + 1) L r h cb sb
            | _ => False) := h1
      split at h1
      · rename_i q r
        refine W.objInit hx hb hown (hts _ (gx_wd_in h4.1.1)) (hts _ (gx_wd_in h4.1.2)) (hts _ (gx_wd_in h4.2)) rfl (by rw [hml]; exact hL.1.1) rfl h2 (by omega) ?_ ?_
        · have := h1.1
          show 2 * 0 + ((r.map (gx_tr bs bq)).map fun v => v.category).sum + 12 ≤ R.locals
          rw [gx_cat_tr]
          omega
        · exact go h1.2 h3 hr hS hL hc0 hs0
      · exact h1.elim
    · have h4 : gx_zk a (fun e => decide (b = e.2.2.2.2.1) && decide (e.2.2.2.2.2.1 = 1) && decide (e.1.name = "<init>") && decide (e.2.2.2.1 = none) && (match vwCl[c0 % 50]? with
            | some (C, _, _) => decide (C = e.1.cls)
            | none => false) && (match decide (c0 < 50) with
            | true => gx_wd ts 0 (.methodLink own ix e.1)
            | false => gx_wn ts 0 (.methodLinkNest own ix e.1 RX2))) = true := by
        split at h4
        · exact absurd rfl hc99
        · exact h4
      have h1 : gx_own h (c0 % 50) (st.take b).reverse ∧ gx_inv (gx_call LL xs d) a (st.take b).reverse (st.drop b) h cb sb fun r h1 cb sb => r = none ∧ k (i + 1) L (st.drop b) h1 cb sb := by
        split at h1
        · exact absurd rfl hc99
        · exact h1
      unfold gx_zk at h4
      split at h4
      case h_2 => cases h4
      rename_i e0 hz
      obtain ⟨y, bcz, nLz, retz, na, kd, cdz, wsz⟩ := e0
      obtain ⟨zc, zi, zh, zp, zL, zn, z0, z1, -⟩ := gx_zfact hz
      simp only [Bool.and_eq_true, decide_eq_true_eq] at h4
      obtain ⟨⟨⟨⟨⟨h6, h7⟩, h8⟩, h10⟩, h9⟩, h5⟩ := h4
      subst h6 h7 h10
      split at h9
      case h_2 => cases h9
      rename_i C T N hcl
      have hCy : C = y.cls := of_decide_eq_true h9
      subst hCy
      obtain ⟨hobj, h1⟩ := h1
      unfold gx_inv at h1
      obtain ⟨hcat, mc, ms, Q', hmc, hms, hcall, hcont⟩ := h1
      have hpre : ∀ U : State, U.heap = H → s.WarmedH U.vm → va_Pc ((st.take b).reverse.map (gx_tr bs bq)) (gx_pre D bs bq cA LL xs h) ((st.take b).reverse.map (gx_tr bs bq)).toArray U := fun U hU hW => ⟨rfl, by rw [hU]; exact hr, va_K.moved hW.alike hK, by
        rw [hU]
        exact va_X.moved hW.alike (hX.kept (hS.2.1 bq (Nat.lt_of_lt_of_le hbq hbs) (Nat.not_le.mpr hbq))), hbq, by rw [hU, hr.2]; exact Nat.le_add_right _ _, va_AO.moved hW.alike hAO, gx_NL_warm hW hNL⟩
      have hcatW : ((st.drop b).map (gx_tr bs bq) |>.map fun v => v.category).sum ≤ 8 := by rw [gx_cat_tr]; exact hcat
      have hM := hIH _ _ _ _ _ _ _ hz hcall
      obtain ⟨hav, hlen⟩ := gx_call_args hz hcall
      have hst : st.map (gx_tr bs bq) = (((st.take b).reverse.map (gx_tr bs bq)).reverse) ++ (st.drop b).map (gx_tr bs bq) := by
        rw [← List.map_reverse, List.reverse_reverse, ← List.map_append, List.take_append_drop]
      obtain ⟨zin, zpos, zlen⟩ := z1 (by decide)
      cases hrev : (st.take b).reverse with
      | nil => rw [hrev] at hobj; exact hobj.elim
      | cons v as =>
        rw [hrev] at hobj hM hpre hlen hst
        cases v with
        | ref q =>
          obtain ⟨fs, hq⟩ := hobj
          rw [hst]
          have hrun : va_Run p l e R s m args below meth c H locs cells slots mc ms (F0 m pc ls (((Value.ref q :: as).map (gx_tr bs bq)).reverse ++ (st.drop b).map (gx_tr bs bq))) ((st.drop b).map (gx_tr bs bq)) (gx_pst D bs bq cA Q' (Value.ref (bs + q) :: as.map (gx_tr bs bq)).toArray) (fun q => bs ≤ q) := by
            split at h5
            · exact va_runI (b := bs + q) (As := as.map (gx_tr bs bq)) (n := b - 1) (own := own) (index := ix)
                ⟨hx, hb, hml, hown, hts⟩ hM ⟨⟨rfl, rfl, hRf, by show 8 + (nLz + 11) + 27 * d ≤ R.locals; omega, gx_pay hts zc, List.mem_cons_self, hts _ zc, hts _ zi, zh, zlen, hts _ (gx_wd_in h5)⟩, h8, hts _ zin⟩
                ⟨gx_blind, hpre⟩ rfl (by rw [List.length_map]; simp only [List.length_cons] at hlen; omega) hL.1.1 (by simp [gx_tr]) (lv_room hcatW) h2 ⟨by omega, by omega⟩
            · exact va_runIN (b := bs + q) (As := as.map (gx_tr bs bq)) (n := b - 1) (own := own) (index := ix) (host := RX2)
                ⟨hx, hb, hml, hown, hts⟩ hM ⟨⟨⟨rfl, rfl, hRf, by show 8 + (nLz + 11) + 27 * d ≤ R.locals; omega, gx_pay hts zc, List.mem_cons_self⟩, hts _ zc, hts _ zi, zh, zlen, va_Nw.use rfl (hNL _ (gx_wn_in h5))⟩, h8, hts _ zin⟩
                ⟨gx_blind, hpre⟩ rfl (by rw [List.length_map]; simp only [List.length_cons] at hlen; omega) hL.1.1 (by simp [gx_tr]) (lv_room hcatW) h2 ⟨by omega, by omega⟩
          refine gx_cal hrun hS (fun r h1 H1 locs1 q1 r1 s1 => ?_)
          obtain ⟨er, hk1⟩ := hcont r h1 q1
          subst er
          exact go hk1 h3 r1 s1 hL (cells' := cells + mc) (slots' := slots + ms) (by omega) (by omega)
        | _ => exact hobj.elim
  | ireturn =>
    try dsimp only at h1
    simp only [Bool.and_eq_true, decide_eq_true_eq] at hoki
    split at h1
    · rename_i x
      have hrt : gx_rt bc ret pc (some (.int x)) ∧ Q (some (.int x)) h := by
        cases b with
        | zero => exact ⟨Or.inl ⟨x, rfl, hoki.1, Or.inl (of_decide_eq_true hoki.2)⟩, h1⟩
        | succ b => exact ⟨Or.inl ⟨x, rfl, hoki.1, Or.inr ⟨of_decide_eq_true hoki.2, h1.1⟩⟩, h1.2⟩
      exact hret (some (.int x)) h H locs cells slots pc ls hrt.2 hr hS (by omega) (by omega) hrt.1
    · exact h1.elim
  | areturn =>
    try dsimp only at h1
    simp only [Bool.and_eq_true, decide_eq_true_eq] at hoki
    have hrt : ∃ rt, ret = some rt ∧ ((∃ n, rt = .object n) ∨ ∃ t, rt = .array t) := by
      have h9 := hoki.2
      split at h9
      · exact ⟨_, rfl, Or.inl ⟨_, rfl⟩⟩
      · exact ⟨_, rfl, Or.inr ⟨_, rfl⟩⟩
      · cases h9
    split at h1
    · rename_i q
      exact hret (some (.ref q)) h H locs cells slots pc ls h1 hr hS (by omega) (by omega) (Or.inr (Or.inr ⟨.ref q, rfl, Or.inr ⟨q, rfl⟩, hoki.1, hrt⟩))
    · exact hret (some .null) h H locs cells slots pc ls h1 hr hS (by omega) (by omega) (Or.inr (Or.inr ⟨.null, rfl, Or.inl rfl, hoki.1, hrt⟩))
    · exact h1.elim
  | return_ =>
    try dsimp only at h1
    simp only [Bool.and_eq_true, decide_eq_true_eq] at hoki
    split at h1
    · exact hret none h H locs cells slots pc ls h1 hr hS (by omega) (by omega) (Or.inr (Or.inl ⟨rfl, hoki.1, hoki.2⟩))
    · exact h1.elim
  | _ => exact h1.elim
end GXB
end
section
set_option maxRecDepth 100000 in
theorem gx_in_ok (l : Launch) : gx_met_in l := by
  intro x y z
  refine Met.ofW (cc := cX3_in) (maxL := 6) (ret := some .boolean) (by decide) rfl ?_
  intro p e s m args below meth c s₁ B hml hv
  obtain ⟨rfl, -⟩ := hv
  have hx := B.exec
  have hb := B.bytes
  have hr := B.returns
  have hlocks := B.notSynchronized
  have hl := lv_entry ([.long x, .long y, .long z]) (n := 6) (Nat.le_of_ble_eq_true rfl)
  rw [lg_entry_eq]
  generalize (lg_sl ([.long x, .long y, .long z]) ++ List.replicate (6 - (lg_sl ([.long x, .long y, .long z])).length) Slot.unset).toArray = ls at hl ⊢
  have hl : lv_has ls 6 [(0, .long x), (2, .long y), (4, .long z)] := hl
  have d0 : decode cX3_in 0 = .ok (.lload_n 0, 1) := by decide +kernel
  have d1 : decode cX3_in 1 = .ok (.lload_n 2, 1) := by decide +kernel
  have d2 : decode cX3_in 2 = .ok (.lcmp, 1) := by decide +kernel
  have d3 : decode cX3_in 3 = .ok (.ifCond .lt 14, 3) := by decide +kernel
  have d6 : decode cX3_in 6 = .ok (.lload_n 0, 1) := by decide +kernel
  have d7 : decode cX3_in 7 = .ok (.lload 4, 2) := by decide +kernel
  have d9 : decode cX3_in 9 = .ok (.lcmp, 1) := by decide +kernel
  have d10 : decode cX3_in 10 = .ok (.ifCond .gt 7, 3) := by decide +kernel
  have d13 : decode cX3_in 13 = .ok (.iconst 1, 1) := by decide +kernel
  have d14 : decode cX3_in 14 = .ok (.goto 4, 3) := by decide +kernel
  have d17 : decode cX3_in 17 = .ok (.iconst 0, 1) := by decide +kernel
  have d18 : decode cX3_in 18 = .ok (.ireturn, 1) := by decide +kernel
  have fin : ∀ r : Int32, narrow .boolean (.int r) = .int r → (if y ≤ x ∧ x ≤ z then nI 1 else nI 0) = r → W p l e (headSpec (gx_wy yX3_in cX3_in 6 (some .boolean)) rm0).room s m #[.long x, .long y, .long z] below meth c s.heap [] 0 0 (MQ below (QcRead (if y ≤ x ∧ x ≤ z then nI 1 else nI 0)) #[.long x, .long y, .long z] s 0 0 fun _ => False) (F0 m 18 ls [.int r]) := by
    intro r hn he
    exact W.zret hx hb hr hn (fun t ht hW => ⟨by rw [he], ht⟩) (fun q hq => absurd hq List.not_mem_nil) d18
  refine lv_lload_n hx hb d0 rfl (lv_at hl 0 rfl) ?_
  refine lv_lload_n hx hb d1 rfl (lv_at hl 1 rfl) ?_
  refine W.lcmp hx hb d2 ?_
  refine lv_if_lt (tgt := 17) hx hb d3 (by decide) (fun c1 => ?_) (fun c1 => ?_)
  · refine lv_iconst (v := nI 0) hx hb d17 (by decide) ?_
    rw [lg_cmp_lt] at c1
    exact fin _ (by decide) (if_neg fun h => Int64.not_le.mpr c1 h.1)
  · rw [lg_cmp_lt] at c1
    refine lv_lload_n hx hb d6 rfl (lv_at hl 0 rfl) ?_
    refine lv_lload hx hb d7 (lv_at hl 2 rfl) ?_
    refine W.lcmp hx hb d9 ?_
    refine lv_if_gt (tgt := 17) hx hb d10 (by decide) (fun c2 => ?_) (fun c2 => ?_)
    · refine lv_iconst (v := nI 0) hx hb d17 (by decide) ?_
      rw [lg_cmp_gt] at c2
      exact fin _ (by decide) (if_neg fun h => Int64.not_le.mpr c2 h.2)
    · rw [lg_cmp_gt] at c2
      refine lv_iconst (v := nI 1) hx hb d13 (by decide) ?_
      refine lv_goto (tgt := 18) hx hb d14 (by decide) ?_
      exact fin _ (by decide) (if_pos ⟨Int64.not_lt.mp c1, Int64.not_lt.mp c2⟩)
theorem gx_pc0 : ∀ e ∈ gx_mt, gx_pc e.2.2.2.2.2.2.1 0 = 0 := by
  have h : (gx_mt.all fun e => decide (gx_pc e.2.2.2.2.2.2.1 0 = 0)) = true := by decide +kernel
  intro e he
  exact of_decide_eq_true (List.all_eq_true.mp h e he)
theorem gx_sound {l : Launch} {D : va_G} {bs bq : Nat} {cA : Nat → ClassId} {LL : Nat} {xs : Nat → Int32} : ∀ (d z mc ms : Nat) (av : List Value) (h : gx_H) (Q : gx_Q) (e0 : gx_M), gx_mt[z]? = some e0 → gx_call LL xs d z mc ms av h Q → gx_met l D bs bq cA LL xs d e0 mc ms av h Q := by
  intro d
  induction d with
  | zero => intro z mc ms av h Q e0 hz h1; exact h1.elim
  | succ d ih =>
    intro z mc ms av h Q e0 hz h1
    obtain ⟨hav, hlen⟩ := gx_call_args hz h1
    obtain ⟨y, bc, nL, ret, na, kd, cd, ws⟩ := e0
    obtain ⟨zc, zi, zh, zp, zL, zn, z0, z1, zok⟩ := gx_zfact hz
    have hp0 : gx_pc cd 0 = 0 := gx_pc0 _ (List.mem_of_getElem? hz)
    unfold gx_call at h1
    rw [hz] at h1
    have hE := h1.2.2
    unfold gx_met
    refine va_MetF (cc := bc) (maxL := nL) (ret := ret) zp rfl ?_
    intro p e s m args below meth c s₁ B hml hv
    obtain ⟨rfl, hr, hcx⟩ := hv
    have hx := B.exec
    have hb := B.bytes
    have hrt := B.returns
    have hts0 := atoms_spec (ws := gx_wy y bc nL ret) B.pre
    have hts : ∀ w ∈ gx_tb, w.before (av.map (gx_tr bs bq)).toArray s = true := fun w hw => hts0 w (List.mem_cons_of_mem _ hw)
    have hown : s.vm.findClass y.cls = some m.cls := findClass_of_methodNamed B.named
    have hlocks := B.notSynchronized
    have hmn : meth.name = y.name := (name_of_methodNamed B.named B.method).1
    rw [lg_entry_eq]
    have hL := gx_entry (bs := bs) (bq := bq) (nL := nL) hav (by rw [hlen]; exact zn)
    have := gx_body (p := p) (e := e) (R := (headSpec (gx_wy y bc nL ret) (gx_rm (d + 1) mc ms)).room) (m := m) (below := below) (F := MQ below (gx_pst D bs bq cA Q) (av.map (gx_tr bs bq)).toArray s mc ms (fun q => bs ≤ q)) (d := d) (MC := mc) (MS := ms) (ret := ret)
      hx hb hml hown hts (fun _ => hmn) hcx zok (Nat.le_refl _) (Nat.le_refl _) rfl rfl (gx_in_ok l) ih ?_ hE s.heap [] _ 0 0 hr va_S.rf hL (Nat.zero_add _) (Nat.zero_add _)
    · rw [hp0] at this
      exact this
    · intro v h1 H locs cells slots pc ls hq hr1 hS hc hs hrt1
      refine W.widen hc hs ?_
      rcases hrt1 with ⟨x, rfl, hdg, hty⟩ | ⟨rfl, hdg, hty⟩ | ⟨w, rfl, hw, hdg, rt, hty, hobj⟩
      · rcases hty with hty | ⟨hty, hx01⟩
        · exact W.zret (ty := .int) hx hb (hrt.trans hty) rfl (fun t ht hW => ⟨⟨_, h1, hq, rfl, by rw [ht]; exact hr1⟩, hS.F ht⟩) hS.2.2 hdg
        · exact W.zret (ty := .boolean) hx hb (hrt.trans hty) (by rcases hx01 with rfl | rfl <;> decide) (fun t ht hW => ⟨⟨_, h1, hq, rfl, by rw [ht]; exact hr1⟩, hS.F ht⟩) hS.2.2 hdg
      · exact W.vret hx hb (hrt.trans hty) (fun t ht hW => ⟨⟨_, h1, hq, rfl, by rw [ht]; exact hr1⟩, hS.F ht⟩) hS.2.2 hdg
      · refine W.aret hx hb (hrt.trans hty) hobj ?_ (fun t ht hW => ⟨⟨_, h1, hq, rfl, by rw [ht]; exact hr1⟩, hS.F ht⟩) hS.2.2 hdg
        rcases hw with rfl | ⟨a, rfl⟩
        · exact Or.inl rfl
        · exact Or.inr ⟨_, rfl⟩
end
section
/-! From the law's code over our machine to the walk of the law's body. -/
def R_law : String := "GlulxFramesLaw"
def lw_P (b : Addr) (xs : List Int32) (args : Array Value) (s : State) : Prop := args = #[.ref b] ∧ s.IntsAt b xs ∧ xs.length ≤ 3073 ∧ (Jvm.Cond.and given_1 narrow_1).before args s = true
def lw_Q (_ : Array Value) (s : State) (o : Outcome) (t : State) : Prop := o = .returned (some (.int 1)) ∧ Framed s o t [] 600000 7302250
def lw_Z (below : List Frame) (a : Array Value) (s : State) : State → Prop := fun t => ∃ o, t.status = .running ∧ Ended t below o ∧ lw_Q a s o t
/-- the law's own end, with 1 on the stack, nothing written that was there before, its room as the claim has it -/
theorem lw_ret {p : Program} {l : Launch} {e : Env} {s : State} {m : MethodId} {below : List Frame} {meth : Method} {c : Code} {b : Nat} (hx : p.tables.exec = Jvm.exec) (hb : c.code = code) (hr : meth.sig.returnType = ret) (hlocks : meth.locks = false) {pc : Nat} {H : Heap} {ls : Array Slot} (hdg : decode code pc = .ok (.ireturn, 1)) : W p l e room_1 s m #[Value.ref b] below meth c H [] 600000 7302250 (lw_Z below #[Value.ref b] s) (F0 m pc ls [.int 1]) := by
  intro T hT X
  obtain ⟨fs, hret, hrun, hended, hW, hframe⟩ := X.leave (v := some (.int 1)) (hlocks := hlocks) (fun h => by rw [hr] at h; cases h)
  have hmeth' : T.vm.method? m = some meth := X.method'
  refine ⟨T.setFrames fs, ?_, .returned (some (.int 1)), hrun, hended, rfl, ⟨_, rfl⟩, hW, hframe⟩
  jvm_step X.here [X.here.top, hx, hb, hdg, hmeth', hr, ret, narrow_b1]
  (try refine ⟨rfl, ?_⟩); (try refine ⟨rfl, ?_⟩)
  first | (intro acts; rw [hret _ acts rfl rfl rfl]) | rw [hret _ _ rfl rfl rfl]
  exact Steps.refl _
/-- what holds at the law's entry: the machine, the code, the tables' words (any of lw_tbl by 'hts w (by decide +kernel)'), the script of L ints xs at the cell b, what the Statement gives of the start (any of its parts by flat_of_before) -/
def lw_At (p : Program) (s : State) (m : MethodId) (meth : Method) (c : Code) (b L : Nat) (xs : Nat → Int32) : Prop :=
  p.tables.exec = Jvm.exec ∧ c.code = code ∧ meth.sig.returnType = ret ∧ c.maxLocals = 4 ∧ s.vm.findClass R_law = some m.cls ∧ (∀ w ∈ lw_tbl, w.before #[Value.ref b] s = true) ∧ va_X b L xs s s.heap ∧ b < s.heap.size ∧ meth.locks = false ∧ (Jvm.Cond.and given_1 narrow_1).before #[Value.ref b] s = true
set_option maxRecDepth 100000 in
theorem whole_open (hlaw : ∀ (LL : Nat) (xs : Nat → Int32), LL ≤ 3073 → gx_E LL xs (gx_call LL xs 8) cd_L_law (fun r _ => r = some (.int (nI 1))) 0 [some (.retAddr 0), none, none, none] [] [] 600000 7302250)
    {p : Program} {e : Env} {s : State} {m : MethodId} {below : List Frame} {meth : Method} {c : Code} (l : Launch) {b L : Nat} {xs : Nat → Int32} (hL : L ≤ 3073) (C0 : lw_At p s m meth c b L xs) : W p l e room_1 s m #[Value.ref b] below meth c s.heap [] 0 0 (lw_Z below #[Value.ref b] s) (entryFrame m ([Value.ref b] : List Value).toArray 4) := by
  obtain ⟨hx, hb, hr, hml, hown, hts0, hX, hbl, hlocks, hgv⟩ := id C0
  have hts : ∀ w ∈ gx_tb, w.before #[Value.ref b] s = true := fun w hw => hts0 w (List.mem_filter.mp hw).1
  obtain ⟨c0, iS0, hKn0⟩ := u_known (C := RX0) (T := TX0) (N := 5) (n := 5) hts (gx_inw 0 _ _ _ rfl) (hts _ (by decide +kernel : Jvm.Cond.instantiable RX0 5 ∈ gx_tb))
  obtain ⟨c1, iS1, hKn1⟩ := u_known (C := RX1) (T := TX1) (N := 2) (n := 2) hts (gx_inw 1 _ _ _ rfl) (hts _ (by decide +kernel : Jvm.Cond.instantiable RX1 2 ∈ gx_tb))
  obtain ⟨c2, iS2, hKn2⟩ := u_known (C := RX2) (T := TX2) (N := 9) (n := 9) hts (gx_inw 2 _ _ _ rfl) (hts _ (by decide +kernel : Jvm.Cond.instantiable RX2 9 ∈ gx_tb))
  obtain ⟨c3, iS3, hKn3⟩ := u_known (C := RX3) (T := TX3) (N := 15) (n := 15) hts (gx_inw 3 _ _ _ rfl) (hts _ (by decide +kernel : Jvm.Cond.instantiable RX3 15 ∈ gx_tb))
  obtain ⟨a0, k0, p0, f0, g0, e0⟩ := Cond.arrayClass_spec (hts _ (by decide +kernel : Jvm.Cond.arrayClass .int ∈ gx_tb))
  obtain ⟨a1, k1, p1, f1, g1, e1⟩ := Cond.arrayClass_spec (hts _ (by decide +kernel : Jvm.Cond.arrayClass .byte ∈ gx_tb))
  have hAO0 : (Jvm.Cond.arrayOver (.object RX0)).before #[Value.ref b] s = true := hts0 _ (by decide +kernel)
  obtain ⟨p2, a2, k2, f2, i2, g2, e2, n2⟩ := Cond.arrayOver_spec hAO0
  obtain ⟨dC, dI, hKc⟩ : ∃ (dC : Nat → ClassId) (dI : Nat → Nat → Nat), ∀ (k : Nat) (q : vw_C), vwCl[k]? = some q → u_Kn s q.1 q.2.1 q.2.2 (dC k) (dI k) := by
    refine ⟨fun k => if k = 0 then c0 else if k = 1 then c1 else if k = 2 then c2 else c3, fun k => if k = 0 then iS0 else if k = 1 then iS1 else if k = 2 then iS2 else iS3, ?_⟩
    intro k q hq
    match k, hq with
    | 0, hq => cases hq; exact hKn0
    | 1, hq => cases hq; exact hKn1
    | 2, hq => cases hq; exact hKn2
    | 3, hq => cases hq; exact hKn3
    | k + 4, hq => simp [vwCl] at hq
  obtain ⟨cA, ec0, ec1, ec2⟩ : ∃ cA : Nat → ClassId, cA 0 = a0 ∧ cA 1 = a1 ∧ cA 2 = a2 := ⟨fun k => if k = 0 then a0 else if k = 1 then a1 else a2, rfl, rfl, rfl⟩
  have hK : va_K (dC, dI) vwCl (gx_ty cA) s := by
    refine ⟨hKc, fun k q h => ?_⟩
    match k, h with
    | 0, h => cases h; rw [ec0]; exact ⟨fun n z => ⟨fun k h => (by cases h), k0, g0, p0, e0⟩, f0⟩
    | 1, h => cases h; rw [ec1]; exact ⟨fun n z => ⟨fun k h => (by cases h), k1, g1, p1, e1⟩, f1⟩
    | 2, h => cases h; rw [ec2]; exact ⟨fun n z => ⟨fun k h => (by cases h), k2, g2, p2, e2⟩, k2, p2, g2, e2, f2, n2⟩
    | k + 3, h => simp [gx_ty] at h
  have hr0 : gx_hr (dC, dI) s.heap.size b cA [] s.heap := ⟨fun k q h => by simp [gx_ws] at h, rfl⟩
  have hLh : gx_lh s.heap.size b 4 ((lg_sl (([.retAddr 0] : List Value).map (gx_tr s.heap.size b)) ++ List.replicate (4 - (lg_sl (([.retAddr 0] : List Value).map (gx_tr s.heap.size b))).length) Slot.unset).toArray) (gx_l0 [.retAddr 0] 4) := gx_entry (fun v hv => by rcases List.mem_singleton.mp hv with rfl; rfl) (by decide)
  have hNL0 : gx_NL s := by
    intro w hw
    have h2 := (List.mem_filter.mp hw).2
    have h1 := hts0 w (List.mem_filter.mp hw).1
    unfold gx_isn at h2
    split at h2
    · exact va_Nw.of rfl h1
    · cases h2
  rw [lg_entry_eq]
  have hpc0 : gx_pc cd_L_law 0 = 0 := by decide +kernel
  have := gx_body (p := p) (l := l) (e := e) (R := room_1) (s := s) (m := m) (args := #[Value.ref b]) (below := below) (meth := meth) (c := c) (F := lw_Z below #[Value.ref b] s) (D := (dC, dI)) (bs := s.heap.size) (bq := b) (cA := cA) (LL := L) (xs := xs) (d := 8) (own := RL) (mn := "law") (bc := code) (ret := some .boolean) (nL := 4) (cd := cd_L_law) (MC := 600000) (MS := 7302250)
    hx hb hml hown hts (fun h => absurd h (by decide)) ⟨hK, hX, hbl, Nat.le_refl _, va_AO.of hAO0, hNL0⟩ zl_all (Nat.le_of_ble_eq_true rfl) (Nat.le_of_ble_eq_true rfl) rfl rfl (gx_in_ok l) (gx_sound 8) ?_ (hlaw L xs hL) s.heap [] _ 0 0 hr0 va_S.rf hLh (Nat.zero_add _) (Nat.zero_add _)
  · rw [hpc0] at this
    exact this
  · intro v h1 H locs cells slots pc ls hq hr1 hS hc hs hrt1
    subst hq
    refine W.widen hc hs ?_
    refine va_forget hS.2.2 ?_
    rcases hrt1 with ⟨x, hxe, hdg, hty⟩ | ⟨h9, -⟩ | ⟨w, h9, hw, -⟩
    · cases hxe
      exact lw_ret hx hb hr hlocks hdg
    · cases h9
    · cases h9
      rcases hw with h9 | ⟨a, h9⟩ <;> cases h9
end
section
/-! What both the class and the reference hold, as plain values; bytes read and written as both do it. -/
/-- a call that makes nothing -/
theorem gx_cq {CALL : gx_C} {z : Nat} {av rest : List Value} {h : gx_H} {cb sb : Nat} {kk : Option Value → gx_H → Nat → Nat → Prop} {Q' : gx_Q} (hc : gx_cat rest ≤ 8) (hcall : CALL z 0 0 av h Q') (k : ∀ r h1, Q' r h1 → kk r h1 cb sb) : gx_inv CALL z av rest h cb sb kk :=
  ⟨hc, 0, 0, Q', Nat.zero_le _, Nat.zero_le _, hcall, k⟩
/-- and whose answer is known -/
theorem gx_c1 {CALL : gx_C} {z : Nat} {av rest : List Value} {h h0 : gx_H} {r0 : Option Value} {cb sb : Nat} {kk : Option Value → gx_H → Nat → Nat → Prop} (hc : gx_cat rest ≤ 8) (hcall : CALL z 0 0 av h (fun r h' => r = r0 ∧ h' = h0)) (k : kk r0 h0 cb sb) : gx_inv CALL z av rest h cb sb kk :=
  gx_cq hc hcall fun r h1 q => by obtain ⟨rfl, rfl⟩ := q; exact k
theorem gx_ar {x : Int32} {n : Nat} {P : Nat → Prop} (j : Nat) (hx : x = nI j) (hj : j < n) (hn : n < 2147483648) (k : P j) : ∃ j, x = nI j ∧ j < n ∧ n < 2147483648 ∧ P j := ⟨j, hx, hj, hn, k⟩
theorem gx_le8 {rest : List Value} (h : Nat.ble (gx_cat rest) 8 = true) : gx_cat rest ≤ 8 := Nat.le_of_ble_eq_true h
def ga_lo (v : Int32) : Nat := v.toBitVec.toNat % 256
theorem ga_lo_lt (v : Int32) : ga_lo v < 256 := Nat.mod_lt _ (by decide)
theorem ga_and (v : Int32) : v &&& nI 255 = nI (ga_lo v) := pk_and v 8 (by decide)
theorem ga_i8 (v : Int32) : v.toInt8.toInt32 = sb_b (ga_lo v) := by
  unfold sb_b
  rw [← ga_and]
  congr 1
  apply Int8.toBitVec_inj.mp
  show BitVec.signExtend 8 v.toBitVec = BitVec.signExtend 8 (v &&& nI 255).toBitVec
  apply BitVec.eq_of_getLsbD_eq
  intro i hi
  have e : (v &&& nI 255).toBitVec = v.toBitVec &&& 255#32 := rfl
  rw [BitVec.getLsbD_signExtend, BitVec.getLsbD_signExtend, e, BitVec.getLsbD_and]
  have h2 : ∀ j : Fin 8, (255#32).getLsbD j.val = true := by decide
  rw [show (255#32).getLsbD i = true from h2 ⟨i, hi⟩]
  simp [hi, show i < 32 by omega]
theorem ga_sb {c : Nat} (h : c < 256) : sb_b c &&& nI 255 = nI c := (sb_byte c h).1
/-- w bytes from a on become the lowest of v -/
def ga_wr (μ : Nat → Nat) (a : Nat) : Nat → Int32 → (Nat → Nat)
  | 0, _ => μ
  | w + 1, v => ga_wr (va_up μ (a + w) (ga_lo v)) a w (v >>> (nI 8 &&& 31))
/-- w bytes from a on, as a number -/
def ga_rd (μ : Nat → Nat) (a : Nat) : Nat → Int32
  | 0 => nI 0
  | w + 1 => (ga_rd μ a w <<< (nI 8 &&& 31)) ||| nI (μ (a + w))
/-- m bytes from a on become 0 -/
def ga_z (μ : Nat → Nat) (a m : Nat) : Nat → Nat := fun i => if a ≤ i ∧ i < a + m then 0 else μ i
/-- no frame: -1 -/
def ga_fp (fo : Option Nat) : Int32 := match fo with
  | none => -(nI 1)
  | some f => nI f
/-- a function: head, what stands for it, how many pairs, widths, counts -/
abbrev ga_F : Type := Nat × Nat × Nat × (Nat → Nat) × (Nat → Nat)
/-! The class's cells. -/
def gc_g : Nat → Option Nat := fun j => if j < 12 then some (5 + 3 * j) else none
def gc_o (k : Nat) (f : ga_F) : gx_A := .inr (.inr (0, [.int (nI f.1), .int (nI f.2.1), .int (nI f.2.2.1), .ref (6 + 3 * k), .ref (7 + 3 * k)]))
def gc_w (f : ga_F) : gx_A := .inl (0, 6, fun i => nI (f.2.2.2.1 i))
def gc_c (f : ga_F) : gx_A := .inl (0, 6, fun i => nI (f.2.2.2.2 i))
def gc_h (n : Nat) (μ : Nat → Nat) (sp : Nat) (fo : Option Nat) (pc lp : Int32) (cl : Nat → Int32) (tk : Nat → Nat) (tc : Nat) (F : Nat → ga_F) (tn : Nat → Int32) (tl : gx_H) : gx_H :=
  .inr (.inr (2, [.ref 3, .ref 1, .ref 2, .ref 41, .int (nI tc), .ref 42, .int (ga_fp fo), .int pc, .int lp])) :: .inr (.inl (12, gc_g)) :: .inl (0, 16, cl) :: .inr (.inr (1, [.ref 4, .int (nI sp)])) :: .inl (1, n, fun i => sb_b (μ i)) ::
  gc_o 0 (F 0) :: gc_w (F 0) :: gc_c (F 0) :: gc_o 1 (F 1) :: gc_w (F 1) :: gc_c (F 1) :: gc_o 2 (F 2) :: gc_w (F 2) :: gc_c (F 2) :: gc_o 3 (F 3) :: gc_w (F 3) :: gc_c (F 3) ::
  gc_o 4 (F 4) :: gc_w (F 4) :: gc_c (F 4) :: gc_o 5 (F 5) :: gc_w (F 5) :: gc_c (F 5) :: gc_o 6 (F 6) :: gc_w (F 6) :: gc_c (F 6) :: gc_o 7 (F 7) :: gc_w (F 7) :: gc_c (F 7) ::
  gc_o 8 (F 8) :: gc_w (F 8) :: gc_c (F 8) :: gc_o 9 (F 9) :: gc_w (F 9) :: gc_c (F 9) :: gc_o 10 (F 10) :: gc_w (F 10) :: gc_c (F 10) :: gc_o 11 (F 11) :: gc_w (F 11) :: gc_c (F 11) ::
  .inl (0, n / 16 + 1, fun i => nI (tk i)) :: .inl (0, n / 4 + 1, tn) :: tl
theorem gc_byte {μ : Nat → Nat} {j : Nat} {v : Int32} : upd (fun i => sb_b (μ i)) j v.toInt8.toInt32 = fun i => sb_b (va_up μ j (ga_lo v) i) := by
  funext i
  unfold upd va_up
  by_cases h : i = j
  · simp [h, ga_i8]
  · simp [h]
theorem gm_byte {μ : Nat → Nat} {j c : Nat} : upd (fun i => nI (μ i)) j (nI c) = fun i => nI (va_up μ j c i) := by
  funext i
  unfold upd va_up
  by_cases h : i = j <;> simp [h]
theorem va_up_lt {μ : Nat → Nat} {j c : Nat} (h : ∀ i, μ i < 256) (hc : c < 256) : ∀ i, va_up μ j c i < 256 := fun i => by
  unfold va_up
  split
  · exact hc
  · exact h i
theorem ga_wr_lt {a : Nat} : ∀ {w : Nat} {μ : Nat → Nat} {v : Int32}, (∀ i, μ i < 256) → ∀ i, ga_wr μ a w v i < 256
  | 0, _, _, h => h
  | w + 1, μ, v, h => by
    unfold ga_wr
    exact ga_wr_lt (va_up_lt h (ga_lo_lt v))
theorem ga_z_lt {μ : Nat → Nat} {a m : Nat} (h : ∀ i, μ i < 256) : ∀ i, ga_z μ a m i < 256 := fun i => by
  unfold ga_z
  split
  · decide
  · exact h i
theorem ga_z_0 {μ : Nat → Nat} {a : Nat} : ga_z μ a 0 = μ := by
  funext i
  unfold ga_z
  rw [if_neg (by omega)]
theorem ga_z_s {μ : Nat → Nat} {a m : Nat} : va_up (ga_z μ a m) (a + m) 0 = ga_z μ a (m + 1) := by
  funext i
  unfold ga_z va_up
  by_cases h : i = a + m
  · subst h; simp
  · by_cases h2 : a ≤ i ∧ i < a + m
    · simp [h, h2, show i < a + (m + 1) by omega]
    · simp [h, h2, show ¬ (a ≤ i ∧ i < a + (m + 1)) by omega]
theorem ga_wr_up {a : Nat} : ∀ {w : Nat} {μ : Nat → Nat} {v : Int32} {j c : Nat}, a + w ≤ j → ga_wr (va_up μ j c) a w v = va_up (ga_wr μ a w v) j c
  | 0, _, _, _, _, _ => rfl
  | w + 1, μ, v, j, c, h => by
    unfold ga_wr
    have e : va_up (va_up μ j c) (a + w) (ga_lo v) = va_up (va_up μ (a + w) (ga_lo v)) j c := by
      funext i
      unfold va_up
      by_cases h1 : i = a + w
      · have : ¬ i = j := by omega
        simp [h1]; omega
      · simp [h1]
    rw [e]
    exact ga_wr_up (by omega)
/-- what is written over doesn't matter -/
theorem ga_wr_cong {a : Nat} : ∀ {w : Nat} {μ ν : Nat → Nat} {v : Int32}, (∀ i, (i < a ∨ a + w ≤ i) → μ i = ν i) → ga_wr μ a w v = ga_wr ν a w v
  | 0, μ, ν, _, h => funext fun i => h i (by omega)
  | w + 1, μ, ν, v, h => by
    unfold ga_wr
    refine ga_wr_cong fun i hi => ?_
    unfold va_up
    by_cases h1 : i = a + w
    · simp [h1]
    · simp only [h1, if_false]
      exact h i (by omega)
theorem ga_wr_z {μ : Nat → Nat} {a w : Nat} {v : Int32} : ga_wr (ga_z μ a w) a w v = ga_wr μ a w v := ga_wr_cong fun i hi => by
  unfold ga_z
  rw [if_neg (by omega)]
/-- a place that isn't written stays -/
theorem ga_wr_out {a : Nat} : ∀ {w : Nat} {μ : Nat → Nat} {v : Int32} {i : Nat}, (i < a ∨ a + w ≤ i) → ga_wr μ a w v i = μ i
  | 0, _, _, _, _ => rfl
  | w + 1, μ, v, i, h => by
    unfold ga_wr
    rw [ga_wr_out (by omega)]
    unfold va_up
    rw [if_neg (by omega)]
theorem ga_rd_cong {a : Nat} : ∀ {w : Nat} {μ ν : Nat → Nat}, (∀ i, a ≤ i → i < a + w → μ i = ν i) → ga_rd μ a w = ga_rd ν a w
  | 0, _, _, _ => rfl
  | w + 1, μ, ν, h => by
    unfold ga_rd
    rw [ga_rd_cong (w := w) fun i h1 h2 => h i h1 (by omega), h (a + w) (by omega) (by omega)]
theorem ga_lo_sb : ∀ c, c < 256 → ga_lo (sb_b c) = c := by decide +kernel
theorem ga_lo_i8 (v : Int32) : ga_lo v.toInt8.toInt32 = ga_lo v := by rw [ga_i8, ga_lo_sb _ (ga_lo_lt v)]
theorem gc_byte2 {μ : Nat → Nat} {j : Nat} {v : Int32} : upd (fun i => sb_b (μ i)) j v.toInt8.toInt32.toInt8.toInt32 = fun i => sb_b (va_up μ j (ga_lo v) i) := by
  rw [gc_byte, ga_lo_i8]
end
section
/-! The class Row. -/
section GCR
variable {LL : Nat} {xs : Nat → Int32} {d : Nat} {n : Nat} {μ : Nat → Nat} {sp : Nat} {fo : Option Nat} {pc lp : Int32} {cl : Nat → Int32} {tk : Nat → Nat} {tc : Nat} {F : Nat → ga_F} {tn : Nat → Int32} {tl : gx_H}
theorem k_R_size : gx_call LL xs (d + 1) z_R_size 0 0 [.ref 3] (gc_h n μ sp fo pc lp cl tk tc F tn tl) (fun r h => r = some (.int (nI n)) ∧ h = (gc_h n μ sp fo pc lp cl tk tc F tn tl)) :=
  gs_R_size _ (gx_run 4 (And.intro rfl rfl))
theorem k_R_end : gx_call LL xs (d + 1) z_R_end 0 0 [.ref 3] (gc_h n μ sp fo pc lp cl tk tc F tn tl) (fun r h => r = some (.int (nI sp)) ∧ h = (gc_h n μ sp fo pc lp cl tk tc F tn tl)) :=
  gs_R_end _ (gx_run 3 (And.intro rfl rfl))
theorem k_R_reaches (x : Int32) : gx_call LL xs (d + 1) z_R_reaches 0 0 [.ref 3, .int x] (gc_h n μ sp fo pc lp cl tk tc F tn tl) (fun r h => r = some (.int (if nI n < x then nI 0 else nI 1)) ∧ h = (gc_h n μ sp fo pc lp cl tk tc F tn tl)) := by
  refine gs_R_reaches _ _ (gx_run 5 (And.intro (fun c => gx_run 2 (And.intro (Or.inl rfl) (And.intro ?_ rfl))) (fun c => gx_run 3 (And.intro (Or.inr rfl) (And.intro ?_ rfl)))))
  · rw [if_pos c]
  · rw [if_neg c]
theorem k_R_byteOrZero {j : Nat} (hj : j < n) (hn : n < 2147483648) (hμ : ∀ i, μ i < 256) : gx_call LL xs (d + 1) z_R_byteOrZero 0 0 [.ref 3, .int (nI j)] (gc_h n μ sp fo pc lp cl tk tc F tn tl) (fun r h => r = some (.int (nI (μ j))) ∧ h = (gc_h n μ sp fo pc lp cl tk tc F tn tl)) := by
  refine gs_R_byteOrZero _ _ (gx_run 2 (And.intro (fun c => absurd c (nI_pos (by omega))) (fun _ => gx_run 5 (And.intro (fun c => absurd c (nI_ge hj (by omega))) (fun _ => gx_run 8 (gx_ar j rfl hj hn (And.intro ?_ rfl)))))))
  rw [ga_sb (hμ j)]
theorem k_R_setByte {j : Nat} {v : Int32} (hj : j < n) (hn : n < 2147483648) : gx_call LL xs (d + 1) z_R_setByte 0 0 [.ref 3, .int (nI j), .int v] (gc_h n μ sp fo pc lp cl tk tc F tn tl) (fun r h => r = none ∧ h = (gc_h n (va_up μ j (ga_lo v)) sp fo pc lp cl tk tc F tn tl)) := by
  refine gs_R_setByte _ _ _ (gx_run 2 (And.intro (fun c => absurd c (nI_pos (by omega))) (fun _ => gx_run 5 (And.intro (fun c => absurd c (nI_ge hj (by omega))) (fun _ => gx_run 7 (gx_ar j rfl hj hn (And.intro rfl ?_)))))))
  rw [gc_byte2]
  rfl
theorem k_R_number_l {a w : Nat} (hw : a + w ≤ n) (hn : n < 2147483648) (hμ : ∀ i, μ i < 256) : ∀ (m k : Nat), k + m = w →
    gx_E LL xs (gx_call LL xs (d + 1)) cd_R_number (fun r h => r = some (.int (ga_rd μ a w)) ∧ h = (gc_h n μ sp fo pc lp cl tk tc F tn tl)) 4 [some (.ref 3), some (.int (nI a)), some (.int (nI w)), some (.int (ga_rd μ a k)), some (.int (nI k))] [] (gc_h n μ sp fo pc lp cl tk tc F tn tl) 0 0 := by
  intro m
  induction m with
  | zero =>
    intro k hk
    obtain rfl : k = w := by omega
    exact gx_run 3 (And.intro (fun _ => gx_run 2 (And.intro rfl rfl)) (fun c => absurd (nI_le (Nat.le_refl k) (by omega)) c))
  | succ m ih =>
    intro k hk
    refine gx_run 3 (And.intro (fun c => absurd c (nI_ge (show k < w by omega) (by omega))) (fun _ => gx_run 12 (And.intro ⟨_, rfl⟩ (gx_c1 (gx_le8 rfl) (by rw [nI_add]; exact k_R_byteOrZero (by omega) hn hμ) ?_))))
    have h9 := ih (k + 1) (by omega)
    rw [← nI_add k 1] at h9
    exact h9
theorem k_R_number {a w : Nat} (hw : a + w ≤ n) (hn : n < 2147483648) (hμ : ∀ i, μ i < 256) : gx_call LL xs (d + 2) z_R_number 0 0 [.ref 3, .int (nI a), .int (nI w)] (gc_h n μ sp fo pc lp cl tk tc F tn tl) (fun r h => r = some (.int (ga_rd μ a w)) ∧ h = (gc_h n μ sp fo pc lp cl tk tc F tn tl)) :=
  gs_R_number _ _ _ (gx_run 4 (k_R_number_l hw hn hμ w 0 (Nat.zero_add w)))
theorem k_R_set_l {a w : Nat} (hw : a + w ≤ n) (hn : n < 2147483648) : ∀ (k : Nat) (μ : Nat → Nat) (v : Int32) (w0 v0 : Int32) , k ≤ w →
    gx_E LL xs (gx_call LL xs (d + 1)) cd_R_set (fun r h => r = none ∧ h = (gc_h n (ga_wr μ a k v) sp fo pc lp cl tk tc F tn tl)) 6 [some (.ref 3), some (.int (nI a)), some (.int w0), some (.int v0), some (.int v), some (.int (nI k - nI 1))] [] (gc_h n μ sp fo pc lp cl tk tc F tn tl) 0 0 := by
  intro k
  induction k with
  | zero =>
    intro μ v w0 v0 hk
    exact gx_run 2 (And.intro (fun _ => gx_run 1 (And.intro rfl rfl)) (fun c => absurd (by decide) c))
  | succ k ih =>
    intro μ v w0 v0 hk
    have e1 : nI (k + 1) - nI 1 = nI k := pk_sub (Nat.le_add_left 1 k)
    rw [e1]
    refine gx_run 2 (And.intro (fun c => absurd c (nI_pos (by omega))) (fun _ => gx_run 12 (And.intro ⟨_, rfl⟩ (gx_c1 (gx_le8 rfl) (by rw [nI_add]; exact k_R_setByte (by omega) hn) ?_))))
    exact ih (va_up μ (a + k) (ga_lo v)) (v >>> (nI 8 &&& 31)) w0 v0 (by omega)
theorem k_R_set {a w : Nat} {v : Int32} (hw : a + w ≤ n) (hn : n < 2147483648) : gx_call LL xs (d + 2) z_R_set 0 0 [.ref 3, .int (nI a), .int (nI w), .int v] (gc_h n μ sp fo pc lp cl tk tc F tn tl) (fun r h => r = none ∧ h = (gc_h n (ga_wr μ a w v) sp fo pc lp cl tk tc F tn tl)) :=
  gs_R_set _ _ _ _ (gx_run 6 (k_R_set_l hw hn w μ v _ _ (Nat.le_refl w)))
theorem k_R_appendZeros_l {m : Nat} (hw : sp + m ≤ n) (hn : n < 2147483648) : ∀ (q k : Nat), k + q = m →
    gx_E LL xs (gx_call LL xs (d + 1)) cd_R_appendZeros (fun r h => r = none ∧ h = (gc_h n (ga_z μ sp m) (sp + m) fo pc lp cl tk tc F tn tl)) 2 [some (.ref 3), some (.int (nI m)), some (.int (nI k))] [] (gc_h n (ga_z μ sp k) (sp + k) fo pc lp cl tk tc F tn tl) 0 0 := by
  intro q
  induction q with
  | zero =>
    intro k hk
    obtain rfl : k = m := by omega
    exact gx_run 3 (And.intro (fun _ => gx_run 1 (And.intro rfl rfl)) (fun c => absurd (nI_le (Nat.le_refl k) (by omega)) c))
  | succ q ih =>
    intro k hk
    refine gx_run 3 (And.intro (fun c => absurd c (nI_ge (show k < m by omega) (by omega))) (fun _ => gx_run 6 (And.intro (fun c => absurd c (nI_ge (show sp + k < n by omega) (by omega))) (fun _ => gx_run 13 (And.intro ⟨_, rfl⟩ (gx_c1 (gx_le8 rfl) (k_R_setByte (show sp + k < n by omega) hn) ?_))))))
    have h9 := ih (k + 1) (by omega)
    rw [← ga_z_s, ← nI_add k 1, ← Nat.add_assoc] at h9
    have h8 : (gc_h n (va_up (ga_z μ sp k) (sp + k) (ga_lo (nI 0))) (sp + k) fo pc lp cl tk tc F tn tl).set 3 (.inr (.inr (1, [.ref 4, .int (nI (sp + k) + nI 1)]))) = (gc_h n (va_up (ga_z μ sp k) (sp + k) 0) (sp + k + 1) fo pc lp cl tk tc F tn tl) := by
      rw [nI_add]
      rfl
    rw [← h8] at h9
    exact h9
theorem k_R_appendZeros {m : Nat} (hw : sp + m ≤ n) (hn : n < 2147483648) : gx_call LL xs (d + 2) z_R_appendZeros 0 0 [.ref 3, .int (nI m)] (gc_h n μ sp fo pc lp cl tk tc F tn tl) (fun r h => r = none ∧ h = (gc_h n (ga_z μ sp m) (sp + m) fo pc lp cl tk tc F tn tl)) := by
  have h9 := k_R_appendZeros_l (LL := LL) (xs := xs) (d := d) (n := n) (μ := μ) (sp := sp) (fo := fo) (pc := pc) (lp := lp) (cl := cl) (tk := tk) (tc := tc) (F := F) (tn := tn) (tl := tl) hw hn m 0 (Nat.zero_add m)
  rw [ga_z_0] at h9
  exact gs_R_appendZeros _ _ (gx_run 2 h9)
theorem k_R_append {v : Int32} (hw : sp + 4 ≤ n) (hn : n < 2147483648) : gx_call LL xs (d + 3) z_R_append 0 0 [.ref 3, .int v] (gc_h n μ sp fo pc lp cl tk tc F tn tl) (fun r h => r = none ∧ h = (gc_h n (ga_wr μ sp 4 v) (sp + 4) fo pc lp cl tk tc F tn tl)) := by
  refine gs_R_append _ _ (gx_run 12 (And.intro ⟨_, rfl⟩ (gx_c1 (gx_le8 rfl) (k_R_appendZeros hw hn) (And.intro ⟨_, rfl⟩ (gx_c1 (gx_le8 rfl) (k_R_set hw hn) (And.intro rfl ?_))))))
  rw [ga_wr_z]
theorem k_R_cutTo {p : Nat} (hp : p ≤ sp) (hs : sp < 2147483648) : gx_call LL xs (d + 1) z_R_cutTo 0 0 [.ref 3, .int (nI p)] (gc_h n μ sp fo pc lp cl tk tc F tn tl) (fun r h => r = none ∧ h = (gc_h n μ p fo pc lp cl tk tc F tn tl)) :=
  gs_R_cutTo _ _ (gx_run 2 (And.intro (fun c => absurd c (nI_pos (by omega))) (fun _ => gx_run 4 (And.intro (fun c => absurd c (nI_nlt hp (by omega))) (fun _ => gx_run 4 (And.intro rfl rfl))))))
end GCR
end
section
/-! The class Function, at any of its twelve places. -/
section GXS
variable {LL : Nat} {xs : Nat → Int32} {CALL : gx_C} {cd : List gx_T} {Q : gx_Q} {i pc a b c : Nat} {ts : List Nat} {L : gx_L} {r : List Value} {h : gx_H} {cb sb q : Nat}
/-- one instruction at a cell that is known by a fact -/
theorem gx_getf {ix : Nat} {fs : List Value} {v : Value} (hcd : cd[i]? = some (pc, .getfield ix, a, b, c, ts)) (hq : h[q]? = some (.inr (.inr (a, fs)))) (hv : fs[b]? = some v) (k : gx_E LL xs CALL cd Q (i + 1) L (v :: r) h cb sb) : gx_E LL xs CALL cd Q i L (.ref q :: r) h cb sb := by
  refine gx_fold (k := gx_E LL xs CALL cd Q) (fun _ _ _ _ _ _ h => h) ?_
  unfold gx_1
  rw [hcd]
  show gx_ob h q a _
  unfold gx_ob
  rw [hq]
  dsimp only
  rw [Nat.beq_refl]
  dsimp only
  unfold gx_fd
  rw [hv]
  exact k
theorem gx_putf {ix : Nat} {fs : List Value} {v v0 : Value} (hcd : cd[i]? = some (pc, .putfield ix, a, b, c, ts)) (hq : h[q]? = some (.inr (.inr (a, fs)))) (hv : fs[b]? = some v0) (hk : ∀ P : Prop, P → gx_kd c v P) (k : gx_E LL xs CALL cd Q (i + 1) L r (h.set q (.inr (.inr (a, fs.set b v)))) cb sb) : gx_E LL xs CALL cd Q i L (v :: .ref q :: r) h cb sb := by
  refine gx_fold (k := gx_E LL xs CALL cd Q) (fun _ _ _ _ _ _ h => h) ?_
  unfold gx_1
  rw [hcd]
  show gx_ob h q a _
  unfold gx_ob
  rw [hq]
  dsimp only
  rw [Nat.beq_refl]
  dsimp only
  unfold gx_fd
  rw [hv]
  exact hk _ k
theorem gx_iald {n j : Nat} {g : Nat → Int32} {x : Int32} (hcd : cd[i]? = some (pc, .iaload, a, b, c, ts)) (hq : h[q]? = some (.inl (0, n, g))) (hx : x = nI j) (hj : j < n) (hn : n < 2147483648) (k : gx_E LL xs CALL cd Q (i + 1) L (.int (g j) :: r) h cb sb) : gx_E LL xs CALL cd Q i L (.int x :: .ref q :: r) h cb sb := by
  refine gx_fold (k := gx_E LL xs CALL cd Q) (fun _ _ _ _ _ _ h => h) ?_
  unfold gx_1
  rw [hcd]
  show gx_a0 h q _
  unfold gx_a0
  rw [hq]
  exact ⟨j, hx, hj, hn, k⟩
theorem gx_iast {n j : Nat} {g : Nat → Int32} {x v : Int32} (hcd : cd[i]? = some (pc, .iastore, a, b, c, ts)) (hq : h[q]? = some (.inl (0, n, g))) (hx : x = nI j) (hj : j < n) (hn : n < 2147483648) (k : gx_E LL xs CALL cd Q (i + 1) L r (h.set q (.inl (0, n, upd g j v))) cb sb) : gx_E LL xs CALL cd Q i L (.int v :: .int x :: .ref q :: r) h cb sb := by
  refine gx_fold (k := gx_E LL xs CALL cd Q) (fun _ _ _ _ _ _ h => h) ?_
  unfold gx_1
  rw [hcd]
  show gx_a0 h q _
  unfold gx_a0
  rw [hq]
  exact ⟨j, hx, hj, hn, k⟩
end GXS
theorem ga_12 {P : Nat → Prop} (h0 : P 0) (h1 : P 1) (h2 : P 2) (h3 : P 3) (h4 : P 4) (h5 : P 5) (h6 : P 6) (h7 : P 7) (h8 : P 8) (h9 : P 9) (h10 : P 10) (h11 : P 11) {k : Nat} (hk : k < 12) : P k := by
  match k, hk with
  | 0, _ => exact h0
  | 1, _ => exact h1
  | 2, _ => exact h2
  | 3, _ => exact h3
  | 4, _ => exact h4
  | 5, _ => exact h5
  | 6, _ => exact h6
  | 7, _ => exact h7
  | 8, _ => exact h8
  | 9, _ => exact h9
  | 10, _ => exact h10
  | 11, _ => exact h11
/-! numbers (nx_and: from kit/laws/BITS) -/
theorem nx_and (a b : Nat) : nI a &&& nI b = nI (a &&& b) := by
  apply Int32.toBitVec_inj.1
  show BitVec.ofNat 32 a &&& BitVec.ofNat 32 b = BitVec.ofNat 32 (a &&& b)
  apply BitVec.eq_of_getLsbD_eq
  intro i hi
  simp [hi]
def ga_up (u x : Nat) : Nat := (x + u - 1) / u * u
theorem ga_up_ge {u x : Nat} (hu : 0 < u) : x ≤ ga_up u x := by
  unfold ga_up
  have h1 := Nat.div_add_mod (x + u - 1) u
  have h2 := Nat.mod_lt (x + u - 1) hu
  have h3 : (x + u - 1) / u * u = u * ((x + u - 1) / u) := Nat.mul_comm _ _
  omega
theorem ga_up_lt {u x : Nat} (hu : 0 < u) : ga_up u x < x + u := by
  unfold ga_up
  have h1 := Nat.div_add_mod (x + u - 1) u
  have h3 : (x + u - 1) / u * u = u * ((x + u - 1) / u) := Nat.mul_comm _ _
  omega
theorem ga_mask {y c s : Nat} (hy : y < 2 ^ 32) (hc : ∀ i : Fin 32, c.testBit i.val = decide (s ≤ i.val)) : y &&& c = y / 2 ^ s * 2 ^ s := by
  rw [← Nat.shiftRight_eq_div_pow, ← Nat.shiftLeft_eq]
  apply Nat.eq_of_testBit_eq
  intro i
  rw [Nat.testBit_and, Nat.testBit_shiftLeft, Nat.testBit_shiftRight]
  by_cases h : i < 32
  · rw [hc ⟨i, h⟩]
    by_cases h2 : s ≤ i
    · simp [h2, show s + (i - s) = i by omega]
    · simp [h2]
  · have hb : y.testBit i = false := Nat.testBit_lt_two_pow (Nat.lt_of_lt_of_le hy (Nat.pow_le_pow_right (by decide) (by omega)))
    by_cases h2 : s ≤ i
    · simp [hb, h2, show s + (i - s) = i by omega]
    · simp [hb, h2]
theorem ga_up_i {u x : Nat} (hu : u = 1 ∨ u = 2 ∨ u = 4) (hx : x < 2 ^ 30) : (nI x + nI u - nI 1) &&& -(nI u) = nI (ga_up u x) := by
  have e0 : nI x + nI u - nI 1 = nI (x + u - 1) := by rw [nI_add]; exact pk_sub (by omega)
  rw [e0]
  rcases hu with rfl | rfl | rfl
  · rw [show -(nI 1) = nI 4294967295 by decide, nx_and, ga_mask (s := 0) (by omega) (by decide)]; rfl
  · rw [show -(nI 2) = nI 4294967294 by decide, nx_and, ga_mask (s := 1) (by omega) (by decide)]; rfl
  · rw [show -(nI 4) = nI 4294967292 by decide, nx_and, ga_mask (s := 2) (by omega) (by decide)]; rfl
/-- how many locals the first p pairs have -/
def ga_lc (ct : Nat → Nat) : Nat → Nat
  | 0 => 0
  | p + 1 => ga_lc ct p + ct p
/-- where the pairs' locals end -/
def ga_fl (wd ct : Nat → Nat) (i : Nat) : Nat → Nat → Nat
  | 0, at_ => at_
  | m + 1, at_ => ga_fl wd ct (i + 1) m (ga_up (wd i) at_ + ct i * wd i)
/-- where a local is; none: there is none -/
def ga_pl (wd ct : Nat → Nat) (i : Nat) : Nat → Nat → Nat → Option Nat
  | 0, _, _ => none
  | m + 1, at_, left => if left < ct i then some (ga_up (wd i) at_ + left * wd i) else ga_pl wd ct (i + 1) m (ga_up (wd i) at_ + ct i * wd i) (left - ct i)
/-- a function's pairs are as told -/
def ga_wf (f : ga_F) : Prop := f.1 ≤ 255 ∧ f.2.1 ≤ 3 ∧ f.2.2.1 ≤ 6 ∧ ∀ i, i < f.2.2.1 → (f.2.2.2.1 i = 1 ∨ f.2.2.2.1 i = 2 ∨ f.2.2.2.1 i = 4) ∧ 1 ≤ f.2.2.2.2 i ∧ f.2.2.2.2 i ≤ 255
def ga_lb (f : ga_F) : Nat := ga_up 4 (10 + 2 * f.2.2.1)
def ga_len (f : ga_F) : Nat := ga_up 4 (ga_fl f.2.2.2.1 f.2.2.2.2 0 f.2.2.1 (ga_lb f))
theorem ga_mul_le {w c : Nat} (hw : w = 1 ∨ w = 2 ∨ w = 4) (hc : c ≤ 255) : c * w ≤ 1020 := by rcases hw with rfl | rfl | rfl <;> omega
theorem ga_fl_ge {wd ct : Nat → Nat} : ∀ {m i at_ : Nat}, (∀ j, i ≤ j → j < i + m → (wd j = 1 ∨ wd j = 2 ∨ wd j = 4)) → at_ ≤ ga_fl wd ct i m at_
  | 0, _, _, _ => Nat.le_refl _
  | m + 1, i, at_, h => by
    unfold ga_fl
    have h0 : 0 < wd i := by have := h i (Nat.le_refl _) (by omega); omega
    have h1 := ga_up_ge (u := wd i) (x := at_) h0
    have h2 := ga_fl_ge (wd := wd) (ct := ct) (m := m) (i := i + 1) (at_ := ga_up (wd i) at_ + ct i * wd i) (fun j h1 h2 => h j (by omega) (by omega))
    omega
theorem ga_fl_le {wd ct : Nat → Nat} : ∀ {m i at_ : Nat}, (∀ j, i ≤ j → j < i + m → (wd j = 1 ∨ wd j = 2 ∨ wd j = 4) ∧ ct j ≤ 255) → ga_fl wd ct i m at_ ≤ at_ + m * 1024
  | 0, _, _, _ => by unfold ga_fl; omega
  | m + 1, i, at_, h => by
    unfold ga_fl
    have hi := h i (Nat.le_refl _) (by omega)
    have h0 : 0 < wd i := by omega
    have h1 := ga_up_lt (u := wd i) (x := at_) h0
    have h3 := ga_mul_le hi.1 hi.2
    have h2 := ga_fl_le (wd := wd) (ct := ct) (m := m) (i := i + 1) (at_ := ga_up (wd i) at_ + ct i * wd i) (fun j h1 h2 => h j (by omega) (by omega))
    have h4 : wd i ≤ 4 := by omega
    omega
section GCF
variable {LL : Nat} {xs : Nat → Int32} {d : Nat} {n : Nat} {μ : Nat → Nat} {sp : Nat} {fo : Option Nat} {pc lp : Int32} {cl : Nat → Int32} {tk : Nat → Nat} {tc : Nat} {F : Nat → ga_F} {tn : Nat → Int32} {tl : gx_H} {k : Nat}
theorem gc_at_o (hk : k < 12) : (gc_h n μ sp fo pc lp cl tk tc F tn tl)[5 + 3 * k]? = some (gc_o k (F k)) := by
  refine ga_12 (P := fun k => (gc_h n μ sp fo pc lp cl tk tc F tn tl)[5 + 3 * k]? = some (gc_o k (F k))) ?_ ?_ ?_ ?_ ?_ ?_ ?_ ?_ ?_ ?_ ?_ ?_ hk <;> rfl
theorem gc_at_w (hk : k < 12) : (gc_h n μ sp fo pc lp cl tk tc F tn tl)[6 + 3 * k]? = some (gc_w (F k)) := by
  refine ga_12 (P := fun k => (gc_h n μ sp fo pc lp cl tk tc F tn tl)[6 + 3 * k]? = some (gc_w (F k))) ?_ ?_ ?_ ?_ ?_ ?_ ?_ ?_ ?_ ?_ ?_ ?_ hk <;> rfl
theorem gc_at_c (hk : k < 12) : (gc_h n μ sp fo pc lp cl tk tc F tn tl)[7 + 3 * k]? = some (gc_c (F k)) := by
  refine ga_12 (P := fun k => (gc_h n μ sp fo pc lp cl tk tc F tn tl)[7 + 3 * k]? = some (gc_c (F k))) ?_ ?_ ?_ ?_ ?_ ?_ ?_ ?_ ?_ ?_ ?_ ?_ hk <;> rfl
theorem gc_set_o (hk : k < 12) (a b c : Nat) : (gc_h n μ sp fo pc lp cl tk tc F tn tl).set (5 + 3 * k) (gc_o k (a, b, c, (F k).2.2.2.1, (F k).2.2.2.2)) = (gc_h n μ sp fo pc lp cl tk tc (va_up F k (a, b, c, (F k).2.2.2.1, (F k).2.2.2.2)) tn tl) := by
  refine ga_12 (P := fun k => (gc_h n μ sp fo pc lp cl tk tc F tn tl).set (5 + 3 * k) (gc_o k (a, b, c, (F k).2.2.2.1, (F k).2.2.2.2)) = (gc_h n μ sp fo pc lp cl tk tc (va_up F k (a, b, c, (F k).2.2.2.1, (F k).2.2.2.2)) tn tl)) ?_ ?_ ?_ ?_ ?_ ?_ ?_ ?_ ?_ ?_ ?_ ?_ hk <;> rfl
theorem gc_set_w (hk : k < 12) (w : Nat → Nat) : (gc_h n μ sp fo pc lp cl tk tc F tn tl).set (6 + 3 * k) (.inl (0, 6, fun i => nI (w i))) = (gc_h n μ sp fo pc lp cl tk tc (va_up F k ((F k).1, (F k).2.1, (F k).2.2.1, w, (F k).2.2.2.2)) tn tl) := by
  refine ga_12 (P := fun k => (gc_h n μ sp fo pc lp cl tk tc F tn tl).set (6 + 3 * k) (.inl (0, 6, fun i => nI (w i))) = (gc_h n μ sp fo pc lp cl tk tc (va_up F k ((F k).1, (F k).2.1, (F k).2.2.1, w, (F k).2.2.2.2)) tn tl)) ?_ ?_ ?_ ?_ ?_ ?_ ?_ ?_ ?_ ?_ ?_ ?_ hk <;> rfl
theorem gc_set_c (hk : k < 12) (w : Nat → Nat) : (gc_h n μ sp fo pc lp cl tk tc F tn tl).set (7 + 3 * k) (.inl (0, 6, fun i => nI (w i))) = (gc_h n μ sp fo pc lp cl tk tc (va_up F k ((F k).1, (F k).2.1, (F k).2.2.1, (F k).2.2.2.1, w)) tn tl) := by
  refine ga_12 (P := fun k => (gc_h n μ sp fo pc lp cl tk tc F tn tl).set (7 + 3 * k) (.inl (0, 6, fun i => nI (w i))) = (gc_h n μ sp fo pc lp cl tk tc (va_up F k ((F k).1, (F k).2.1, (F k).2.2.1, (F k).2.2.2.1, w)) tn tl)) ?_ ?_ ?_ ?_ ?_ ?_ ?_ ?_ ?_ ?_ ?_ ?_ hk <;> rfl
theorem k_F_upTo {u x : Nat} {h : gx_H} (hu : u = 1 ∨ u = 2 ∨ u = 4) (hx : x < 2 ^ 30) : gx_call LL xs (d + 1) z_F_upTo 0 0 [.int (nI u), .int (nI x)] h (fun r h' => r = some (.int (nI (ga_up u x))) ∧ h' = h) := by
  refine gs_F_upTo _ _ (gx_run 9 (And.intro ?_ rfl))
  rw [ga_up_i hu hx]
theorem k_F_widthOfPair (hk : k < 12) {j : Nat} (hj : j < 6) : gx_call LL xs (d + 1) z_F_widthOfPair 0 0 [.ref (5 + 3 * k), .int (nI j)] (gc_h n μ sp fo pc lp cl tk tc F tn tl) (fun r h => r = some (.int (nI ((F k).2.2.2.1 j))) ∧ h = (gc_h n μ sp fo pc lp cl tk tc F tn tl)) := by
  refine gs_F_widthOfPair _ _ (gx_run 2 (And.intro (fun c => absurd c (nI_pos (by omega))) (fun _ => gx_run 3 (And.intro (fun c => absurd c (nI_ge hj (by omega))) (fun _ => gx_run 1 ?_)))))
  refine gx_getf rfl (gc_at_o hk) rfl (gx_run 1 (gx_iald rfl (gc_at_w hk) rfl hj (by omega) (gx_run 2 (And.intro rfl rfl))))
theorem k_F_countOfPair (hk : k < 12) {j : Nat} (hj : j < 6) : gx_call LL xs (d + 1) z_F_countOfPair 0 0 [.ref (5 + 3 * k), .int (nI j)] (gc_h n μ sp fo pc lp cl tk tc F tn tl) (fun r h => r = some (.int (nI ((F k).2.2.2.2 j))) ∧ h = (gc_h n μ sp fo pc lp cl tk tc F tn tl)) := by
  refine gs_F_countOfPair _ _ (gx_run 2 (And.intro (fun c => absurd c (nI_pos (by omega))) (fun _ => gx_run 3 (And.intro (fun c => absurd c (nI_ge hj (by omega))) (fun _ => gx_run 1 ?_)))))
  refine gx_getf rfl (gc_at_o hk) rfl (gx_run 1 (gx_iald rfl (gc_at_c hk) rfl hj (by omega) (gx_run 2 (And.intro rfl rfl))))
theorem k_F_isAccelerated (hk : k < 12) (hf : (F k).2.1 ≤ 3) : gx_call LL xs (d + 1) z_F_isAccelerated 0 0 [.ref (5 + 3 * k)] (gc_h n μ sp fo pc lp cl tk tc F tn tl) (fun r h => r = some (.int (if (F k).2.1 = 0 then nI 0 else nI 1)) ∧ h = (gc_h n μ sp fo pc lp cl tk tc F tn tl)) := by
  have e : nI (F k).2.1 = 0 ↔ (F k).2.1 = 0 := by rw [← nI_0]; exact nI_eq (by omega) (by omega)
  refine gs_F_isAccelerated _ (gx_run 1 (gx_getf rfl (gc_at_o hk) rfl (gx_run 1 (And.intro (fun c => gx_run 2 (And.intro (Or.inl rfl) (And.intro ?_ rfl))) (fun c => gx_run 3 (And.intro (Or.inr rfl) (And.intro ?_ rfl)))))))
  · rw [if_pos (e.mp c)]
  · rw [if_neg (fun h => c (e.mpr h))]
theorem k_F_hasFrameHead (hk : k < 12) (hf : (F k).1 ≤ 255) : gx_call LL xs (d + 1) z_F_hasFrameHead 0 0 [.ref (5 + 3 * k)] (gc_h n μ sp fo pc lp cl tk tc F tn tl) (fun r h => r = some (.int (if (F k).1 = 192 ∨ (F k).1 = 193 then nI 1 else nI 0)) ∧ h = (gc_h n μ sp fo pc lp cl tk tc F tn tl)) := by
  have e : ∀ c : Nat, c ≤ 255 → (nI (F k).1 = nI c ↔ (F k).1 = c) := fun c hc => nI_eq (by omega) (by omega)
  refine gs_F_hasFrameHead _ (gx_run 1 (gx_getf rfl (gc_at_o hk) rfl (gx_run 2 (And.intro (fun c => gx_run 3 (And.intro (Or.inr rfl) (And.intro ?_ rfl))) (fun c1 => gx_run 1 (gx_getf rfl (gc_at_o hk) rfl (gx_run 2 (And.intro (fun c => gx_run 2 (And.intro (Or.inl rfl) (And.intro ?_ rfl))) (fun c => gx_run 3 (And.intro (Or.inr rfl) (And.intro ?_ rfl)))))))))))
  · rw [if_pos (Or.inl ((e 192 (by omega)).mp c))]
  · rw [if_neg (fun h => h.elim (fun h => c1 ((e 192 (by omega)).mpr h)) (fun h => c ((e 193 (by omega)).mpr h)))]
  · rw [if_pos (Or.inr ((e 193 (by omega)).mp c))]
theorem k_F_takesPushed (hk : k < 12) (hf : (F k).1 ≤ 255) : gx_call LL xs (d + 1) z_F_takesPushed 0 0 [.ref (5 + 3 * k)] (gc_h n μ sp fo pc lp cl tk tc F tn tl) (fun r h => r = some (.int (if (F k).1 = 192 then nI 1 else nI 0)) ∧ h = (gc_h n μ sp fo pc lp cl tk tc F tn tl)) := by
  have e : nI (F k).1 = nI 192 ↔ (F k).1 = 192 := nI_eq (by omega) (by omega)
  refine gs_F_takesPushed _ (gx_run 1 (gx_getf rfl (gc_at_o hk) rfl (gx_run 2 (And.intro (fun c => gx_run 2 (And.intro (Or.inl rfl) (And.intro ?_ rfl))) (fun c => gx_run 3 (And.intro (Or.inr rfl) (And.intro ?_ rfl)))))))
  · rw [if_neg (fun h => c (e.mpr h))]
  · rw [if_pos (e.mp c)]
theorem k_F_begin (hk : k < 12) {hd : Nat} : gx_call LL xs (d + 1) z_F_begin 0 0 [.ref (5 + 3 * k), .int (nI hd)] (gc_h n μ sp fo pc lp cl tk tc F tn tl) (fun r h => r = none ∧ h = (gc_h n μ sp fo pc lp cl tk tc (va_up F k (hd, (F k).2.1, 0, (F k).2.2.2.1, (F k).2.2.2.2)) tn tl)) := by
  refine gs_F_begin _ _ (gx_run 2 (gx_putf rfl (gc_at_o hk) rfl (fun P hP => hP) ?_))
  have e1 := gc_set_o (n := n) (μ := μ) (sp := sp) (fo := fo) (pc := pc) (lp := lp) (cl := cl) (tk := tk) (tc := tc) (F := F) (tn := tn) (tl := tl) hk hd (F k).2.1 (F k).2.2.1
  refine gx_run 2 ?_
  show gx_E LL xs _ cd_F_begin _ 5 _ _ ((gc_h n μ sp fo pc lp cl tk tc F tn tl).set (5 + 3 * k) (gc_o k (hd, (F k).2.1, (F k).2.2.1, (F k).2.2.2.1, (F k).2.2.2.2))) 0 0
  rw [e1]
  refine gx_putf rfl (gc_at_o hk) rfl (fun P hP => hP) (gx_run 1 (And.intro rfl ?_))
  have e2 := gc_set_o (n := n) (μ := μ) (sp := sp) (fo := fo) (pc := pc) (lp := lp) (cl := cl) (tk := tk) (tc := tc) (F := va_up F k (hd, (F k).2.1, (F k).2.2.1, (F k).2.2.2.1, (F k).2.2.2.2)) (tn := tn) (tl := tl) hk hd (F k).2.1 0
  simp only [va_up_self, bx_uu] at e2 ⊢
  exact e2
theorem k_F_localCount_l (hk : k < 12) (hp : (F k).2.2.1 ≤ 6) : ∀ (m p : Nat), p + m = (F k).2.2.1 →
    gx_E LL xs (gx_call LL xs (d + 1)) cd_F_localCount (fun r h => r = some (.int (nI (ga_lc (F k).2.2.2.2 (F k).2.2.1))) ∧ h = (gc_h n μ sp fo pc lp cl tk tc F tn tl)) 4 [some (.ref (5 + 3 * k)), some (.int (nI (ga_lc (F k).2.2.2.2 p))), some (.int (nI p))] [] (gc_h n μ sp fo pc lp cl tk tc F tn tl) 0 0 := by
  intro m
  induction m with
  | zero =>
    intro p hm
    refine gx_run 2 (gx_getf rfl (gc_at_o hk) rfl (gx_run 1 (And.intro (fun _ => gx_run 2 (And.intro ?_ rfl)) (fun c => absurd (nI_le (show (F k).2.2.1 ≤ p by omega) (by omega)) c))))
    rw [show p = (F k).2.2.1 by omega]
  | succ m ih =>
    intro p hm
    refine gx_run 2 (gx_getf rfl (gc_at_o hk) rfl (gx_run 1 (And.intro (fun c => absurd c (nI_ge (show p < (F k).2.2.1 by omega) (by omega))) (fun _ => gx_run 8 (And.intro ⟨_, gc_at_o hk⟩ (gx_c1 (gx_le8 rfl) (k_F_countOfPair hk (by omega)) ?_))))))
    have h9 := ih (p + 1) (by omega)
    rw [show ga_lc (F k).2.2.2.2 (p + 1) = ga_lc (F k).2.2.2.2 p + (F k).2.2.2.2 p from rfl, ← nI_add, ← nI_add] at h9
    exact h9
theorem k_F_localCount (hk : k < 12) (hp : (F k).2.2.1 ≤ 6) : gx_call LL xs (d + 2) z_F_localCount 0 0 [.ref (5 + 3 * k)] (gc_h n μ sp fo pc lp cl tk tc F tn tl) (fun r h => r = some (.int (nI (ga_lc (F k).2.2.2.2 (F k).2.2.1))) ∧ h = (gc_h n μ sp fo pc lp cl tk tc F tn tl)) :=
  gs_F_localCount _ (gx_run 4 (k_F_localCount_l hk hp _ 0 (Nat.zero_add _)))
theorem k_F_localsBegin (hk : k < 12) (hp : (F k).2.2.1 ≤ 6) : gx_call LL xs (d + 2) z_F_localsBegin 0 0 [.ref (5 + 3 * k)] (gc_h n μ sp fo pc lp cl tk tc F tn tl) (fun r h => r = some (.int (nI (ga_lb (F k)))) ∧ h = (gc_h n μ sp fo pc lp cl tk tc F tn tl)) := by
  have hc : gx_call LL xs (d + 1) z_F_upTo 0 0 [.int (nI 4), .int (nI 8 + nI 2 * nI (F k).2.2.1 + nI 2)] (gc_h n μ sp fo pc lp cl tk tc F tn tl) (fun r h => r = some (.int (nI (ga_lb (F k)))) ∧ h = (gc_h n μ sp fo pc lp cl tk tc F tn tl)) := by
    rw [pk_mul, nI_add, nI_add, show 8 + 2 * (F k).2.2.1 + 2 = 10 + 2 * (F k).2.2.1 by omega]
    exact k_F_upTo (Or.inr (Or.inr rfl)) (by omega)
  exact gs_F_localsBegin _ (gx_run 4 (gx_getf rfl (gc_at_o hk) rfl (gx_run 7 (gx_c1 (gx_le8 rfl) hc (And.intro rfl rfl)))))
theorem k_F_frameLength_l (hk : k < 12) (hw : ga_wf (F k)) : ∀ (m p at_ : Nat) (w0 : Option Value), p + m = (F k).2.2.1 → at_ + m * 1024 ≤ 10000 →
    gx_E LL xs (gx_call LL xs (d + 2)) cd_F_frameLength (fun r h => r = some (.int (nI (ga_up 4 (ga_fl (F k).2.2.2.1 (F k).2.2.2.2 p m at_)))) ∧ h = (gc_h n μ sp fo pc lp cl tk tc F tn tl)) 5 [some (.ref (5 + 3 * k)), some (.int (nI at_)), some (.int (nI p)), w0] [] (gc_h n μ sp fo pc lp cl tk tc F tn tl) 0 0 := by
  obtain ⟨-, -, h6, hwf⟩ := hw
  intro m
  induction m with
  | zero =>
    intro p at_ w0 hm hb
    refine gx_run 2 (gx_getf rfl (gc_at_o hk) rfl (gx_run 1 (And.intro (fun _ => gx_run 4 (gx_c1 (gx_le8 rfl) (k_F_upTo (Or.inr (Or.inr rfl)) (by omega)) (And.intro rfl rfl))) (fun c => absurd (nI_le (show (F k).2.2.1 ≤ p by omega) (by omega)) c))))
  | succ m ih =>
    intro p at_ w0 hm hb
    have hpw := hwf p (by omega)
    have hm1 := ga_mul_le hpw.1 hpw.2.2
    have hu := ga_up_lt (u := (F k).2.2.2.1 p) (x := at_) (by omega)
    refine gx_run 2 (gx_getf rfl (gc_at_o hk) rfl (gx_run 1 (And.intro (fun c => absurd c (nI_ge (show p < (F k).2.2.1 by omega) (by omega))) (fun _ => gx_run 16 (And.intro ⟨_, gc_at_o hk⟩ (gx_c1 (gx_le8 rfl) (k_F_widthOfPair hk (by omega))
      (gx_c1 (gx_le8 rfl) (k_F_upTo hpw.1 (by omega)) (And.intro ⟨_, gc_at_o hk⟩ (gx_c1 (gx_le8 rfl) (k_F_countOfPair hk (by omega)) ?_)))))))))
    have h9 := ih (p + 1) (ga_up ((F k).2.2.2.1 p) at_ + (F k).2.2.2.2 p * (F k).2.2.2.1 p) (some (.int (nI ((F k).2.2.2.1 p)))) (by omega) (by omega)
    rw [← nI_add p 1, ← nI_add, ← pk_mul] at h9
    exact h9
theorem ga_lb_le {f : ga_F} (h : f.2.2.1 ≤ 6) : ga_lb f ≤ 28 := by
  unfold ga_lb
  have := ga_up_lt (u := 4) (x := 10 + 2 * f.2.2.1) (by decide)
  omega
theorem k_F_frameLength (hk : k < 12) (hw : ga_wf (F k)) : gx_call LL xs (d + 3) z_F_frameLength 0 0 [.ref (5 + 3 * k)] (gc_h n μ sp fo pc lp cl tk tc F tn tl) (fun r h => r = some (.int (nI (ga_len (F k)))) ∧ h = (gc_h n μ sp fo pc lp cl tk tc F tn tl)) := by
  have h1 := ga_lb_le hw.2.2.1
  have h2 := hw.2.2.1
  exact gs_F_frameLength _ (gx_run 5 (And.intro ⟨_, gc_at_o hk⟩ (gx_c1 (gx_le8 rfl) (k_F_localsBegin hk hw.2.2.1) (k_F_frameLength_l hk hw _ 0 (ga_lb (F k)) none (Nat.zero_add _) (by omega)))))
theorem ga_fl_b {f : ga_F} (hw : ga_wf f) : ga_fl f.2.2.2.1 f.2.2.2.2 0 f.2.2.1 (ga_lb f) ≤ 6200 := by
  have h1 := ga_lb_le hw.2.2.1
  have h2 := ga_fl_le (wd := f.2.2.2.1) (ct := f.2.2.2.2) (i := 0) (m := f.2.2.1) (at_ := ga_lb f) (fun j _ hj => ⟨(hw.2.2.2 j (by omega)).1, (hw.2.2.2 j (by omega)).2.2⟩)
  have := hw.2.2.1
  omega
theorem ga_len_le {f : ga_F} (hw : ga_wf f) : ga_len f ≤ 6300 := by
  have h1 := ga_fl_b hw
  have := ga_up_lt (u := 4) (x := ga_fl f.2.2.2.1 f.2.2.2.2 0 f.2.2.1 (ga_lb f)) (by decide)
  unfold ga_len
  omega
/-- how many bytes a frame has with so many arguments -/
def ga_room (f : ga_F) (m : Nat) : Nat := ga_len f + (if f.1 = 192 then 4 * (m + 1) else 0)
theorem k_F_bytesWith (hk : k < 12) (hw : ga_wf (F k)) {m : Nat} : gx_call LL xs (d + 4) z_F_bytesWith 0 0 [.ref (5 + 3 * k), .int (nI m)] (gc_h n μ sp fo pc lp cl tk tc F tn tl) (fun r h => r = some (.int (nI (ga_room (F k) m))) ∧ h = (gc_h n μ sp fo pc lp cl tk tc F tn tl)) := by
  refine gs_F_bytesWith _ _ (gx_run 3 (And.intro ⟨_, gc_at_o hk⟩ (gx_c1 (gx_le8 rfl) (k_F_takesPushed hk hw.1) ?_)))
  by_cases h : (F k).1 = 192
  · rw [if_pos h]
    refine And.intro (fun c => absurd c (by decide)) (fun _ => gx_run 10 (And.intro ⟨_, gc_at_o hk⟩ (gx_c1 (gx_le8 rfl) (k_F_frameLength hk hw) (And.intro ?_ rfl))))
    unfold ga_room
    rw [nI_add m 1, pk_mul, nI_add, if_pos h]
  · rw [if_neg h]
    refine And.intro (fun _ => gx_run 3 (And.intro ⟨_, gc_at_o hk⟩ (gx_c1 (gx_le8 rfl) (k_F_frameLength hk hw) (And.intro ?_ rfl)))) (fun c => absurd rfl c)
    unfold ga_room
    rw [if_neg h]
    rfl
theorem k_F_placeOfLocal_l (hk : k < 12) (hw : ga_wf (F k)) : ∀ (m p at_ left : Nat) (x0 : Value) (w0 : Option Value), p + m = (F k).2.2.1 → at_ + m * 1024 ≤ 10000 → left < 2147483648 →
    gx_E LL xs (gx_call LL xs (d + 1)) cd_F_placeOfLocal (fun r h => r = some (.int (ga_fp (ga_pl (F k).2.2.2.1 (F k).2.2.2.2 p m at_ left))) ∧ h = (gc_h n μ sp fo pc lp cl tk tc F tn tl)) 6 [some (.ref (5 + 3 * k)), some x0, some (.int (nI at_)), some (.int (nI left)), some (.int (nI p)), w0] [] (gc_h n μ sp fo pc lp cl tk tc F tn tl) 0 0 := by
  obtain ⟨-, -, h6, hwf⟩ := hw
  intro m
  induction m with
  | zero =>
    intro p at_ left x0 w0 hm hb hl
    refine gx_run 2 (gx_getf rfl (gc_at_o hk) rfl (gx_run 1 (And.intro (fun _ => gx_run 2 (And.intro rfl rfl)) (fun c => absurd (nI_le (show (F k).2.2.1 ≤ p by omega) (by omega)) c))))
  | succ m ih =>
    intro p at_ left x0 w0 hm hb hl
    have hpw := hwf p (by omega)
    have hm1 := ga_mul_le hpw.1 hpw.2.2
    have hu := ga_up_lt (u := (F k).2.2.2.1 p) (x := at_) (by omega)
    have e0 : ga_pl (F k).2.2.2.1 (F k).2.2.2.2 p (m + 1) at_ left = if left < (F k).2.2.2.2 p then some (ga_up ((F k).2.2.2.1 p) at_ + left * (F k).2.2.2.1 p) else ga_pl (F k).2.2.2.1 (F k).2.2.2.2 (p + 1) m (ga_up ((F k).2.2.2.1 p) at_ + (F k).2.2.2.2 p * (F k).2.2.2.1 p) (left - (F k).2.2.2.2 p) := rfl
    rw [e0]
    refine gx_run 2 (gx_getf rfl (gc_at_o hk) rfl (gx_run 1 (And.intro (fun c => absurd c (nI_ge (show p < (F k).2.2.1 by omega) (by omega))) (fun _ => ?_))))
    refine gx_run 2 (And.intro (fun c => absurd c (nI_pos (by omega))) (fun _ => ?_))
    refine gx_run 13 (And.intro ⟨_, gc_at_o hk⟩ (gx_c1 (gx_le8 rfl) (k_F_widthOfPair hk (show p < 6 by omega)) ?_))
    refine gx_c1 (gx_le8 rfl) (k_F_upTo hpw.1 (show at_ < 2 ^ 30 by omega)) ?_
    refine And.intro ⟨_, gc_at_o hk⟩ (gx_c1 (gx_le8 rfl) (k_F_countOfPair hk (show p < 6 by omega)) ?_)
    refine And.intro (fun c => ?_) (fun c => ?_)
    · have hc : (F k).2.2.2.2 p ≤ left := (nI_leI (by omega) (by omega)).mp c
      rw [if_neg (Nat.not_lt.mpr hc)]
      refine gx_run 16 (And.intro ⟨_, gc_at_o hk⟩ (gx_c1 (gx_le8 rfl) (k_F_countOfPair hk (by omega)) (And.intro ⟨_, gc_at_o hk⟩ (gx_c1 (gx_le8 rfl) (k_F_countOfPair hk (by omega)) ?_))))
      have h9 := ih (p + 1) (ga_up ((F k).2.2.2.1 p) at_ + (F k).2.2.2.2 p * (F k).2.2.2.1 p) (left - (F k).2.2.2.2 p) x0 (some (.int (nI ((F k).2.2.2.1 p)))) (by omega) (by omega) (by omega)
      rw [← nI_add p 1, ← nI_add (ga_up _ _), ← pk_mul, ← pk_sub hc] at h9
      exact h9
    · have hc : left < (F k).2.2.2.2 p := by
        rcases Nat.lt_or_ge left ((F k).2.2.2.2 p) with h | h
        · exact h
        · exact absurd (nI_le h (by omega)) c
      rw [if_pos hc]
      refine gx_run 6 (And.intro ?_ rfl)
      rw [pk_mul, nI_add]
      rfl
theorem k_F_placeOfLocal (hk : k < 12) (hw : ga_wf (F k)) {q : Nat} (hq : q < 2147483648) : gx_call LL xs (d + 2) z_F_placeOfLocal 0 0 [.ref (5 + 3 * k), .int (nI q)] (gc_h n μ sp fo pc lp cl tk tc F tn tl) (fun r h => r = some (.int (ga_fp (ga_pl (F k).2.2.2.1 (F k).2.2.2.2 0 (F k).2.2.1 0 q))) ∧ h = (gc_h n μ sp fo pc lp cl tk tc F tn tl)) := by
  have := hw.2.2.1
  exact gs_F_placeOfLocal _ _ (gx_run 6 (k_F_placeOfLocal_l hk hw _ 0 0 q _ none (Nat.zero_add _) (by omega) hq))
theorem k_F_placeOfLocal_n (hk : k < 12) {x : Int32} (hx : x < 0) : gx_call LL xs (d + 1) z_F_placeOfLocal 0 0 [.ref (5 + 3 * k), .int x] (gc_h n μ sp fo pc lp cl tk tc F tn tl) (fun r h => r = some (.int (-(nI 1))) ∧ h = (gc_h n μ sp fo pc lp cl tk tc F tn tl)) := by
  refine gs_F_placeOfLocal _ _ (gx_run 8 (gx_getf rfl (gc_at_o hk) rfl (gx_run 1 (And.intro (fun _ => gx_run 2 (And.intro rfl rfl)) (fun c => gx_run 2 (And.intro (fun _ => gx_run 2 (And.intro rfl rfl)) (fun c => absurd hx c)))))))
theorem k_F_addPair (hk : k < 12) (hp : (F k).2.2.1 ≤ 6) {w c : Nat} : gx_call LL xs (d + 1) z_F_addPair 0 0 [.ref (5 + 3 * k), .int (nI w), .int (nI c)] (gc_h n μ sp fo pc lp cl tk tc F tn tl) (fun r h => r = some (.int (if (F k).2.2.1 < 6 then nI ((F k).2.2.1 + 1) else -(nI 1))) ∧
    h = (gc_h n μ sp fo pc lp cl tk tc (if (F k).2.2.1 < 6 then va_up F k ((F k).1, (F k).2.1, (F k).2.2.1 + 1, va_up (F k).2.2.2.1 (F k).2.2.1 w, va_up (F k).2.2.2.2 (F k).2.2.1 c) else F) tn tl)) := by
  have e6 : nI (F k).2.2.1 < nI 6 ↔ (F k).2.2.1 < 6 := nI_ltI (by omega) (by omega)
  refine gs_F_addPair _ _ _ (gx_run 1 (gx_getf rfl (gc_at_o hk) rfl (gx_run 1 (And.intro (fun c => absurd c (nI_pos (by omega))) (fun _ => gx_run 1 (gx_getf rfl (gc_at_o hk) rfl (gx_run 2 (And.intro (fun c6 => ?_) (fun c6 => gx_run 2 (And.intro ?_ ?_))))))))))
  · have hp6 := e6.mp c6
    rw [if_pos hp6, if_pos hp6]
    refine gx_run 1 (gx_getf rfl (gc_at_o hk) rfl (gx_run 1 (gx_getf rfl (gc_at_o hk) rfl (gx_run 1 (gx_iast rfl (gc_at_w hk) rfl hp6 (by omega) ?_)))))
    rw [gm_byte, gc_set_w hk]
    refine gx_run 1 (gx_getf rfl (gc_at_o hk) rfl (gx_run 1 (gx_getf rfl (gc_at_o hk) rfl (gx_run 1 ?_))))
    simp only [va_up_self]
    refine gx_iast rfl (gc_at_c hk) rfl hp6 (by omega) ?_
    simp only [va_up_self]
    rw [gm_byte, gc_set_c hk]
    simp only [va_up_self, bx_uu]
    refine gx_run 2 (gx_getf rfl (gc_at_o hk) rfl (gx_run 2 (gx_putf rfl (gc_at_o hk) rfl (fun P hP => hP) ?_)))
    have e9 := gc_set_o (n := n) (μ := μ) (sp := sp) (fo := fo) (pc := pc) (lp := lp) (cl := cl) (tk := tk) (tc := tc) (F := va_up F k ((F k).1, (F k).2.1, (F k).2.2.1, va_up (F k).2.2.2.1 (F k).2.2.1 w, va_up (F k).2.2.2.2 (F k).2.2.1 c)) (tn := tn) (tl := tl) hk (F k).1 (F k).2.1 ((F k).2.2.1 + 1)
    simp only [va_up_self, bx_uu] at e9 ⊢
    rw [nI_add]
    show gx_E LL xs _ cd_F_addPair _ 27 _ _ ((gc_h n μ sp fo pc lp cl tk tc (va_up F k ((F k).1, (F k).2.1, (F k).2.2.1, va_up (F k).2.2.2.1 (F k).2.2.1 w, va_up (F k).2.2.2.2 (F k).2.2.1 c)) tn tl).set (5 + 3 * k) (gc_o k ((F k).1, (F k).2.1, (F k).2.2.1 + 1, va_up (F k).2.2.2.1 (F k).2.2.1 w, va_up (F k).2.2.2.2 (F k).2.2.1 c))) 0 0
    rw [e9]
    refine gx_run 1 (gx_getf rfl (gc_at_o hk) rfl (gx_run 1 (And.intro ?_ rfl)))
    simp only [va_up_self]
  · rw [if_neg (fun h => c6 (e6.mpr h))]
  · rw [if_neg (fun h => c6 (e6.mpr h))]
end GCF
end
section
/-! Marks of the row (frames and tokens, the last first), and what every state keeps. (The rows on bits are from kit/laws/BITS.) -/
def bt (x : Int32) (i : Nat) : Bool := x.toBitVec.getLsbD i
theorem b_ext {x y : Int32} (h : ∀ i, i < 32 → bt x i = bt y i) : x = y := Int32.toBitVec_inj.mp (BitVec.eq_of_getLsbD_eq (fun i hi => h i hi))
theorem b_or (x y : Int32) (i : Nat) : bt (x ||| y) i = (bt x i || bt y i) := by unfold bt; rw [Int32.toBitVec_or, BitVec.getLsbD_or]
theorem b_and (x y : Int32) (i : Nat) : bt (x &&& y) i = (bt x i && bt y i) := by unfold bt; rw [Int32.toBitVec_and, BitVec.getLsbD_and]
theorem b_big {x : Int32} {i : Nat} (h : 32 ≤ i) : bt x i = false := BitVec.getLsbD_of_ge _ _ h
theorem b_255 (i : Nat) : bt 255 i = decide (i < 8) := by
  rcases Nat.lt_or_ge i 32 with h | h
  · exact (by decide +kernel : ∀ i, i < 32 → bt 255 i = decide (i < 8)) i h
  · rw [b_big h, decide_eq_false (by omega)]
theorem b_0 (i : Nat) : bt 0 i = false := BitVec.getLsbD_zero
theorem s_l : ∀ n, n < 32 → ((nI n &&& 31).toBitVec.smod 32).toNat = n := by decide +kernel
theorem b_shl (n : Nat) (hn : n < 32) (x : Int32) {i : Nat} (hi : i < 32) : bt (x <<< (nI n &&& 31)) i = (decide (n ≤ i) && bt x (i - n)) := by
  unfold bt
  rw [Int32.toBitVec_shiftLeft]
  show (x.toBitVec <<< ((nI n &&& 31).toBitVec.smod 32).toNat).getLsbD i = _
  rw [s_l n hn, BitVec.getLsbD_shiftLeft]
  rcases Nat.lt_or_ge i n with h | h
  · simp [h, Nat.not_le.mpr h]
  · simp [hi, h, Nat.not_lt.mpr h]
theorem b_sshr (n : Nat) (hn : n < 32) (x : Int32) {i : Nat} (hi : i < 32) : bt (x >>> (nI n &&& 31)) i = if n + i < 32 then bt x (n + i) else bt x 31 := by
  unfold bt
  rw [Int32.toBitVec_shiftRight]
  show (x.toBitVec.sshiftRight ((nI n &&& 31).toBitVec.smod 32).toNat).getLsbD i = _
  rw [s_l n hn, BitVec.getLsbD_sshiftRight, BitVec.msb_eq_getLsbD_last]
  simp [hi]
theorem b_shl8 (x : Int32) {i : Nat} (hi : i < 32) : bt (x <<< ((8 : Int32) &&& 31)) i = (decide (8 ≤ i) && bt x (i - 8)) := b_shl 8 (by omega) x hi
theorem b_sshr8 (x : Int32) {i : Nat} (hi : i < 32) : bt (x >>> ((8 : Int32) &&& 31)) i = if 8 + i < 32 then bt x (8 + i) else bt x 31 := b_sshr 8 (by omega) x hi

def ga_w (μ : Nat → Nat) (a : Nat) : Nat := (ga_rd μ a 4).toBitVec.toNat
theorem ga_nI (x : Int32) : x = nI x.toBitVec.toNat := by
  apply Int32.toBitVec_inj.mp
  show x.toBitVec = BitVec.ofNat 32 x.toBitVec.toNat
  rw [BitVec.ofNat_toNat, BitVec.setWidth_eq]
theorem ga_rdw (μ : Nat → Nat) (a : Nat) : ga_rd μ a 4 = nI (ga_w μ a) := ga_nI _
theorem ga_w_of {μ : Nat → Nat} {a x : Nat} (h : ga_rd μ a 4 = nI x) (hx : x < 2 ^ 32) : ga_w μ a = x := by
  unfold ga_w
  rw [h]
  exact pk_tn hx
theorem ga_w_cong {μ ν : Nat → Nat} {a : Nat} (h : ∀ i, a ≤ i → i < a + 4 → μ i = ν i) : ga_w μ a = ga_w ν a := by
  unfold ga_w
  rw [ga_rd_cong h]
/-- four bytes written are read as they were -/
theorem ga_rd_wr (μ : Nat → Nat) (a : Nat) (v : Int32) : ga_rd (ga_wr μ a 4 v) a 4 = v := by
  have e8 : nI 8 = 8 := rfl
  have w : ga_wr μ a 4 v = ga_wr (va_up (va_up (va_up μ (a + 3) (ga_lo v)) (a + 2) (ga_lo (v >>> (nI 8 &&& 31)))) (a + 1) (ga_lo (v >>> (nI 8 &&& 31) >>> (nI 8 &&& 31)))) a 1 (v >>> (nI 8 &&& 31) >>> (nI 8 &&& 31) >>> (nI 8 &&& 31)) := rfl
  have h3 : ga_wr μ a 4 v (a + 3) = ga_lo v := by
    rw [w, ga_wr_out (by omega)]; unfold va_up; rw [if_neg (by omega), if_neg (by omega), if_pos rfl]
  have h2 : ga_wr μ a 4 v (a + 2) = ga_lo (v >>> (nI 8 &&& 31)) := by
    rw [w, ga_wr_out (by omega)]; unfold va_up; rw [if_neg (by omega), if_pos rfl]
  have h1 : ga_wr μ a 4 v (a + 1) = ga_lo (v >>> (nI 8 &&& 31) >>> (nI 8 &&& 31)) := by
    rw [w, ga_wr_out (by omega)]; unfold va_up; rw [if_pos rfl]
  have h0 : ga_wr μ a 4 v (a + 0) = ga_lo (v >>> (nI 8 &&& 31) >>> (nI 8 &&& 31) >>> (nI 8 &&& 31)) := by
    rw [w]
    show va_up _ (a + 0) _ (a + 0) = _
    unfold va_up; rw [if_pos rfl]
  unfold ga_rd
  unfold ga_rd
  unfold ga_rd
  unfold ga_rd
  unfold ga_rd
  rw [h0, h1, h2, h3, ← ga_and, ← ga_and, ← ga_and, ← ga_and, e8, nI_0, show nI 255 = 255 from rfl]
  refine b_ext fun i hi => ?_
  rcases Nat.lt_or_ge i 8 with c | c
  · rw [b_or, b_shl8 _ hi, b_and, b_255]
    simp [c, Nat.not_le.mpr c]
  · rw [b_or, b_shl8 _ hi, b_and, b_255, b_or, b_shl8 _ (by omega), b_and, b_255, b_sshr8 _ (by omega)]
    rcases Nat.lt_or_ge i 16 with c2 | c2
    · simp [c, show ¬ i < 8 by omega, show i - 8 < 8 by omega, show ¬ 8 ≤ i - 8 by omega, show 8 + (i - 8) = i by omega, hi]
    · rw [b_or, b_shl8 _ (by omega), b_and, b_255, b_sshr8 _ (by omega)]
      rcases Nat.lt_or_ge i 24 with c3 | c3
      · rw [b_sshr8 _ (by omega)]
        simp [c, show ¬ i < 8 by omega, show ¬ i - 8 < 8 by omega, show 8 ≤ i - 8 by omega, show i - 8 - 8 < 8 by omega, show ¬ 8 ≤ i - 8 - 8 by omega, show 8 + (8 + (i - 8 - 8)) = i by omega, show 8 + (i - 8 - 8) < 32 by omega, show i - 8 < 32 by omega, show ¬ 32 ≤ i - 8 by omega, hi]
      · rw [b_or, b_shl8 _ (by omega), b_and, b_255, b_sshr8 _ (by omega), b_sshr8 _ (by omega), b_sshr8 _ (by omega), b_0]
        simp [c, show ¬ i < 8 by omega, show ¬ i - 8 < 8 by omega, show 8 ≤ i - 8 by omega, show ¬ i - 8 - 8 < 8 by omega, show 8 ≤ i - 8 - 8 by omega, show i - 8 - 8 - 8 < 8 by omega, show 8 + (8 + (8 + (i - 8 - 8 - 8))) = i by omega, show 8 + (i - 8 - 8 - 8) < 32 by omega, show 8 + (8 + (i - 8 - 8 - 8)) < 32 by omega, show i - 8 < 32 by omega, show i - 8 - 8 < 32 by omega, hi]
theorem ga_rd_out {μ : Nat → Nat} {a b w : Nat} {v : Int32} (h : b + 4 ≤ a ∨ a + w ≤ b) : ga_rd (ga_wr μ a w v) b 4 = ga_rd μ b 4 := ga_rd_cong fun i h1 h2 => ga_wr_out (by omega)
/-! marks: (true, where a frame begins), (false, a token) -/
abbrev ga_M : Type := List (Bool × Nat)
def ga_top : ga_M → Option Nat
  | [] => none
  | (true, f) :: _ => some f
  | (false, _) :: es => ga_top es
def ga_tc : ga_M → Nat
  | [] => 0
  | (true, _) :: es => ga_tc es
  | (false, _) :: es => ga_tc es + 1
def ga_fc : ga_M → Nat
  | [] => 0
  | (true, _) :: es => ga_fc es + 1
  | (false, _) :: es => ga_fc es
/-- where values begin -/
def ga_base (μ : Nat → Nat) : ga_M → Nat
  | [] => 0
  | (true, f) :: _ => f + ga_w μ f
  | (false, t) :: _ => t
def ga_mk (μ : Nat → Nat) (lim : Nat) : ga_M → Prop
  | [] => True
  | (true, f) :: es => 16 ≤ f ∧ 12 ≤ ga_w μ (f + 4) ∧ ga_w μ (f + 4) ≤ ga_w μ f ∧ f + ga_w μ f ≤ lim ∧ ga_rd μ (f - 4) 4 = ga_fp (ga_top es) ∧ ga_mk μ (f - 16) es
  | (false, t) :: es => 16 ≤ t ∧ t ≤ lim ∧ ga_top es ≠ none ∧ ga_rd μ (t - 4) 4 = ga_fp (ga_top es) ∧ ga_mk μ (t - 16) es
/-- the row of tokens holds the live ones -/
def ga_tk (tk : Nat → Nat) : ga_M → Prop
  | [] => True
  | (true, _) :: es => ga_tk tk es
  | (false, t) :: es => tk (ga_tc es) = t ∧ ga_tk tk es
theorem ga_mk_mono {μ : Nat → Nat} {l1 l2 : Nat} (h : l1 ≤ l2) : ∀ {M : ga_M}, ga_mk μ l1 M → ga_mk μ l2 M
  | [], _ => trivial
  | (true, f) :: es, ⟨a, b, c, d, e⟩ => ⟨a, b, c, by omega, e⟩
  | (false, t) :: es, ⟨a, b, e⟩ => ⟨a, by omega, e⟩
/-- what isn't below the base doesn't matter -/
theorem ga_mk_cong {μ ν : Nat → Nat} : ∀ {M : ga_M} {lim : Nat}, ga_mk μ lim M → (∀ i, i < lim → μ i = ν i) → ga_mk ν lim M
  | [], _, _, _ => trivial
  | (true, f) :: es, lim, ⟨a, b, c, d, e, g⟩, h => by
    have h1 : ga_w μ f = ga_w ν f := ga_w_cong fun i h1 h2 => h i (by omega)
    have h2 : ga_w μ (f + 4) = ga_w ν (f + 4) := ga_w_cong fun i h1 h2 => h i (by omega)
    have h3 : ga_rd μ (f - 4) 4 = ga_rd ν (f - 4) 4 := ga_rd_cong fun i h1 h2 => h i (by omega)
    exact ⟨a, by rw [← h2]; exact b, by rw [← h1, ← h2]; exact c, by rw [← h1]; exact d, by rw [← h3]; exact e, ga_mk_cong g fun i hi => h i (by omega)⟩
  | (false, t) :: es, lim, ⟨a, b, c, d, e⟩, h => by
    have h3 : ga_rd μ (t - 4) 4 = ga_rd ν (t - 4) 4 := ga_rd_cong fun i h1 h2 => h i (by omega)
    exact ⟨a, b, c, by rw [← h3]; exact d, ga_mk_cong e fun i hi => h i (by omega)⟩
theorem ga_base_le {μ : Nat → Nat} {lim : Nat} : ∀ {M : ga_M}, ga_mk μ lim M → ga_base μ M ≤ lim
  | [], _ => Nat.zero_le _
  | (true, _) :: _, h => h.2.2.2.1
  | (false, _) :: _, h => h.2.1
/-- with its base as the limit -/
theorem ga_mk_base {μ : Nat → Nat} {lim : Nat} : ∀ {M : ga_M}, ga_mk μ lim M → ga_mk μ (ga_base μ M) M
  | [], _ => trivial
  | (true, _) :: _, ⟨a, b, c, d, e⟩ => ⟨a, b, c, Nat.le_refl _, e⟩
  | (false, _) :: _, ⟨a, b, e⟩ => ⟨a, Nat.le_refl _, e⟩
/-- a frame on the way down is a good one -/
theorem ga_mk_top {μ : Nat → Nat} : ∀ {M : ga_M} {lim f : Nat}, ga_mk μ lim M → ga_top M = some f → 16 ≤ f ∧ 12 ≤ ga_w μ (f + 4) ∧ ga_w μ (f + 4) ≤ ga_w μ f ∧ f + ga_w μ f ≤ lim
  | [], _, _, _, h => by cases h
  | (true, g) :: es, _, _, ⟨a, b, c, d, e⟩, h => by cases h; exact ⟨a, b, c, d⟩
  | (false, t) :: es, _, f, ⟨a, b, c, d, e⟩, h => by
    obtain ⟨h1, h2, h3, h4⟩ := ga_mk_top e h
    exact ⟨h1, h2, h3, by omega⟩
theorem ga_tc_le {μ : Nat → Nat} : ∀ {M : ga_M} {lim : Nat}, ga_mk μ lim M → 16 * ga_tc M + 16 * ga_fc M ≤ lim
  | [], lim, _ => by unfold ga_tc ga_fc; omega
  | (true, f) :: es, lim, ⟨a, b, c, d, e, g⟩ => by
    have := ga_tc_le g
    unfold ga_tc ga_fc
    omega
  | (false, t) :: es, lim, ⟨a, b, c, d, e⟩ => by
    have := ga_tc_le e
    unfold ga_tc ga_fc
    omega
/-- each token live is at most the limit -/
theorem ga_tk_le {μ : Nat → Nat} {tk : Nat → Nat} : ∀ {M : ga_M} {lim : Nat}, ga_mk μ lim M → ga_tk tk M → ∀ i, i < ga_tc M → 16 ≤ tk i ∧ tk i ≤ lim
  | [], _, _, _, i, hi => by unfold ga_tc at hi; omega
  | (true, f) :: es, lim, ⟨a, b, c, d, e, g⟩, ht, i, hi => by
    have := ga_tk_le g ht i hi
    omega
  | (false, t) :: es, lim, ⟨a, b, c, d, e⟩, ⟨t1, t2⟩, i, hi => by
    unfold ga_tc at hi
    by_cases h : i = ga_tc es
    · subst h; rw [t1]; exact ⟨a, b⟩
    · have := ga_tk_le e t2 i (by omega)
      omega
theorem ga_top_lt {μ : Nat → Nat} : ∀ {M : ga_M} {lim f : Nat}, ga_mk μ lim M → ga_top M = some f → f + 12 ≤ lim := by
  intro M lim f h ht
  have := ga_mk_top h ht
  omega
theorem ga_fp_inj {a b : Option Nat} (ha : ∀ f, a = some f → f < 2147483648) (hb : ∀ f, b = some f → f < 2147483648) (h : ga_fp a = ga_fp b) : a = b := by
  cases a with
  | none => cases b with
    | none => rfl
    | some g =>
      have e1 : -(nI 1) = nI g := h
      have : (nI g).toInt = -1 := by rw [← e1]; decide
      rw [nI_toInt (hb g rfl)] at this
      omega
  | some f => cases b with
    | none =>
      have e1 : nI f = -(nI 1) := h
      have : (nI f).toInt = -1 := by rw [e1]; decide
      rw [nI_toInt (ha f rfl)] at this
      omega
    | some g => exact congrArg some ((nI_eq (ha f rfl) (hb g rfl)).mp h)
theorem ga_fp_none {f : Nat} (h : f < 2147483648) : ¬ nI f = -(nI 1) := fun e => by
  have : (nI f).toInt = -1 := by rw [e]; decide
  rw [nI_toInt h] at this
  omega
end
section
/-! The class's own small methods. -/
def ga_b (b : Bool) : Int32 := match b with
  | true => nI 1
  | false => nI 0
/-- whether a place of some width lies in a frame's locals -/
def ga_il (μ : Nat → Nat) (f : Nat) (place w : Int32) : Bool := !(decide (place < 0)) && !(decide (nI (ga_w μ f - ga_w μ (f + 4)) - w < place))
section GCI
variable {LL : Nat} {xs : Nat → Int32} {d : Nat} {n : Nat} {μ : Nat → Nat} {sp : Nat} {fo : Option Nat} {pc lp : Int32} {cl : Nat → Int32} {tk : Nat → Nat} {tc : Nat} {F : Nat → ga_F} {tn : Nat → Int32} {tl : gx_H}
theorem k_G_functionOf {k : Nat} (hk : k < 12) : gx_call LL xs (d + 1) z_G_functionOf 0 0 [.ref 0, .int (nI k)] (gc_h n μ sp fo pc lp cl tk tc F tn tl) (fun r h => r = some (.ref (5 + 3 * k)) ∧ h = (gc_h n μ sp fo pc lp cl tk tc F tn tl)) := by
  have hg : gc_g k = some (5 + 3 * k) := if_pos hk
  refine gs_G_functionOf _ _ (gx_run 2 (And.intro (fun c => absurd c (nI_pos (by omega))) (fun _ => gx_run 5 (And.intro (fun c => absurd c (nI_ge hk (by omega))) (fun _ => gx_run 4 (gx_ar k rfl hk (by omega) ?_))))))
  rw [hg]
  exact gx_run 2 (And.intro rfl rfl)
theorem k_G_functionOf_n {x : Int32} (hx : x < 0 ∨ nI 12 ≤ x) : gx_call LL xs (d + 1) z_G_functionOf 0 0 [.ref 0, .int x] (gc_h n μ sp fo pc lp cl tk tc F tn tl) (fun r h => r = some .null ∧ h = (gc_h n μ sp fo pc lp cl tk tc F tn tl)) := by
  refine gs_G_functionOf _ _ (gx_run 2 (And.intro (fun _ => gx_run 2 (And.intro rfl rfl)) (fun c => gx_run 5 (And.intro (fun _ => gx_run 2 (And.intro rfl rfl)) (fun c2 => ?_)))))
  rcases hx with hx | hx
  · exact absurd hx c
  · exact absurd hx c2
theorem k_G_isWidth (x : Int32) {h : gx_H} : gx_call LL xs (d + 1) z_G_isWidth 0 0 [.int x] h (fun r h' => r = some (.int (if x = nI 1 ∨ x = nI 2 ∨ x = nI 4 then nI 1 else nI 0)) ∧ h' = h) := by
  refine gs_G_isWidth _ (gx_run 3 (And.intro (fun c => gx_run 3 (And.intro (Or.inr rfl) (And.intro ?_ rfl))) (fun c1 => gx_run 3 (And.intro (fun c => gx_run 3 (And.intro (Or.inr rfl) (And.intro ?_ rfl))) (fun c2 => gx_run 3 (And.intro (fun c => gx_run 2 (And.intro (Or.inl rfl) (And.intro ?_ rfl))) (fun c => gx_run 3 (And.intro (Or.inr rfl) (And.intro ?_ rfl)))))))))
  · rw [if_pos (Or.inl c)]
  · rw [if_pos (Or.inr (Or.inl c))]
  · rw [if_neg (by rintro (h | h | h) <;> contradiction)]
  · rw [if_pos (Or.inr (Or.inr c))]
theorem k_G_isWay (x : Int32) {h : gx_H} : gx_call LL xs (d + 1) z_G_isWay 0 0 [.int x] h (fun r h' => r = some (.int (if x < 0 ∨ nI 3 < x then nI 0 else nI 1)) ∧ h' = h) := by
  refine gs_G_isWay _ (gx_run 2 (And.intro (fun c => gx_run 2 (And.intro (Or.inl rfl) (And.intro ?_ rfl))) (fun c1 => gx_run 3 (And.intro (fun c => gx_run 2 (And.intro (Or.inl rfl) (And.intro ?_ rfl))) (fun c => gx_run 3 (And.intro (Or.inr rfl) (And.intro ?_ rfl)))))))
  · rw [if_pos (Or.inl c)]
  · rw [if_pos (Or.inr c)]
  · rw [if_neg (by rintro (h | h) <;> contradiction)]
theorem k_G_isCell (x : Int32) {h : gx_H} : gx_call LL xs (d + 1) z_G_isCell 0 0 [.int x] h (fun r h' => r = some (.int (if x < 0 ∨ nI 16 ≤ x then nI 0 else nI 1)) ∧ h' = h) := by
  refine gs_G_isCell _ (gx_run 2 (And.intro (fun c => gx_run 2 (And.intro (Or.inl rfl) (And.intro ?_ rfl))) (fun c1 => gx_run 3 (And.intro (fun c => gx_run 2 (And.intro (Or.inl rfl) (And.intro ?_ rfl))) (fun c => gx_run 3 (And.intro (Or.inr rfl) (And.intro ?_ rfl)))))))
  · rw [if_pos (Or.inl c)]
  · rw [if_pos (Or.inr c)]
  · rw [if_neg (by rintro (h | h) <;> contradiction)]
theorem k_G_isFrame (x : Int32) {h : gx_H} : gx_call LL xs (d + 1) z_G_isFrame 0 0 [.int x] h (fun r h' => r = some (.int (if x = -(nI 1) then nI 0 else nI 1)) ∧ h' = h) := by
  refine gs_G_isFrame _ (gx_run 3 (And.intro (fun c => gx_run 2 (And.intro (Or.inl rfl) (And.intro ?_ rfl))) (fun c => gx_run 3 (And.intro (Or.inr rfl) (And.intro ?_ rfl)))))
  · rw [if_pos c]
  · rw [if_neg c]
theorem k_G_valuesAt {f : Nat} (hf : f + 4 ≤ n) (hn : n < 2147483648) (hμ : ∀ i, μ i < 256) : gx_call LL xs (d + 3) z_G_valuesAt 0 0 [.ref 0, .int (nI f)] (gc_h n μ sp fo pc lp cl tk tc F tn tl) (fun r h => r = some (.int (nI (f + ga_w μ f))) ∧ h = (gc_h n μ sp fo pc lp cl tk tc F tn tl)) := by
  refine gs_G_valuesAt _ _ (gx_run 8 (And.intro ⟨_, rfl⟩ (gx_c1 (gx_le8 rfl) (k_R_number hf hn hμ) (And.intro ?_ rfl))))
  rw [ga_rdw, nI_add]
theorem k_G_localsAt {f : Nat} (hf : f + 8 ≤ n) (hn : n < 2147483648) (hμ : ∀ i, μ i < 256) : gx_call LL xs (d + 3) z_G_localsAt 0 0 [.ref 0, .int (nI f)] (gc_h n μ sp fo pc lp cl tk tc F tn tl) (fun r h => r = some (.int (nI (f + ga_w μ (f + 4)))) ∧ h = (gc_h n μ sp fo pc lp cl tk tc F tn tl)) := by
  have hc : gx_call LL xs (d + 2) z_R_number 0 0 [.ref 3, .int (nI f + nI 4), .int (nI 4)] (gc_h n μ sp fo pc lp cl tk tc F tn tl) (fun r h => r = some (.int (nI (ga_w μ (f + 4)))) ∧ h = (gc_h n μ sp fo pc lp cl tk tc F tn tl)) := by
    rw [nI_add, ← ga_rdw]
    exact k_R_number (by omega) hn hμ
  refine gs_G_localsAt _ _ (gx_run 10 (And.intro ⟨_, rfl⟩ (gx_c1 (gx_le8 rfl) hc (And.intro ?_ rfl))))
  rw [nI_add]
theorem k_G_isInLocals {f : Nat} (place w : Int32) (hf : f + 8 ≤ n) (hn : n < 2147483648) (hμ : ∀ i, μ i < 256) (hl : ga_w μ (f + 4) ≤ ga_w μ f) : gx_call LL xs (d + 4) z_G_isInLocals 0 0 [.ref 0, .int (nI f), .int place, .int w] (gc_h n μ sp fo pc lp cl tk tc F tn tl) (fun r h => r = some (.int (ga_b (ga_il μ f place w))) ∧ h = (gc_h n μ sp fo pc lp cl tk tc F tn tl)) := by
  have e : nI (f + ga_w μ f) - nI (f + ga_w μ (f + 4)) = nI (ga_w μ f - ga_w μ (f + 4)) := by
    rw [pk_sub (by omega)]
    congr 1
    omega
  refine gs_G_isInLocals _ _ _ _ (gx_run 2 (And.intro (fun c => gx_run 2 (And.intro (Or.inl rfl) (And.intro ?_ rfl))) (fun c1 => gx_run 11 (And.intro ⟨_, rfl⟩ (gx_c1 (gx_le8 rfl) (k_G_valuesAt (by omega) hn hμ) (And.intro ⟨_, rfl⟩ (gx_c1 (gx_le8 rfl) (k_G_localsAt hf hn hμ) ?_)))))))
  · simp [ga_il, c, ga_b]
  · refine And.intro (fun c => gx_run 2 (And.intro (Or.inl rfl) (And.intro ?_ rfl))) (fun c => gx_run 3 (And.intro (Or.inr rfl) (And.intro ?_ rfl)))
    · rw [e] at c
      simp only [ga_il, c1, c, ga_b, decide_true, decide_false, Bool.not_true, Bool.not_false, Bool.and_false]
    · rw [e] at c
      simp only [ga_il, c1, c, ga_b, decide_true, decide_false, Bool.not_true, Bool.not_false, Bool.and_true]
theorem k_G_frameBelow {e : Nat} (h4 : 4 ≤ e) (he : e ≤ n) (hn : n < 2147483648) (hμ : ∀ i, μ i < 256) : gx_call LL xs (d + 3) z_G_frameBelow 0 0 [.ref 0, .int (nI e)] (gc_h n μ sp fo pc lp cl tk tc F tn tl) (fun r h => r = some (.int (ga_rd μ (e - 4) 4)) ∧ h = (gc_h n μ sp fo pc lp cl tk tc F tn tl)) := by
  have hc : gx_call LL xs (d + 2) z_R_number 0 0 [.ref 3, .int (nI e - nI 4), .int (nI 4)] (gc_h n μ sp fo pc lp cl tk tc F tn tl) (fun r h => r = some (.int (ga_rd μ (e - 4) 4)) ∧ h = (gc_h n μ sp fo pc lp cl tk tc F tn tl)) := by
    rw [pk_sub h4]
    exact k_R_number (by omega) hn hμ
  exact gs_G_frameBelow _ _ (gx_run 8 (And.intro ⟨_, rfl⟩ (gx_c1 (gx_le8 rfl) hc (And.intro rfl rfl))))
/-- the latest token -/
def ga_lt (tk : Nat → Nat) (tc : Nat) : Option Nat := match tc with
  | 0 => none
  | c + 1 => some (tk c)
theorem k_G_latestToken (hc : tc ≤ n / 16 + 1) (hn : n < 2147483648) : gx_call LL xs (d + 1) z_G_latestToken 0 0 [.ref 0] (gc_h n μ sp fo pc lp cl tk tc F tn tl) (fun r h => r = some (.int (ga_fp (ga_lt tk tc))) ∧ h = (gc_h n μ sp fo pc lp cl tk tc F tn tl)) := by
  cases tc with
  | zero => exact gs_G_latestToken _ (gx_run 7 (And.intro (fun _ => gx_run 2 (And.intro rfl rfl)) (fun c => absurd (by decide) c)))
  | succ c =>
    have e : nI (c + 1) - nI 1 = nI c := pk_sub (Nat.le_add_left 1 c)
    refine gs_G_latestToken _ (gx_run 7 (And.intro (fun h => ?_) (fun _ => gx_run 5 (And.intro (fun h => ?_) (fun _ => gx_run 6 (gx_ar c e (by omega) (by omega) (And.intro rfl rfl)))))))
    · rw [e] at h
      exact absurd h (nI_pos (by omega))
    · rw [e] at h
      exact absurd h (nI_ge (by omega) (by omega))
/-- tokens from a place on are dropped: c are left -/
theorem k_G_dropTokensFrom (hn : n < 2147483648) {p c : Nat} (hp : p < 2147483648) (hlow : ∀ c', c = c' + 1 → tk c' < p) : ∀ (m : Nat) (tc : Nat), tc = c + m → tc ≤ n / 16 + 1 → (∀ i, c ≤ i → i < tc → p ≤ tk i ∧ tk i < 2147483648) →
    gx_E LL xs (gx_call LL xs (d + 1)) cd_G_dropTokensFrom (fun r h => r = none ∧ h = (gc_h n μ sp fo pc lp cl tk c F tn tl)) 0 [some (.ref 0), some (.int (nI p))] [] (gc_h n μ sp fo pc lp cl tk tc F tn tl) 0 0 := by
  intro m
  induction m with
  | zero =>
    intro tc hm hc hi
    obtain rfl : tc = c := by omega
    cases tc with
    | zero => exact gx_run 3 (And.intro (fun _ => gx_run 1 (And.intro rfl rfl)) (fun h => absurd (by decide) h))
    | succ c' =>
      have h1 := hlow c' rfl
      refine gx_run 3 (And.intro (fun h => absurd h (nI_nle (by omega) (by omega))) (fun _ => gx_run 4 (And.intro ⟨_, rfl⟩ (gx_c1 (gx_le8 rfl) (k_G_latestToken hc hn) ?_))))
      exact And.intro (fun _ => gx_run 1 (And.intro rfl rfl)) (fun h => absurd (nI_lt h1 (by omega)) h)
  | succ m ih =>
    intro tc hm hc hi
    obtain ⟨c', rfl⟩ : ∃ c', tc = c' + 1 := ⟨tc - 1, by omega⟩
    have h1 := hi c' (by omega) (by omega)
    refine gx_run 3 (And.intro (fun h => absurd h (nI_nle (by omega) (by omega))) (fun _ => gx_run 4 (And.intro ⟨_, rfl⟩ (gx_c1 (gx_le8 rfl) (k_G_latestToken hc hn) ?_))))
    refine And.intro (fun h => absurd h (nI_nlt h1.1 h1.2)) (fun _ => gx_run 7 ?_)
    have e : nI (c' + 1) - nI 1 = nI c' := pk_sub (Nat.le_add_left 1 c')
    have h9 := ih c' (by omega) (by omega) (fun i a b => hi i a (by omega))
    rw [show (gc_h n μ sp fo pc lp cl tk c' F tn tl) = (gc_h n μ sp fo pc lp cl tk (c' + 1) F tn tl).set 0 (.inr (.inr (2, [.ref 3, .ref 1, .ref 2, .ref 41, .int (nI (c' + 1) - nI 1), .ref 42, .int (ga_fp fo), .int pc, .int lp]))) from by rw [e]; rfl] at h9
    exact h9
theorem k_G_drop (hn : n < 2147483648) {p c : Nat} (hp : p < 2147483648) (hlow : ∀ c', c = c' + 1 → tk c' < p) (hcc : c ≤ tc) (hc : tc ≤ n / 16 + 1) (hi : ∀ i, c ≤ i → i < tc → p ≤ tk i ∧ tk i < 2147483648) :
    gx_call LL xs (d + 2) z_G_dropTokensFrom 0 0 [.ref 0, .int (nI p)] (gc_h n μ sp fo pc lp cl tk tc F tn tl) (fun r h => r = none ∧ h = (gc_h n μ sp fo pc lp cl tk c F tn tl)) :=
  gs_G_dropTokensFrom _ _ (k_G_dropTokensFrom hn hp hlow (tc - c) tc (by omega) hc hi)
theorem k_G_addToken {t : Nat} (hc : tc < n / 16 + 1) (hn : n < 2147483648) : gx_call LL xs (d + 1) z_G_addToken 0 0 [.ref 0, .int (nI t)] (gc_h n μ sp fo pc lp cl tk tc F tn tl) (fun r h => r = none ∧ h = (gc_h n μ sp fo pc lp cl (va_up tk tc t) (tc + 1) F tn tl)) := by
  refine gs_G_addToken _ _ (gx_run 3 (And.intro (fun h => absurd h (nI_pos (by omega))) (fun _ => gx_run 6 (And.intro (fun h => absurd h (nI_ge hc (by omega))) (fun _ => gx_run 13 (gx_ar tc rfl hc (by omega) (And.intro rfl ?_)))))))
  rw [gm_byte, nI_add]
  rfl
theorem k_G_isLive_l (x : Int32) (hc : tc ≤ n / 16 + 1) (hn : n < 2147483648) : ∀ (m i : Nat), i + m = tc → (∀ j, j < i → ¬ nI (tk j) = x) →
    gx_E LL xs (gx_call LL xs d) cd_G_isLive (fun r h => ((r = some (.int (nI 1)) ∧ ∃ j, j < tc ∧ nI (tk j) = x) ∨ (r = some (.int (nI 0)) ∧ ∀ j, j < tc → ¬ nI (tk j) = x)) ∧ h = (gc_h n μ sp fo pc lp cl tk tc F tn tl)) 2 [some (.ref 0), some (.int x), some (.int (nI i))] [] (gc_h n μ sp fo pc lp cl tk tc F tn tl) 0 0 := by
  intro m
  induction m with
  | zero =>
    intro i hm hj
    exact gx_run 4 (And.intro (fun _ => gx_run 2 (And.intro (Or.inl rfl) (And.intro (Or.inr ⟨rfl, fun j h => hj j (by omega)⟩) rfl))) (fun c => absurd (nI_le (show tc ≤ i by omega) (by omega)) c))
  | succ m ih =>
    intro i hm hj
    refine gx_run 4 (And.intro (fun c => absurd c (nI_ge (show i < tc by omega) (by omega))) (fun _ => gx_run 5 (And.intro (fun c => absurd c (nI_ge (show i < n / 16 + 1 by omega) (by omega))) (fun _ => gx_run 6 (gx_ar i rfl (show i < n / 16 + 1 by omega) (by omega) ?_)))))
    refine And.intro (fun c => gx_run 2 ?_) (fun c => gx_run 2 (And.intro (Or.inr rfl) (And.intro (Or.inl ⟨rfl, i, by omega, c⟩) rfl)))
    have h9 := ih (i + 1) (by omega) (fun j hj2 => by
      by_cases e : j = i
      · subst e; exact c
      · exact hj j (by omega))
    rw [← nI_add i 1] at h9
    exact h9
theorem k_G_isLive (x : Int32) (hc : tc ≤ n / 16 + 1) (hn : n < 2147483648) : gx_call LL xs (d + 1) z_G_isLive 0 0 [.ref 0, .int x] (gc_h n μ sp fo pc lp cl tk tc F tn tl) (fun r h => ((r = some (.int (nI 1)) ∧ ∃ j, j < tc ∧ nI (tk j) = x) ∨ (r = some (.int (nI 0)) ∧ ∀ j, j < tc → ¬ nI (tk j) = x)) ∧ h = (gc_h n μ sp fo pc lp cl tk tc F tn tl)) :=
  gs_G_isLive _ _ (gx_run 2 (k_G_isLive_l x hc hn tc 0 (Nat.zero_add tc) (fun j h => absurd h (Nat.not_lt_zero j))))
theorem k_G_valueFromLast {j : Nat} (hj : 4 * (j + 1) ≤ sp) (hs : sp ≤ n) (hn : n < 2147483648) (hμ : ∀ i, μ i < 256) : gx_call LL xs (d + 3) z_G_valueFromLast 0 0 [.ref 0, .int (nI j)] (gc_h n μ sp fo pc lp cl tk tc F tn tl) (fun r h => r = some (.int (ga_rd μ (sp - 4 * (j + 1)) 4)) ∧ h = (gc_h n μ sp fo pc lp cl tk tc F tn tl)) := by
  have hc : gx_call LL xs (d + 2) z_R_number 0 0 [.ref 3, .int (nI sp - nI 4 * (nI j + nI 1)), .int (nI 4)] (gc_h n μ sp fo pc lp cl tk tc F tn tl) (fun r h => r = some (.int (ga_rd μ (sp - 4 * (j + 1)) 4)) ∧ h = (gc_h n μ sp fo pc lp cl tk tc F tn tl)) := by
    rw [nI_add, pk_mul, pk_sub hj]
    exact k_R_number (by omega) hn hμ
  exact gs_G_valueFromLast _ _ (gx_run 14 (And.intro ⟨_, rfl⟩ (gx_c1 (gx_le8 rfl) k_R_end (And.intro ⟨_, rfl⟩ (gx_c1 (gx_le8 rfl) hc (And.intro rfl rfl))))))
/-- values taken, the last first -/
def ga_tv (μ : Nat → Nat) (sp m : Nat) (tn : Nat → Int32) : Nat → Int32 := fun i => if i < m then ga_rd μ (sp - 4 * (i + 1)) 4 else tn i
theorem ga_tv_s {μ : Nat → Nat} {sp m : Nat} {tn : Nat → Int32} : upd (ga_tv μ sp m tn) m (ga_rd μ (sp - 4 * (m + 1)) 4) = ga_tv μ sp (m + 1) tn := by
  funext i
  unfold upd ga_tv
  by_cases h : i = m
  · subst h; simp
  · by_cases h2 : i < m
    · simp [h, h2, show i < m + 1 by omega]
    · simp [h, h2, show ¬ i < m + 1 by omega]
theorem ga_tv_0 {μ : Nat → Nat} {sp : Nat} {tn : Nat → Int32} : ga_tv μ sp 0 tn = tn := by
  funext i
  unfold ga_tv
  rw [if_neg (Nat.not_lt_zero i)]
theorem k_G_takeValues_l {m : Nat} (hm : 4 * m ≤ sp) (hs : sp ≤ n) (hn : n < 2147483648) (hμ : ∀ i, μ i < 256) : ∀ (q i : Nat), i + q = m →
    gx_E LL xs (gx_call LL xs (d + 3)) cd_G_takeValues (fun r h => r = none ∧ h = (gc_h n μ (sp - 4 * m) fo pc lp cl tk tc F (ga_tv μ sp m tn) tl)) 2 [some (.ref 0), some (.int (nI m)), some (.int (nI i))] [] (gc_h n μ sp fo pc lp cl tk tc F (ga_tv μ sp i tn) tl) 0 0 := by
  intro q
  induction q with
  | zero =>
    intro i hq
    obtain rfl : i = m := by omega
    have hc : gx_call LL xs (d + 3) z_R_cutTo 0 0 [.ref 3, .int (nI sp - nI 4 * nI i)] (gc_h n μ sp fo pc lp cl tk tc F (ga_tv μ sp i tn) tl) (fun r h => r = none ∧ h = (gc_h n μ (sp - 4 * i) fo pc lp cl tk tc F (ga_tv μ sp i tn) tl)) := by
      rw [pk_mul, pk_sub hm]
      exact k_R_cutTo (Nat.sub_le _ _) (by omega)
    exact gx_run 3 (And.intro (fun _ => gx_run 11 (And.intro ⟨_, rfl⟩ (gx_c1 (gx_le8 rfl) k_R_end (And.intro ⟨_, rfl⟩ (gx_c1 (gx_le8 rfl) hc (And.intro rfl rfl)))))) (fun c => absurd (nI_le (Nat.le_refl i) (by omega)) c))
  | succ q ih =>
    intro i hq
    refine gx_run 3 (And.intro (fun c => absurd c (nI_ge (show i < m by omega) (by omega))) (fun _ => gx_run 5 (And.intro (fun c => absurd c (nI_ge (show i < n / 4 + 1 by omega) (by omega))) (fun _ => gx_run 9 (And.intro ⟨_, rfl⟩ (gx_c1 (gx_le8 rfl) (k_G_valueFromLast (j := i) (by omega) hs hn hμ) (gx_ar i rfl (show i < n / 4 + 1 by omega) (by omega) ?_)))))))
    have h9 := ih (i + 1) (by omega)
    rw [← nI_add i 1, ← ga_tv_s] at h9
    exact h9
theorem k_G_takeValues {m : Nat} (hm : 4 * m ≤ sp) (hs : sp ≤ n) (hn : n < 2147483648) (hμ : ∀ i, μ i < 256) : gx_call LL xs (d + 4) z_G_takeValues 0 0 [.ref 0, .int (nI m)] (gc_h n μ sp fo pc lp cl tk tc F tn tl) (fun r h => r = none ∧ h = (gc_h n μ (sp - 4 * m) fo pc lp cl tk tc F (ga_tv μ sp m tn) tl)) := by
  have h9 := k_G_takeValues_l (LL := LL) (xs := xs) (d := d) (fo := fo) (pc := pc) (lp := lp) (cl := cl) (tk := tk) (tc := tc) (F := F) (tn := tn) (tl := tl) hm hs hn hμ m 0 (Nat.zero_add m)
  rw [ga_tv_0] at h9
  exact gs_G_takeValues _ _ (gx_run 2 h9)
theorem k_G_takenValue {i : Nat} (hi : i < n / 4 + 1) (hn : n < 2147483648) : gx_call LL xs (d + 1) z_G_takenValue 0 0 [.ref 0, .int (nI i)] (gc_h n μ sp fo pc lp cl tk tc F tn tl) (fun r h => r = some (.int (tn i)) ∧ h = (gc_h n μ sp fo pc lp cl tk tc F tn tl)) :=
  gs_G_takenValue _ _ (gx_run 2 (And.intro (fun c => absurd c (nI_pos (by omega))) (fun _ => gx_run 5 (And.intro (fun c => absurd c (nI_ge hi (by omega))) (fun _ => gx_run 6 (gx_ar i rfl hi (by omega) (And.intro rfl rfl)))))))
end GCI
end
section
/-! The class's small methods that lean on the marks. -/
def ga_vc (μ : Nat → Nat) (sp : Nat) (M : ga_M) : Nat := match ga_top M with
  | none => 0
  | some _ => (sp - ga_base μ M) / 4
def ga_ce (x : Int32) : Bool := !(decide (x < 0)) && !(decide (nI 16 ≤ x))
/-- whether a value can go -/
def ga_cg (μ : Nat → Nat) (way addr : Int32) (fo : Option Nat) : Bool :=
  if way = nI 0 then true else if way = nI 1 then ga_ce addr else if way = nI 2 then (match fo with
    | none => false
    | some f => ga_il μ f addr (nI 4)) else if way = nI 3 then fo.isSome else false
def ga_g1 (μ : Nat → Nat) (sp : Nat) (fo : Option Nat) (way addr v : Int32) : Nat → Nat :=
  if way = nI 2 then (match fo with
    | none => μ
    | some f => ga_wr μ (f + ga_w μ (f + 4) + addr.toNatClampNeg) 4 v) else if way = nI 3 then ga_wr μ sp 4 v else μ
def ga_g2 (sp : Nat) (way : Int32) : Nat := if way = nI 3 then sp + 4 else sp
def ga_g3 (cl : Nat → Int32) (way addr v : Int32) : Nat → Int32 := if way = nI 1 then upd cl addr.toNatClampNeg v else cl
theorem ga_ce_of {x : Int32} (h : ga_ce x = true) : ∃ j, j < 16 ∧ x = nI j := by
  unfold ga_ce at h
  simp only [Bool.and_eq_true, Bool.not_eq_true', decide_eq_false_iff_not] at h
  rcases pk_ix x (n := 16) (by decide) with c | c | c
  · exact absurd c h.1
  · exact absurd c h.2
  · exact c
theorem ga_il_of {μ : Nat → Nat} {f w : Nat} {x : Int32} (hw : w ≤ 4) (hb : ga_w μ f < 2 ^ 30) (h : ga_il μ f x (nI w) = true) : ∃ p, x = nI p ∧ p + w ≤ ga_w μ f - ga_w μ (f + 4) := by
  unfold ga_il at h
  simp only [Bool.and_eq_true, Bool.not_eq_true', decide_eq_false_iff_not] at h
  obtain ⟨p, hp, rfl⟩ := nI_of h.1
  refine ⟨p, rfl, ?_⟩
  have h2 := h.2
  rw [Int32.lt_iff_toInt_lt, nI_toInt hp, pk_sub_toInt (by omega) (by omega)] at h2
  omega
theorem ga_g2_le {sp n : Nat} {way : Int32} (h : sp ≤ n) (h3 : way = nI 3 → sp + 4 ≤ n) : ga_g2 sp way ≤ n := by
  unfold ga_g2
  split
  · exact h3 (by assumption)
  · exact h
section GCJ
variable {LL : Nat} {xs : Nat → Int32} {d : Nat} {n : Nat} {μ : Nat → Nat} {sp : Nat} {fo : Option Nat} {pc lp : Int32} {cl : Nat → Int32} {tk : Nat → Nat} {tc : Nat} {F : Nat → ga_F} {tn : Nat → Int32} {tl : gx_H} {M : ga_M}
theorem k_G_valuesBegin {f : Nat} (hmk : ga_mk μ sp M) (htk : ga_tk tk M) (hs : sp ≤ n) (hn : n ≤ 1024) (hμ : ∀ i, μ i < 256) (hf : ga_top M = some f) : gx_call LL xs (d + 4) z_G_valuesBegin 0 0 [.ref 0] (gc_h n μ sp (ga_top M) pc lp cl tk (ga_tc M) F tn tl) (fun r h => r = some (.int (nI (ga_base μ M))) ∧ h = (gc_h n μ sp (ga_top M) pc lp cl tk (ga_tc M) F tn tl)) := by
  have hcnt := ga_tc_le hmk
  have hft := ga_mk_top hmk hf
  refine gs_G_valuesBegin _ (gx_run 7 (And.intro ⟨_, rfl⟩ (gx_c1 (gx_le8 rfl) (k_G_latestToken (by omega) (by omega)) ?_)))
  match M, hmk, htk, hf with
  | (true, g) :: es, ⟨h1, h2, h3, h4, h5, h6⟩, ht, hf =>
    cases hf
    refine And.intro (fun _ => ?_) (fun c => absurd ?_ c)
    · exact gx_run 5 (And.intro ⟨_, rfl⟩ (gx_c1 (gx_le8 rfl) (k_G_valuesAt (by omega) (by omega) hμ) (And.intro rfl rfl)))
    · show ga_fp (ga_lt tk (ga_tc es)) ≤ nI f
      cases hc : ga_tc es with
      | zero => rw [Int32.le_iff_toInt_le, nI_toInt (by omega)]; show (-(nI 1)).toInt ≤ _; rw [show (-(nI 1)).toInt = -1 by decide]; omega
      | succ c =>
        have := ga_tk_le h6 ht c (by omega)
        exact nI_le (by omega) (by omega)
  | (false, t) :: es, ⟨h1, h2, h3, h4, h5⟩, ⟨t1, t2⟩, hf =>
    have hf2 : ga_top es = some f := hf
    have hlt := ga_mk_top h5 hf2
    have e1 : ga_fp (ga_lt tk (ga_tc ((false, t) :: es))) = nI t := by
      show nI (tk (ga_tc es)) = nI t
      rw [t1]
    have e2 : ga_fp (ga_top ((false, t) :: es)) = nI f := by rw [hf]; rfl
    refine And.intro (fun c => ?_) (fun _ => gx_run 3 (And.intro ?_ rfl))
    · rw [e1, e2] at c
      exact absurd c (nI_ge (by omega) (by omega))
    · rw [e1]; rfl
theorem k_G_valueCount (hmk : ga_mk μ sp M) (htk : ga_tk tk M) (hs : sp ≤ n) (hn : n ≤ 1024) (hμ : ∀ i, μ i < 256) : gx_call LL xs (d + 5) z_G_valueCount 0 0 [.ref 0] (gc_h n μ sp (ga_top M) pc lp cl tk (ga_tc M) F tn tl) (fun r h => r = some (.int (nI (ga_vc μ sp M))) ∧ h = (gc_h n μ sp (ga_top M) pc lp cl tk (ga_tc M) F tn tl)) := by
  cases hf : ga_top M with
  | none =>
    refine gs_G_valueCount _ (gx_run 4 (And.intro (fun c => absurd rfl c) (fun _ => gx_run 3 (And.intro ?_ rfl))))
    unfold ga_vc
    rw [hf]
  | some f =>
    have hlt := ga_top_lt hmk hf
    have hb := ga_base_le hmk
    have hc := k_G_valuesBegin (LL := LL) (xs := xs) (d := d) (n := n) (pc := pc) (lp := lp) (cl := cl) (F := F) (tn := tn) (tl := tl) hmk htk hs hn hμ hf
    rw [hf] at hc
    refine gs_G_valueCount _ (gx_run 4 (And.intro (fun _ => gx_run 9 (And.intro ⟨_, rfl⟩ (gx_c1 (gx_le8 rfl) k_R_end (And.intro ⟨_, rfl⟩ (gx_c1 (gx_le8 rfl) hc (And.intro (by decide) (And.intro ?_ rfl))))))) (fun c => absurd c (ga_fp_none (by omega)))))
    rw [pk_sub hb, pk_div (by omega) (by decide) (by decide)]
    unfold ga_vc
    rw [hf]
theorem k_G_canGo (way addr : Int32) {fp2 : Option Nat} (hn : n < 2147483648) (hμ : ∀ i, μ i < 256) (hf : ∀ f, fp2 = some f → f + 8 ≤ n ∧ ga_w μ (f + 4) ≤ ga_w μ f) : gx_call LL xs (d + 5) z_G_canGo 0 0 [.ref 0, .int way, .int addr, .int (ga_fp fp2)] (gc_h n μ sp fo pc lp cl tk tc F tn tl) (fun r h => r = some (.int (ga_b (ga_cg μ way addr fp2))) ∧ h = (gc_h n μ sp fo pc lp cl tk tc F tn tl)) := by
  refine gs_G_canGo _ _ _ _ (gx_run 2 (And.intro (fun c => ?_) (And.intro (fun c => ?_) (And.intro (fun c => ?_) (And.intro (fun c => ?_) (And.intro (fun c => ?_) trivial))))))
  · have c0 : ¬ way = nI 0 := c 0 (by decide)
    have c1 : ¬ way = nI 1 := c 1 (by decide)
    have c2 : ¬ way = nI 2 := c 2 (by decide)
    have c3 : ¬ way = nI 3 := c 3 (by decide)
    refine gx_run 2 (And.intro (Or.inl rfl) (And.intro ?_ rfl))
    simp only [ga_cg, if_neg c0, if_neg c1, if_neg c2, if_neg c3, ga_b]
  · have c : way = nI 0 := c
    subst c
    exact gx_run 2 (And.intro (Or.inr rfl) (And.intro rfl rfl))
  · have c : way = nI 1 := c
    subst c
    have e : ga_cg μ (nI 1) addr fp2 = ga_ce addr := rfl
    rw [e]
    refine gx_run 3 (gx_c1 (gx_le8 rfl) (k_G_isCell addr) ?_)
    by_cases h : addr < 0 ∨ nI 16 ≤ addr
    · rw [if_pos h]
      refine And.intro (Or.inl rfl) (And.intro ?_ rfl)
      rcases h with h | h <;> simp [ga_ce, h, ga_b]
    · rw [if_neg h]
      refine And.intro (Or.inr rfl) (And.intro ?_ rfl)
      have h1 : ¬ addr < 0 := fun z => h (Or.inl z)
      have h2 : ¬ nI 16 ≤ addr := fun z => h (Or.inr z)
      simp only [ga_ce, h1, h2, ga_b, decide_false, Bool.not_false, Bool.and_true]
  · have c : way = nI 2 := c
    subst c
    cases fp2 with
    | none =>
      exact gx_run 3 (gx_c1 (gx_le8 rfl) (k_G_isFrame _) (And.intro (fun _ => gx_run 2 (And.intro (Or.inl rfl) (And.intro rfl rfl))) (fun c => absurd rfl c)))
    | some f =>
      obtain ⟨h1, h2⟩ := hf f rfl
      have e : ga_cg μ (nI 2) addr (some f) = ga_il μ f addr (nI 4) := rfl
      rw [e]
      refine gx_run 3 (gx_c1 (gx_le8 rfl) (k_G_isFrame _) ?_)
      rw [if_neg (show ¬ ga_fp (some f) = -(nI 1) from ga_fp_none (by omega))]
      refine And.intro (fun c => absurd c (by decide)) (fun _ => gx_run 6 (And.intro ⟨_, rfl⟩ (gx_c1 (gx_le8 rfl) (k_G_isInLocals addr (nI 4) h1 hn hμ h2) ?_)))
      cases ga_il μ f addr (nI 4) with
      | true => exact And.intro (fun c => absurd c (by decide)) (fun _ => gx_run 3 (And.intro (Or.inr rfl) (And.intro rfl rfl)))
      | false => exact And.intro (fun _ => gx_run 2 (And.intro (Or.inl rfl) (And.intro rfl rfl))) (fun c => absurd rfl c)
  · have c : way = nI 3 := c
    subst c
    cases fp2 with
    | none => exact gx_run 3 (gx_c1 (gx_le8 rfl) (k_G_isFrame _) (And.intro (Or.inl rfl) (And.intro rfl rfl)))
    | some f =>
      obtain ⟨h1, h2⟩ := hf f rfl
      refine gx_run 3 (gx_c1 (gx_le8 rfl) (k_G_isFrame _) ?_)
      rw [if_neg (show ¬ ga_fp (some f) = -(nI 1) from ga_fp_none (by omega))]
      exact And.intro (Or.inr rfl) (And.intro rfl rfl)
theorem k_G_send (v way addr : Int32) (hn : n ≤ 1024) (hs : sp ≤ n) (hμ : ∀ i, μ i < 256) (hf : ∀ f, fo = some f → f + 8 ≤ n ∧ f + ga_w μ f ≤ n) (hcg : ga_cg μ way addr fo = true) (h3 : way = nI 3 → sp + 4 ≤ n) :
    gx_call LL xs (d + 4) z_G_send 0 0 [.ref 0, .int v, .int way, .int addr] (gc_h n μ sp fo pc lp cl tk tc F tn tl) (fun r h => r = none ∧ h = (gc_h n (ga_g1 μ sp fo way addr v) (ga_g2 sp way) fo pc lp (ga_g3 cl way addr v) tk tc F tn tl)) := by
  refine gs_G_send _ _ _ _ (gx_run 2 (And.intro (fun c => ?_) (And.intro (fun c => ?_) (And.intro (fun c => ?_) (And.intro (fun c => ?_) trivial)))))
  · have c1 : ¬ way = nI 1 := c 0 (by decide)
    have c2 : ¬ way = nI 2 := c 1 (by decide)
    have c3 : ¬ way = nI 3 := c 2 (by decide)
    simp only [ga_g1, ga_g2, ga_g3, if_neg c1, if_neg c2, if_neg c3]
    exact gx_run 1 (And.intro rfl rfl)
  · have c : way = nI 1 := c
    subst c
    obtain ⟨j, hj, rfl⟩ := ga_ce_of (show ga_ce addr = true from hcg)
    refine gx_run 3 (gx_c1 (gx_le8 rfl) (k_G_isCell _) ?_)
    rw [if_neg (by
      rintro (h | h)
      · exact nI_pos (by omega) h
      · exact nI_ge hj (by omega) h)]
    refine And.intro (fun c => absurd c (by decide)) (fun _ => gx_run 7 (gx_ar j rfl hj (by decide) (And.intro rfl ?_)))
    have e : ga_g3 cl (nI 1) (nI j) v = upd cl j v := by
      show upd cl (nI j).toNatClampNeg v = _
      rw [nI_clamp (by omega)]
    rw [e]
    rfl
  · have c : way = nI 2 := c
    subst c
    cases fo with
    | none => exact Bool.noConfusion (show false = true from hcg)
    | some f =>
      obtain ⟨h1, h2⟩ := hf f rfl
      obtain ⟨p, rfl, hp⟩ := ga_il_of (w := 4) (by omega) (by omega) (show ga_il μ f addr (nI 4) = true from hcg)
      have e : ga_g1 μ sp (some f) (nI 2) (nI p) v = ga_wr μ (f + ga_w μ (f + 4) + p) 4 v := by
        show ga_wr μ (f + ga_w μ (f + 4) + (nI p).toNatClampNeg) 4 v = _
        rw [nI_clamp (by omega)]
      rw [e]
      have hc : gx_call LL xs (d + 3) z_R_set 0 0 [.ref 3, .int (nI (f + ga_w μ (f + 4)) + nI p), .int (nI 4), .int v] (gc_h n μ sp (some f) pc lp cl tk tc F tn tl) (fun r h => r = none ∧ h = (gc_h n (ga_wr μ (f + ga_w μ (f + 4) + p) 4 v) sp (some f) pc lp cl tk tc F tn tl)) := by
        rw [nI_add]
        exact k_R_set (by omega) (by omega)
      exact gx_run 13 (And.intro ⟨_, rfl⟩ (gx_c1 (gx_le8 rfl) (k_G_localsAt h1 (by omega) hμ) (And.intro ⟨_, rfl⟩ (gx_c1 (gx_le8 rfl) hc (And.intro rfl rfl)))))
  · have c : way = nI 3 := c
    subst c
    exact gx_run 6 (And.intro ⟨_, rfl⟩ (gx_c1 (gx_le8 rfl) (k_R_append (h3 rfl) (by omega)) (And.intro rfl rfl)))
theorem k_G_faultOfLast (x : Int32) (hmk : ga_mk μ sp M) (htk : ga_tk tk M) (hs : sp ≤ n) (hn : n ≤ 1024) (hμ : ∀ i, μ i < 256) : gx_call LL xs (d + 6) z_G_faultOfLast 0 0 [.ref 0, .int x] (gc_h n μ sp (ga_top M) pc lp cl tk (ga_tc M) F tn tl) (fun r h => r = some (.int (if x < 0 then -(nI 1) else if ga_top M = none then -(nI 16) else if nI (ga_vc μ sp M) < x then -(nI 12) else nI 0)) ∧ h = (gc_h n μ sp (ga_top M) pc lp cl tk (ga_tc M) F tn tl)) := by
  refine gs_G_faultOfLast _ _ (gx_run 2 (And.intro (fun c => ?_) (fun c => gx_run 2 (And.intro ?_ rfl))))
  · have c' : ¬ x < 0 := by rw [Int32.not_lt]; exact c
    rw [if_neg c']
    refine gx_run 4 (And.intro (fun c2 => ?_) (fun c2 => gx_run 2 (And.intro ?_ rfl)))
    · rw [if_neg (fun e => c2 (by rw [e]; rfl))]
      refine gx_run 4 (And.intro ⟨_, rfl⟩ (gx_c1 (gx_le8 rfl) (k_G_valueCount hmk htk hs hn hμ) ?_))
      refine And.intro (fun c3 => gx_run 2 (And.intro ?_ rfl)) (fun c3 => gx_run 3 (And.intro ?_ rfl))
      · rw [if_neg (Int32.not_lt.mpr c3)]
      · rw [if_pos (Int32.not_le.mp c3)]
    · have : ga_top M = none := by
        cases hf : ga_top M with
        | none => rfl
        | some f =>
          rw [hf] at c2
          have := ga_top_lt hmk hf
          exact absurd c2 (ga_fp_none (by omega))
      rw [if_pos this]
  · rw [if_pos (Int32.not_le.mp c)]
theorem k_G_faultOfLocal (place w : Int32) (hmk : ga_mk μ sp M) (hs : sp ≤ n) (hn : n ≤ 1024) (hμ : ∀ i, μ i < 256) : gx_call LL xs (d + 5) z_G_faultOfLocal 0 0 [.ref 0, .int place, .int w] (gc_h n μ sp (ga_top M) pc lp cl tk (ga_tc M) F tn tl) (fun r h => r = some (.int (if ¬ (w = nI 1 ∨ w = nI 2 ∨ w = nI 4) then -(nI 1) else match ga_top M with
    | none => -(nI 16)
    | some f => if ga_il μ f place w = true then nI 0 else -(nI 13))) ∧ h = (gc_h n μ sp (ga_top M) pc lp cl tk (ga_tc M) F tn tl)) := by
  refine gs_G_faultOfLocal _ _ _ (gx_run 3 (gx_c1 (gx_le8 rfl) (k_G_isWidth w) ?_))
  by_cases hw : w = nI 1 ∨ w = nI 2 ∨ w = nI 4
  · rw [if_pos hw, if_neg (fun h => h hw)]
    refine And.intro (fun _ => ?_) (fun c => absurd c (by decide))
    cases hf : ga_top M with
    | none => exact gx_run 4 (And.intro (fun c => absurd rfl c) (fun _ => gx_run 2 (And.intro rfl rfl)))
    | some f =>
      have hlt := ga_mk_top hmk hf
      refine gx_run 4 (And.intro (fun _ => ?_) (fun c => absurd c (ga_fp_none (by omega))))
      refine gx_run 7 (And.intro ⟨_, rfl⟩ (gx_c1 (gx_le8 rfl) (k_G_isInLocals place w (by omega) (by omega) hμ hlt.2.2.1) ?_))
      cases hi : ga_il μ f place w with
      | true => exact And.intro (fun c => absurd c (by decide)) (fun _ => gx_run 3 (And.intro (by show _ = some (Value.int (if ga_il μ f place w = true then nI 0 else -(nI 13))); rw [if_pos hi]) rfl))
      | false => exact And.intro (fun _ => gx_run 2 (And.intro (by show _ = some (Value.int (if ga_il μ f place w = true then nI 0 else -(nI 13))); rw [if_neg (by rw [hi]; decide)]) rfl)) (fun c => absurd rfl c)
  · rw [if_neg hw, if_pos hw]
    exact And.intro (fun c => absurd rfl c) (fun _ => gx_run 2 (And.intro rfl rfl))
theorem k_G_frameCount_l (hs : sp ≤ n) (hn : n ≤ 1024) (hμ : ∀ i, μ i < 256) (M0 : ga_M) : ∀ (M : ga_M) (lim c : Nat), ga_mk μ lim M → lim ≤ sp → 16 * c + 16 * ga_fc M ≤ n →
    gx_E LL xs (gx_call LL xs (d + 3)) cd_G_frameCount (fun r h => r = some (.int (nI (c + ga_fc M))) ∧ h = (gc_h n μ sp (ga_top M0) pc lp cl tk (ga_tc M0) F tn tl)) 5 [some (.ref 0), some (.int (nI c)), some (.int (ga_fp (ga_top M)))] [] (gc_h n μ sp (ga_top M0) pc lp cl tk (ga_tc M0) F tn tl) 0 0
  | [], lim, c, _, _, _ => gx_run 3 (gx_c1 (gx_le8 rfl) (k_G_isFrame _) (And.intro (fun _ => gx_run 2 (And.intro rfl rfl)) (fun c => absurd rfl c)))
  | (false, t) :: es, lim, c, ⟨h1, h2, h3, h4, h5⟩, hl, hc => k_G_frameCount_l hs hn hμ M0 es (t - 16) c h5 (by omega) hc
  | (true, f) :: es, lim, c, ⟨h1, h2, h3, h4, h5, h6⟩, hl, hc => by
    have hc' : 16 * c + 16 * (ga_fc es + 1) ≤ n := hc
    refine gx_run 3 (gx_c1 (gx_le8 rfl) (k_G_isFrame _) ?_)
    rw [if_neg (show ¬ ga_fp (ga_top ((true, f) :: es)) = -(nI 1) from ga_fp_none (by omega))]
    refine And.intro (fun c => absurd c (by decide)) (fun _ => gx_run 5 (And.intro ⟨_, rfl⟩ (gx_c1 (gx_le8 rfl) k_R_size (And.intro (fun z => absurd z (nI_ge (show c < n by omega) (by omega))) (fun _ => gx_run 6 (And.intro ⟨_, rfl⟩ (gx_c1 (gx_le8 rfl) (k_G_frameBelow (e := f) (by omega) (by omega) (by omega) hμ) ?_)))))))
    have h9 := k_G_frameCount_l hs hn hμ M0 es (f - 16) (c + 1) h6 (by omega) (by omega)
    rw [← h5, ← nI_add c 1, show c + 1 + ga_fc es = c + ga_fc ((true, f) :: es) from by show c + 1 + ga_fc es = c + (ga_fc es + 1); omega] at h9
    exact h9
theorem k_G_frameCount (hmk : ga_mk μ sp M) (hs : sp ≤ n) (hn : n ≤ 1024) (hμ : ∀ i, μ i < 256) : gx_call LL xs (d + 4) z_G_frameCount 0 0 [.ref 0] (gc_h n μ sp (ga_top M) pc lp cl tk (ga_tc M) F tn tl) (fun r h => r = some (.int (nI (ga_fc M))) ∧ h = (gc_h n μ sp (ga_top M) pc lp cl tk (ga_tc M) F tn tl)) := by
  have h9 := k_G_frameCount_l (LL := LL) (xs := xs) (d := d) (pc := pc) (lp := lp) (cl := cl) (tk := tk) (F := F) (tn := tn) (tl := tl) hs hn hμ M M sp 0 hmk (Nat.le_refl _) (by have := ga_tc_le hmk; omega)
  rw [Nat.zero_add] at h9
  exact gs_G_frameCount _ (gx_run 5 h9)
end GCJ
end
section
/-! The class's public methods on values, locals, and what can be seen. -/
theorem ga_mk_low {μ ν : Nat → Nat} {lim l2 : Nat} {M : ga_M} (h : ga_mk μ lim M) (hb : ga_base μ M ≤ l2) (hc : ∀ i, i < ga_base μ M → μ i = ν i) : ga_mk ν l2 M := ga_mk_mono hb (ga_mk_cong (ga_mk_base h) hc)
theorem ga_mk_wr {μ : Nat → Nat} {lim l2 a w : Nat} {v : Int32} {M : ga_M} (h : ga_mk μ lim M) (hb : ga_base μ M ≤ l2) (ha : ga_base μ M ≤ a) : ga_mk (ga_wr μ a w v) l2 M := ga_mk_low h hb fun i hi => (ga_wr_out (by omega)).symm
theorem ga_base_low {μ ν : Nat → Nat} {lim : Nat} : ∀ {M : ga_M}, ga_mk μ lim M → (∀ i, i < ga_base μ M → μ i = ν i) → ga_base ν M = ga_base μ M
  | [], _, _ => rfl
  | (true, f) :: es, ⟨h1, h2, h3, h4, h5, h6⟩, h => by
    show f + ga_w ν f = f + ga_w μ f
    rw [ga_w_cong fun i a b => (h i (show i < f + ga_w μ f by omega)).symm]
  | (false, t) :: es, _, _ => rfl
/-- what stands against an act on the last values -/
def ga_e (μ : Nat → Nat) (sp : Nat) (M : ga_M) (x : Int32) : Int32 := if x < 0 then -(nI 1) else if ga_top M = none then -(nI 16) else if nI (ga_vc μ sp M) < x then -(nI 12) else nI 0
theorem ga_vc_le {μ : Nat → Nat} {sp : Nat} {M : ga_M} (h : ga_mk μ sp M) : 4 * ga_vc μ sp M + ga_base μ M ≤ sp := by
  have := ga_base_le h
  unfold ga_vc
  split <;> omega
theorem ga_e0 {μ : Nat → Nat} {sp : Nat} {M : ga_M} {x : Int32} (hs : ga_vc μ sp M < 2147483648) (h : ga_e μ sp M x = nI 0) : ∃ m f, x = nI m ∧ m ≤ ga_vc μ sp M ∧ ga_top M = some f := by
  unfold ga_e at h
  split at h
  · exact absurd h (by decide)
  · rename_i h1
    split at h
    · exact absurd h (by decide)
    · rename_i h2
      split at h
      · exact absurd h (by decide)
      · rename_i h3
        obtain ⟨m, hm, rfl⟩ := nI_of h1
        cases hf : ga_top M with
        | none => exact absurd hf h2
        | some f =>
          refine ⟨m, f, rfl, ?_, rfl⟩
          rcases Nat.lt_or_ge (ga_vc μ sp M) m with c | c
          · exact absurd (nI_lt c hm) h3
          · exact c
/-- the m last values, copied one by one behind them -/
def ga_cp (μ : Nat → Nat) (sp m : Nat) : Nat → (Nat → Nat)
  | 0 => μ
  | i + 1 => ga_wr (ga_cp μ sp m i) (sp + 4 * i) 4 (ga_rd (ga_cp μ sp m i) (sp + 4 * i - 4 * m) 4)
theorem ga_cp_lt {μ : Nat → Nat} {sp m : Nat} (h : ∀ i, μ i < 256) : ∀ k i, ga_cp μ sp m k i < 256
  | 0, i => h i
  | k + 1, i => ga_wr_lt (ga_cp_lt h k) i
theorem ga_cp_low {μ : Nat → Nat} {sp m : Nat} : ∀ {k i : Nat}, i < sp → ga_cp μ sp m k i = μ i
  | 0, _, _ => rfl
  | k + 1, i, h => by
    show ga_wr _ _ _ _ i = _
    rw [ga_wr_out (by omega)]
    exact ga_cp_low h
/-- words laid one behind the other from a on -/
def ga_ws (a : Nat) (V : Nat → Int32) (μ : Nat → Nat) : Nat → (Nat → Nat)
  | 0 => μ
  | p + 1 => ga_wr (ga_ws a V μ p) (a + 4 * p) 4 (V p)
theorem ga_ws_lt {a : Nat} {V : Nat → Int32} {μ : Nat → Nat} (h : ∀ i, μ i < 256) : ∀ k i, ga_ws a V μ k i < 256
  | 0, i => h i
  | k + 1, i => ga_wr_lt (ga_ws_lt h k) i
theorem ga_ws_out {a : Nat} {V : Nat → Int32} {μ : Nat → Nat} : ∀ {k i : Nat}, (i < a ∨ a + 4 * k ≤ i) → ga_ws a V μ k i = μ i
  | 0, _, _ => rfl
  | k + 1, i, h => by
    show ga_wr _ _ _ _ i = _
    rw [ga_wr_out (by omega)]
    exact ga_ws_out (by omega)
section GCK
variable {LL : Nat} {xs : Nat → Int32} {d : Nat} {n : Nat} {μ : Nat → Nat} {sp : Nat} {fo : Option Nat} {pc lp : Int32} {cl : Nat → Int32} {tk : Nat → Nat} {tc : Nat} {F : Nat → ga_F} {tn : Nat → Int32} {tl : gx_H} {M : ga_M}
theorem k_G_popped : gx_call LL xs (d + 1) z_G_popped 0 0 [.ref 0] (gc_h n μ sp fo pc lp cl tk tc F tn tl) (fun r h => r = some (.int lp) ∧ h = (gc_h n μ sp fo pc lp cl tk tc F tn tl)) :=
  gs_G_popped _ (gx_run 3 (And.intro rfl rfl))
theorem k_G_push_n (v : Int32) : gx_call LL xs (d + 1) z_G_push 0 0 [.ref 0, .int v] (gc_h n μ sp none pc lp cl tk tc F tn tl) (fun r h => r = some (.int (-(nI 16))) ∧ h = (gc_h n μ sp none pc lp cl tk tc F tn tl)) :=
  gs_G_push _ _ (gx_run 4 (And.intro (fun c => absurd rfl c) (fun _ => gx_run 2 (And.intro rfl rfl))))
theorem k_G_push_f (v : Int32) {f : Nat} (hf : f < 2147483648) (hs : sp ≤ n) (hn : n ≤ 1024) (hfull : n < sp + 4) : gx_call LL xs (d + 2) z_G_push 0 0 [.ref 0, .int v] (gc_h n μ sp (some f) pc lp cl tk tc F tn tl) (fun r h => r = some (.int (-(nI 15))) ∧ h = (gc_h n μ sp (some f) pc lp cl tk tc F tn tl)) := by
  refine gs_G_push _ _ (gx_run 4 (And.intro (fun _ => ?_) (fun c => absurd c (ga_fp_none hf))))
  refine gx_run 9 (And.intro ⟨_, rfl⟩ (gx_c1 (gx_le8 rfl) k_R_end (And.intro ⟨_, rfl⟩ (gx_c1 (gx_le8 rfl) (k_R_reaches _) ?_))))
  rw [nI_add, if_pos (nI_lt hfull (by omega))]
  exact And.intro (fun c => absurd rfl c) (fun _ => gx_run 2 (And.intro rfl rfl))
theorem k_G_push (v : Int32) {f : Nat} (hmk : ga_mk μ sp M) (htk : ga_tk tk M) (hn : n ≤ 1024) (hμ : ∀ i, μ i < 256) (hf : ga_top M = some f) (hfull : sp + 4 ≤ n) : gx_call LL xs (d + 6) z_G_push 0 0 [.ref 0, .int v] (gc_h n μ sp (ga_top M) pc lp cl tk (ga_tc M) F tn tl) (fun r h => r = some (.int (nI (ga_vc (ga_wr μ sp 4 v) (sp + 4) M))) ∧ h = (gc_h n (ga_wr μ sp 4 v) (sp + 4) (ga_top M) pc lp cl tk (ga_tc M) F tn tl)) := by
  have hlt := ga_top_lt hmk hf
  have hb := ga_base_le hmk
  have hvc := k_G_valueCount (LL := LL) (xs := xs) (d := d) (n := n) (pc := pc) (lp := lp) (cl := cl) (F := F) (tn := tn) (tl := tl) (ga_mk_wr (v := v) (w := 4) (l2 := sp + 4) hmk (by omega) hb) htk hfull hn (ga_wr_lt hμ)
  rw [hf] at hvc ⊢
  refine gs_G_push _ _ (gx_run 4 (And.intro (fun _ => ?_) (fun c => absurd c (ga_fp_none (by omega)))))
  refine gx_run 9 (And.intro ⟨_, rfl⟩ (gx_c1 (gx_le8 rfl) k_R_end (And.intro ⟨_, rfl⟩ (gx_c1 (gx_le8 rfl) (k_R_reaches _) ?_))))
  rw [nI_add, if_neg (nI_nlt hfull (by omega))]
  refine And.intro (fun _ => gx_run 7 (And.intro ⟨_, rfl⟩ (gx_c1 (gx_le8 rfl) (k_R_append hfull (by omega)) (And.intro ⟨_, rfl⟩ (gx_c1 (gx_le8 rfl) hvc (And.intro rfl rfl)))))) (fun c => absurd c (by decide))
theorem k_G_pop_e (hmk : ga_mk μ sp M) (htk : ga_tk tk M) (hs : sp ≤ n) (hn : n ≤ 1024) (hμ : ∀ i, μ i < 256) {y : Int32} (hy : ga_e μ sp M (nI 1) = y) (h0 : ¬ y = 0) : gx_call LL xs (d + 7) z_G_pop 0 0 [.ref 0] (gc_h n μ sp (ga_top M) pc lp cl tk (ga_tc M) F tn tl) (fun r h => r = some (.int y) ∧ h = (gc_h n μ sp (ga_top M) pc lp cl tk (ga_tc M) F tn tl)) := by
  have hfl := k_G_faultOfLast (LL := LL) (xs := xs) (d := d) (pc := pc) (lp := lp) (cl := cl) (F := F) (tn := tn) (tl := tl) (nI 1) hmk htk hs hn hμ
  rw [show (if nI 1 < 0 then -(nI 1) else if ga_top M = none then -(nI 16) else if nI (ga_vc μ sp M) < nI 1 then -(nI 12) else nI 0) = y from hy] at hfl
  exact gs_G_pop _ (gx_run 6 (And.intro ⟨_, rfl⟩ (gx_c1 (gx_le8 rfl) hfl (And.intro (fun c => absurd c h0) (fun _ => gx_run 2 (And.intro rfl rfl))))))
theorem k_G_pop (hmk : ga_mk μ sp M) (htk : ga_tk tk M) (hs : sp ≤ n) (hn : n ≤ 1024) (hμ : ∀ i, μ i < 256) (hy : ga_e μ sp M (nI 1) = nI 0) : gx_call LL xs (d + 7) z_G_pop 0 0 [.ref 0] (gc_h n μ sp (ga_top M) pc lp cl tk (ga_tc M) F tn tl) (fun r h => r = some (.int (nI (ga_vc μ (sp - 4) M))) ∧ h = (gc_h n μ (sp - 4) (ga_top M) pc (ga_rd μ (sp - 4) 4) cl tk (ga_tc M) F tn tl)) := by
  have hfl := k_G_faultOfLast (LL := LL) (xs := xs) (d := d) (pc := pc) (lp := lp) (cl := cl) (F := F) (tn := tn) (tl := tl) (nI 1) hmk htk hs hn hμ
  rw [show (if nI 1 < 0 then -(nI 1) else if ga_top M = none then -(nI 16) else if nI (ga_vc μ sp M) < nI 1 then -(nI 12) else nI 0) = nI 0 from hy] at hfl
  have hvl := ga_vc_le hmk
  obtain ⟨m, f, hm, hm2, hf⟩ := ga_e0 (by omega) hy
  have hm1 : 1 ≤ ga_vc μ sp M := by
    rcases Nat.lt_or_ge (ga_vc μ sp M) 1 with c | c
    · have := hy
      unfold ga_e at this
      rw [if_neg (by decide), if_neg (by rw [hf]; exact fun h => by cases h), if_pos (nI_lt c (by decide))] at this
      exact absurd this (by decide)
    · exact c
  have hc : gx_call LL xs (d + 6) z_R_cutTo 0 0 [.ref 3, .int (nI sp - nI 4)] (gc_h n μ sp (ga_top M) pc (ga_rd μ (sp - 4) 4) cl tk (ga_tc M) F tn tl) (fun r h => r = none ∧ h = (gc_h n μ (sp - 4) (ga_top M) pc (ga_rd μ (sp - 4) 4) cl tk (ga_tc M) F tn tl)) := by
    rw [pk_sub (by omega)]
    exact k_R_cutTo (by omega) (by omega)
  have hmk2 : ga_mk μ (sp - 4) M := ga_mk_low hmk (by omega) fun _ _ => rfl
  have hvc := k_G_valueCount (LL := LL) (xs := xs) (d := d + 1) (n := n) (pc := pc) (lp := ga_rd μ (sp - 4) 4) (cl := cl) (F := F) (tn := tn) (tl := tl) hmk2 htk (by omega) hn hμ
  refine gs_G_pop _ (gx_run 6 (And.intro ⟨_, rfl⟩ (gx_c1 (gx_le8 rfl) hfl (And.intro (fun _ => ?_) (fun c => absurd rfl c)))))
  exact gx_run 16 (And.intro ⟨_, rfl⟩ (gx_c1 (gx_le8 rfl) (k_G_valueFromLast (j := 0) (by omega) hs (by omega) hμ) (And.intro ⟨_, rfl⟩ (gx_c1 (gx_le8 rfl) k_R_end (And.intro ⟨_, rfl⟩ (gx_c1 (gx_le8 rfl) hc (And.intro ⟨_, rfl⟩ (gx_c1 (gx_le8 rfl) hvc (And.intro rfl rfl)))))))))
theorem k_G_peek_n (x : Int32) : gx_call LL xs (d + 1) z_G_peek 0 0 [.ref 0, .int x] (gc_h n μ sp none pc lp cl tk tc F tn tl) (fun r h => r = some (.int (-(nI 16))) ∧ h = (gc_h n μ sp none pc lp cl tk tc F tn tl)) :=
  gs_G_peek _ _ (gx_run 4 (And.intro (fun c => absurd rfl c) (fun _ => gx_run 2 (And.intro rfl rfl))))
theorem k_G_peek_e (x : Int32) {f : Nat} (hmk : ga_mk μ sp M) (htk : ga_tk tk M) (hs : sp ≤ n) (hn : n ≤ 1024) (hμ : ∀ i, μ i < 256) (hf : ga_top M = some f) (hx : x < 0 ∨ nI (ga_vc μ sp M) ≤ x) : gx_call LL xs (d + 6) z_G_peek 0 0 [.ref 0, .int x] (gc_h n μ sp (ga_top M) pc lp cl tk (ga_tc M) F tn tl) (fun r h => r = some (.int (-(nI 12))) ∧ h = (gc_h n μ sp (ga_top M) pc lp cl tk (ga_tc M) F tn tl)) := by
  have hlt := ga_top_lt hmk hf
  have hvc := k_G_valueCount (LL := LL) (xs := xs) (d := d) (n := n) (pc := pc) (lp := lp) (cl := cl) (F := F) (tn := tn) (tl := tl) hmk htk hs hn hμ
  rw [hf] at hvc ⊢
  refine gs_G_peek _ _ (gx_run 4 (And.intro (fun _ => ?_) (fun c => absurd c (ga_fp_none (by omega)))))
  refine gx_run 2 (And.intro (fun _ => gx_run 2 (And.intro rfl rfl)) (fun c1 => ?_))
  refine gx_run 4 (And.intro ⟨_, rfl⟩ (gx_c1 (gx_le8 rfl) hvc (And.intro (fun c => ?_) (fun _ => gx_run 2 (And.intro rfl rfl)))))
  rcases hx with hx | hx
  · exact absurd hx c1
  · exact absurd c (Int32.not_lt.mpr hx)
theorem k_G_peek {f j : Nat} (hmk : ga_mk μ sp M) (htk : ga_tk tk M) (hs : sp ≤ n) (hn : n ≤ 1024) (hμ : ∀ i, μ i < 256) (hf : ga_top M = some f) (hj : j < ga_vc μ sp M) : gx_call LL xs (d + 6) z_G_peek 0 0 [.ref 0, .int (nI j)] (gc_h n μ sp (ga_top M) pc lp cl tk (ga_tc M) F tn tl) (fun r h => r = some (.int (nI 1)) ∧ h = (gc_h n μ sp (ga_top M) pc (ga_rd μ (sp - 4 * (j + 1)) 4) cl tk (ga_tc M) F tn tl)) := by
  have hlt := ga_top_lt hmk hf
  have hvl := ga_vc_le hmk
  have hvc := k_G_valueCount (LL := LL) (xs := xs) (d := d) (n := n) (pc := pc) (lp := lp) (cl := cl) (F := F) (tn := tn) (tl := tl) hmk htk hs hn hμ
  rw [hf] at hvc ⊢
  refine gs_G_peek _ _ (gx_run 4 (And.intro (fun _ => ?_) (fun c => absurd c (ga_fp_none (by omega)))))
  refine gx_run 2 (And.intro (fun c => absurd c (nI_pos (by omega))) (fun c1 => ?_))
  refine gx_run 4 (And.intro ⟨_, rfl⟩ (gx_c1 (gx_le8 rfl) hvc (And.intro (fun _ => ?_) (fun c => absurd (nI_lt hj (by omega)) c))))
  exact gx_run 7 (And.intro ⟨_, rfl⟩ (gx_c1 (gx_le8 rfl) (k_G_valueFromLast (j := j) (by omega) hs (by omega) hμ) (And.intro rfl rfl)))
theorem k_G_copy_e (x : Int32) (hmk : ga_mk μ sp M) (htk : ga_tk tk M) (hs : sp ≤ n) (hn : n ≤ 1024) (hμ : ∀ i, μ i < 256) {y : Int32} (hy : ga_e μ sp M x = y) (h0 : ¬ y = 0) : gx_call LL xs (d + 7) z_G_copy 0 0 [.ref 0, .int x] (gc_h n μ sp (ga_top M) pc lp cl tk (ga_tc M) F tn tl) (fun r h => r = some (.int y) ∧ h = (gc_h n μ sp (ga_top M) pc lp cl tk (ga_tc M) F tn tl)) := by
  have hfl := k_G_faultOfLast (LL := LL) (xs := xs) (d := d) (pc := pc) (lp := lp) (cl := cl) (F := F) (tn := tn) (tl := tl) x hmk htk hs hn hμ
  rw [show (if x < 0 then -(nI 1) else if ga_top M = none then -(nI 16) else if nI (ga_vc μ sp M) < x then -(nI 12) else nI 0) = y from hy] at hfl
  exact gs_G_copy _ _ (gx_run 6 (And.intro ⟨_, rfl⟩ (gx_c1 (gx_le8 rfl) hfl (And.intro (fun c => absurd c h0) (fun _ => gx_run 2 (And.intro rfl rfl))))))
theorem k_G_copy_f {m : Nat} (hmk : ga_mk μ sp M) (htk : ga_tk tk M) (hs : sp ≤ n) (hn : n ≤ 1024) (hμ : ∀ i, μ i < 256) (hy : ga_e μ sp M (nI m) = nI 0) (hm : m ≤ ga_vc μ sp M) (hfull : n < sp + 4 * m) : gx_call LL xs (d + 7) z_G_copy 0 0 [.ref 0, .int (nI m)] (gc_h n μ sp (ga_top M) pc lp cl tk (ga_tc M) F tn tl) (fun r h => r = some (.int (-(nI 15))) ∧ h = (gc_h n μ sp (ga_top M) pc lp cl tk (ga_tc M) F tn tl)) := by
  have hfl := k_G_faultOfLast (LL := LL) (xs := xs) (d := d) (pc := pc) (lp := lp) (cl := cl) (F := F) (tn := tn) (tl := tl) (nI m) hmk htk hs hn hμ
  rw [show (if nI m < 0 then -(nI 1) else if ga_top M = none then -(nI 16) else if nI (ga_vc μ sp M) < nI m then -(nI 12) else nI 0) = nI 0 from hy] at hfl
  have hvl := ga_vc_le hmk
  refine gs_G_copy _ _ (gx_run 6 (And.intro ⟨_, rfl⟩ (gx_c1 (gx_le8 rfl) hfl (And.intro (fun _ => ?_) (fun c => absurd rfl c)))))
  refine gx_run 11 (And.intro ⟨_, rfl⟩ (gx_c1 (gx_le8 rfl) k_R_end (And.intro ⟨_, rfl⟩ (gx_c1 (gx_le8 rfl) (k_R_reaches _) ?_))))
  rw [pk_mul, nI_add, if_pos (nI_lt hfull (by omega))]
  exact And.intro (fun c => absurd rfl c) (fun _ => gx_run 2 (And.intro rfl rfl))
theorem k_G_copy_l {m : Nat} (hmk : ga_mk μ sp M) (htk : ga_tk tk M) (hs : sp + 4 * m ≤ n) (hms : 4 * m ≤ sp) (hn : n ≤ 1024) (hμ : ∀ i, μ i < 256) (w0 : Option Value) : ∀ (q i : Nat), i + q = m →
    gx_E LL xs (gx_call LL xs (d + 5)) cd_G_copy (fun r h => r = some (.int (nI (ga_vc (ga_cp μ sp m m) (sp + 4 * m) M))) ∧ h = (gc_h n (ga_cp μ sp m m) (sp + 4 * m) (ga_top M) pc lp cl tk (ga_tc M) F tn tl)) 23 [some (.ref 0), some (.int (nI m)), w0, some (.int (nI i))] [] (gc_h n (ga_cp μ sp m i) (sp + 4 * i) (ga_top M) pc lp cl tk (ga_tc M) F tn tl) 0 0 := by
  intro q
  induction q with
  | zero =>
    intro i hq
    obtain rfl : i = m := by omega
    have hb := ga_base_le hmk
    have hmk2 : ga_mk (ga_cp μ sp i i) (sp + 4 * i) M := ga_mk_low hmk (by omega) fun j hj => (ga_cp_low (by omega)).symm
    exact gx_run 3 (And.intro (fun _ => gx_run 3 (And.intro ⟨_, rfl⟩ (gx_c1 (gx_le8 rfl) (k_G_valueCount hmk2 htk hs hn (ga_cp_lt hμ i)) (And.intro rfl rfl)))) (fun c => absurd (nI_le (Nat.le_refl i) (by omega)) c))
  | succ q ih =>
    intro i hq
    have hc : gx_call LL xs (d + 5) z_G_valueFromLast 0 0 [.ref 0, .int (nI m - nI 1)] (gc_h n (ga_cp μ sp m i) (sp + 4 * i) (ga_top M) pc lp cl tk (ga_tc M) F tn tl) (fun r h => r = some (.int (ga_rd (ga_cp μ sp m i) (sp + 4 * i - 4 * m) 4)) ∧ h = (gc_h n (ga_cp μ sp m i) (sp + 4 * i) (ga_top M) pc lp cl tk (ga_tc M) F tn tl)) := by
      have h1 := k_G_valueFromLast (LL := LL) (xs := xs) (d := d + 2) (n := n) (μ := ga_cp μ sp m i) (sp := sp + 4 * i) (fo := ga_top M) (pc := pc) (lp := lp) (cl := cl) (tk := tk) (tc := ga_tc M) (F := F) (tn := tn) (tl := tl) (j := m - 1) (by omega) (by omega) (by omega) (ga_cp_lt hμ i)
      rw [show 4 * (m - 1 + 1) = 4 * m by omega, ← pk_sub (show 1 ≤ m by omega)] at h1
      exact h1
    refine gx_run 3 (And.intro (fun c => absurd c (nI_ge (show i < m by omega) (by omega))) (fun _ => gx_run 10 (And.intro ⟨_, rfl⟩ (gx_c1 (gx_le8 rfl) hc (And.intro ⟨_, rfl⟩ (gx_c1 (gx_le8 rfl) (k_R_append (show sp + 4 * i + 4 ≤ n by omega) (by omega)) ?_))))))
    have h9 := ih (i + 1) (by omega)
    rw [← nI_add i 1, show sp + 4 * (i + 1) = sp + 4 * i + 4 by omega] at h9
    exact h9
theorem k_G_copy {m : Nat} (hmk : ga_mk μ sp M) (htk : ga_tk tk M) (hn : n ≤ 1024) (hμ : ∀ i, μ i < 256) (hy : ga_e μ sp M (nI m) = nI 0) (hm : m ≤ ga_vc μ sp M) (hfull : sp + 4 * m ≤ n) : gx_call LL xs (d + 7) z_G_copy 0 0 [.ref 0, .int (nI m)] (gc_h n μ sp (ga_top M) pc lp cl tk (ga_tc M) F tn tl) (fun r h => r = some (.int (nI (ga_vc (ga_cp μ sp m m) (sp + 4 * m) M))) ∧ h = (gc_h n (ga_cp μ sp m m) (sp + 4 * m) (ga_top M) pc lp cl tk (ga_tc M) F tn tl)) := by
  have hfl := k_G_faultOfLast (LL := LL) (xs := xs) (d := d) (pc := pc) (lp := lp) (cl := cl) (F := F) (tn := tn) (tl := tl) (nI m) hmk htk (show sp ≤ n by omega) hn hμ
  rw [show (if nI m < 0 then -(nI 1) else if ga_top M = none then -(nI 16) else if nI (ga_vc μ sp M) < nI m then -(nI 12) else nI 0) = nI 0 from hy] at hfl
  have hvl := ga_vc_le hmk
  refine gs_G_copy _ _ (gx_run 6 (And.intro ⟨_, rfl⟩ (gx_c1 (gx_le8 rfl) hfl (And.intro (fun _ => ?_) (fun c => absurd rfl c)))))
  refine gx_run 11 (And.intro ⟨_, rfl⟩ (gx_c1 (gx_le8 rfl) k_R_end (And.intro ⟨_, rfl⟩ (gx_c1 (gx_le8 rfl) (k_R_reaches _) ?_))))
  rw [pk_mul, nI_add, if_neg (nI_nlt hfull (by omega))]
  exact And.intro (fun _ => gx_run 2 (k_G_copy_l (d := d + 1) hmk htk hfull (by omega) hn hμ _ m 0 (Nat.zero_add m))) (fun c => absurd c (by decide))
end GCK
end
section
/-! roll and swap; locals; what can be seen. -/
theorem ga_rng (x : Int32) : -2147483648 ≤ x.toInt ∧ x.toInt < 2147483648 := by
  have h1 := Int32.le_toInt x
  have h2 := Int32.toInt_lt x
  omega
theorem ga_bm {z : Int} (h1 : -2147483648 ≤ z) (h2 : z < 2147483648) : z.bmod (2 ^ 32) = z := Int.bmod_eq_of_le (by omega) (by omega)
theorem ga_tm (x : Int) {m : Nat} (hm : 0 < m) : ∃ t : Int, t = x.tdiv m * m ∧ t + x.tmod m = x ∧ (0 ≤ x → 0 ≤ t ∧ 0 ≤ x.tmod m ∧ x.tmod m < m) ∧ (x ≤ 0 → t ≤ 0 ∧ x.tmod m ≤ 0 ∧ -(m : Int) < x.tmod m) := by
  refine ⟨_, rfl, ?_, fun h => ⟨?_, ?_, ?_⟩, fun h => ⟨?_, ?_, ?_⟩⟩
  · have := Int.mul_tdiv_add_tmod x m
    rw [Int.mul_comm] at this
    exact this
  · exact Int.mul_nonneg (Int.tdiv_nonneg h (by omega)) (by omega)
  · exact Int.tmod_nonneg _ h
  · exact Int.tmod_lt_of_pos x (by omega)
  · have h2 : 0 ≤ (-x).tdiv m := Int.tdiv_nonneg (by omega) (by omega)
    rw [Int.neg_tdiv] at h2
    have h3 : 0 ≤ (-(x.tdiv m)) * (m : Int) := Int.mul_nonneg h2 (by omega)
    rw [Int.neg_mul] at h3
    omega
  · have h2 : 0 ≤ (-x).tmod m := Int.tmod_nonneg _ (by omega)
    rw [Int.neg_tmod] at h2
    omega
  · have h2 : (-x).tmod m < m := Int.tmod_lt_of_pos (-x) (by omega)
    rw [Int.neg_tmod] at h2
    omega
theorem ga_rem (x : Int32) {m : Nat} (hm : 0 < m) (h2 : m < 2147483648) : (x - x / nI m * nI m).toInt = x.toInt.tmod m := by
  have hmi : (nI m).toInt = (m : Int) := nI_toInt h2
  have hr := ga_rng x
  obtain ⟨t, ht, h1, hp, hn⟩ := ga_tm x.toInt hm
  have hne : nI m ≠ -1 := fun e => by
    rw [e] at hmi
    have : ((-1 : Int32)).toInt = -1 := by decide
    omega
  have hd : (x / nI m).toInt = x.toInt.tdiv m := by rw [Int32.toInt_div_of_ne_right _ _ hne, hmi]
  have hb : -2147483648 ≤ t ∧ t < 2147483648 := by
    rcases Int.le_total 0 x.toInt with h | h
    · have := hp h; omega
    · have := hn h; omega
  have hmul : (x / nI m * nI m).toInt = t := by rw [Int32.toInt_mul, hd, hmi, ← ht, ga_bm hb.1 hb.2]
  rw [Int32.toInt_sub, hmul, ga_bm]
  · omega
  · rcases Int.le_total 0 x.toInt with h | h
    · have := hp h; omega
    · have := hn h; omega
  · rcases Int.le_total 0 x.toInt with h | h
    · have := hp h; omega
    · have := hn h; omega
def ga_fm (x : Int32) (m : Nat) : Nat := if x.toInt.tmod m < 0 then (x.toInt.tmod m + m).toNat else (x.toInt.tmod m).toNat
theorem ga_fm_lt (x : Int32) {m : Nat} (hm : 0 < m) : ga_fm x m < m := by
  obtain ⟨t, ht, h1, hp, hn⟩ := ga_tm x.toInt hm
  unfold ga_fm
  rcases Int.le_total 0 x.toInt with h | h
  · have := hp h
    rw [if_neg (by omega)]; omega
  · have := hn h
    split <;> omega
theorem ga_xor (x : Int32) {m : Nat} (h2 : m < 2147483648) : 0 ≤ x ^^^ nI m ↔ 0 ≤ x := by
  have hmi : (nI m).toInt = (m : Int) := nI_toInt h2
  have e : ∀ y : Int32, (0 ≤ y ↔ y.toBitVec.msb = false) := fun y => by
    rw [BitVec.msb_eq_toInt, Int32.le_iff_toInt_le]
    show (0 : Int32).toInt ≤ y.toBitVec.toInt ↔ _
    rw [Int32.toInt_zero]
    simp
  have h3 : (nI m).toBitVec.msb = false := (e _).mp (nI_pos' (by omega))
  rw [e, e, Int32.toBitVec_xor, BitVec.msb_xor, h3]
  simp
theorem k_J_floorMod {LL : Nat} {xs : Nat → Int32} {d : Nat} {h : gx_H} (x : Int32) {m : Nat} (hm : 0 < m) (h2 : m < 1000000000) : gx_call LL xs (d + 1) z_J_floorMod 0 0 [.int x, .int (nI m)] h (fun r h' => r = some (.int (nI (ga_fm x m))) ∧ h' = h) := by
  have hr := ga_rem x hm (by omega)
  have hmi : (nI m).toInt = (m : Int) := nI_toInt (by omega)
  obtain ⟨t, ht, h1, hp, hn⟩ := ga_tm x.toInt hm
  refine gs_J_floorMod _ _ (gx_run 3 (And.intro (nI_ne0 hm (by omega)) (gx_run 5 (And.intro (fun c => gx_run 2 (And.intro ?_ rfl)) (fun c => gx_run 2 (And.intro (fun c0 => gx_run 2 (And.intro ?_ rfl)) (fun c0 => gx_run 4 (And.intro ?_ rfl))))))))
  · have hx : 0 ≤ x.toInt := by
      have := (ga_xor x (show m < 2147483648 by omega)).mp c
      rw [Int32.le_iff_toInt_le, Int32.toInt_zero] at this
      exact this
    have := hp hx
    congr 2
    refine gx_nIx (n := ga_fm x m) ?_ (by have := ga_fm_lt x hm; omega)
    rw [hr]
    unfold ga_fm
    rw [if_neg (by omega)]
    omega
  · congr 2
    refine gx_nIx (n := ga_fm x m) ?_ (by have := ga_fm_lt x hm; omega)
    have e0 : x.toInt.tmod m = 0 := by rw [← hr, c0]; rfl
    rw [hr]
    unfold ga_fm
    rw [e0]
    rfl
  · have hx : ¬ 0 ≤ x.toInt := fun hx => c ((ga_xor x (show m < 2147483648 by omega)).mpr (by rw [Int32.le_iff_toInt_le, Int32.toInt_zero]; exact hx))
    have hq := hn (by omega)
    have e0 : ¬ x.toInt.tmod m = 0 := fun e => c0 (Int32.toInt_inj.mp (by rw [hr, e]; rfl))
    congr 2
    refine gx_nIx (n := ga_fm x m) ?_ (by have := ga_fm_lt x hm; omega)
    unfold ga_fm
    rw [if_pos (by omega), Int32.toInt_add, hr, hmi, ga_bm (by omega) (by omega)]
    omega
/-- what stands at place p of m rolled values -/
def ga_rj (m u p : Nat) : Nat := if m - 1 - p + u < m then m - 1 - p + u else m - 1 - p + u - m
def ga_rv (μ : Nat → Nat) (sp m u p : Nat) : Int32 := ga_rd μ (sp - 4 * (ga_rj m u p + 1)) 4
section GCK
variable {LL : Nat} {xs : Nat → Int32} {d : Nat} {n : Nat} {μ : Nat → Nat} {sp : Nat} {fo : Option Nat} {pc lp : Int32} {cl : Nat → Int32} {tk : Nat → Nat} {tc : Nat} {F : Nat → ga_F} {tn : Nat → Int32} {tl : gx_H} {M : ga_M}
theorem k_G_rollLast_l {m u : Nat} (hms : 4 * m ≤ sp) (hs : sp ≤ n) (hn : n ≤ 1024) (hu : u < m) : ∀ (k p : Nat) (w0 : Option Value), k + p = m →
    gx_E LL xs (gx_call LL xs (d + 4)) cd_G_rollLast (fun r h => r = none ∧ h = (gc_h n (ga_ws (sp - 4 * m) (ga_rv μ sp m u) μ m) sp fo pc lp cl tk tc F (ga_tv μ sp m tn) tl)) 7 [some (.ref 0), some (.int (nI m)), some (.int (nI u)), some (.int (nI k - nI 1)), w0] [] (gc_h n (ga_ws (sp - 4 * m) (ga_rv μ sp m u) μ p) (sp - 4 * m + 4 * p) fo pc lp cl tk tc F (ga_tv μ sp m tn) tl) 0 0 := by
  intro k
  induction k with
  | zero =>
    intro p w0 hk
    obtain rfl : p = m := by omega
    rw [show sp - 4 * p + 4 * p = sp by omega]
    exact gx_run 2 (And.intro (fun _ => gx_run 1 (And.intro rfl rfl)) (fun c => absurd (by decide) c))
  | succ k ih =>
    intro p w0 hk
    have e1 : nI (k + 1) - nI 1 = nI k := pk_sub (Nat.le_add_left 1 k)
    rw [e1]
    have hv : ga_tv μ sp m tn (ga_rj m u p) = ga_rv μ sp m u p := by
      unfold ga_tv ga_rv
      rw [if_pos (by unfold ga_rj; split <;> omega)]
    have hj : ga_rj m u p < n / 4 + 1 := by unfold ga_rj; split <;> omega
    have htv := k_G_takenValue (LL := LL) (xs := xs) (d := d + 3) (n := n) (μ := ga_ws (sp - 4 * m) (ga_rv μ sp m u) μ p) (sp := sp - 4 * m + 4 * p) (fo := fo) (pc := pc) (lp := lp) (cl := cl) (tk := tk) (tc := tc) (F := F) (tn := ga_tv μ sp m tn) (tl := tl) hj (by omega)
    rw [hv] at htv
    have h9 := ih (p + 1) (some (.int (nI k + nI u))) (by omega)
    rw [show sp - 4 * m + 4 * (p + 1) = sp - 4 * m + 4 * p + 4 by omega] at h9
    refine gx_run 2 (And.intro (fun c => absurd c (nI_pos (by omega))) (fun _ => gx_run 10 (And.intro (fun c => ?_) (fun c => ?_))))
    · rw [nI_add] at c
      have c' : m ≤ k + u := (nI_leI (by omega) (by omega)).mp c
      have ej : nI k + nI u - nI m = nI (ga_rj m u p) := by
        rw [nI_add, pk_sub c']
        unfold ga_rj
        rw [if_neg (by omega)]
        congr 1
        omega
      rw [← ej] at htv
      refine gx_run 7 (And.intro ⟨_, rfl⟩ (gx_c1 (gx_le8 rfl) htv (And.intro ⟨_, rfl⟩ (gx_c1 (gx_le8 rfl) (k_R_append (show sp - 4 * m + 4 * p + 4 ≤ n by omega) (show n < 2147483648 by omega)) ?_))))
      exact h9
    · rw [nI_add] at c
      have c' : k + u < m := by
        rcases Nat.lt_or_ge (k + u) m with h | h
        · exact h
        · exact absurd (nI_le h (by omega)) c
      have ej : nI k + nI u = nI (ga_rj m u p) := by
        rw [nI_add]
        unfold ga_rj
        rw [if_pos (by omega)]
        congr 1
        omega
      rw [← ej] at htv
      refine gx_run 6 (And.intro ⟨_, rfl⟩ (gx_c1 (gx_le8 rfl) htv (And.intro ⟨_, rfl⟩ (gx_c1 (gx_le8 rfl) (k_R_append (show sp - 4 * m + 4 * p + 4 ≤ n by omega) (show n < 2147483648 by omega)) ?_))))
      exact h9
theorem k_G_rollLast {m u : Nat} (hms : 4 * m ≤ sp) (hs : sp ≤ n) (hn : n ≤ 1024) (hμ : ∀ i, μ i < 256) (hu : u < m) : gx_call LL xs (d + 5) z_G_rollLast 0 0 [.ref 0, .int (nI m), .int (nI u)] (gc_h n μ sp fo pc lp cl tk tc F tn tl) (fun r h => r = none ∧ h = (gc_h n (ga_ws (sp - 4 * m) (ga_rv μ sp m u) μ m) sp fo pc lp cl tk tc F (ga_tv μ sp m tn) tl)) :=
  gs_G_rollLast _ _ _ (gx_run 7 (And.intro ⟨_, rfl⟩ (gx_c1 (gx_le8 rfl) (k_G_takeValues hms hs (by omega) hμ) (k_G_rollLast_l hms hs hn hu m 0 none (by omega)))))
theorem k_G_roll_e (x b : Int32) (hmk : ga_mk μ sp M) (htk : ga_tk tk M) (hs : sp ≤ n) (hn : n ≤ 1024) (hμ : ∀ i, μ i < 256) {y : Int32} (hy : ga_e μ sp M x = y) (h0 : ¬ y = 0) : gx_call LL xs (d + 7) z_G_roll 0 0 [.ref 0, .int x, .int b] (gc_h n μ sp (ga_top M) pc lp cl tk (ga_tc M) F tn tl) (fun r h => r = some (.int y) ∧ h = (gc_h n μ sp (ga_top M) pc lp cl tk (ga_tc M) F tn tl)) := by
  have hfl := k_G_faultOfLast (LL := LL) (xs := xs) (d := d) (pc := pc) (lp := lp) (cl := cl) (F := F) (tn := tn) (tl := tl) x hmk htk hs hn hμ
  rw [show (if x < 0 then -(nI 1) else if ga_top M = none then -(nI 16) else if nI (ga_vc μ sp M) < x then -(nI 12) else nI 0) = y from hy] at hfl
  exact gs_G_roll _ _ _ (gx_run 6 (And.intro ⟨_, rfl⟩ (gx_c1 (gx_le8 rfl) hfl (And.intro (fun c => absurd c h0) (fun _ => gx_run 2 (And.intro rfl rfl))))))
theorem k_G_roll_0 (b : Int32) (hmk : ga_mk μ sp M) (htk : ga_tk tk M) (hs : sp ≤ n) (hn : n ≤ 1024) (hμ : ∀ i, μ i < 256) (hy : ga_e μ sp M (nI 0) = nI 0) : gx_call LL xs (d + 7) z_G_roll 0 0 [.ref 0, .int (nI 0), .int b] (gc_h n μ sp (ga_top M) pc lp cl tk (ga_tc M) F tn tl) (fun r h => r = some (.int (nI 1)) ∧ h = (gc_h n μ sp (ga_top M) pc lp cl tk (ga_tc M) F tn tl)) := by
  have hfl := k_G_faultOfLast (LL := LL) (xs := xs) (d := d) (pc := pc) (lp := lp) (cl := cl) (F := F) (tn := tn) (tl := tl) (nI 0) hmk htk hs hn hμ
  rw [show (if nI 0 < 0 then -(nI 1) else if ga_top M = none then -(nI 16) else if nI (ga_vc μ sp M) < nI 0 then -(nI 12) else nI 0) = nI 0 from hy] at hfl
  exact gs_G_roll _ _ _ (gx_run 6 (And.intro ⟨_, rfl⟩ (gx_c1 (gx_le8 rfl) hfl (And.intro (fun _ => gx_run 2 (And.intro (fun _ => gx_run 2 (And.intro rfl rfl)) (fun c => absurd (by decide) c))) (fun c => absurd rfl c)))))
theorem k_G_roll (b : Int32) {m : Nat} (h1 : 0 < m) (hmk : ga_mk μ sp M) (htk : ga_tk tk M) (hs : sp ≤ n) (hn : n ≤ 1024) (hμ : ∀ i, μ i < 256) (hm : m ≤ ga_vc μ sp M) (hy : ga_e μ sp M (nI m) = nI 0) : gx_call LL xs (d + 7) z_G_roll 0 0 [.ref 0, .int (nI m), .int b] (gc_h n μ sp (ga_top M) pc lp cl tk (ga_tc M) F tn tl) (fun r h => r = some (.int (nI 1)) ∧ h = (gc_h n (ga_ws (sp - 4 * m) (ga_rv μ sp m (ga_fm b m)) μ m) sp (ga_top M) pc lp cl tk (ga_tc M) F (ga_tv μ sp m tn) tl)) := by
  have hfl := k_G_faultOfLast (LL := LL) (xs := xs) (d := d) (pc := pc) (lp := lp) (cl := cl) (F := F) (tn := tn) (tl := tl) (nI m) hmk htk hs hn hμ
  rw [show (if nI m < 0 then -(nI 1) else if ga_top M = none then -(nI 16) else if nI (ga_vc μ sp M) < nI m then -(nI 12) else nI 0) = nI 0 from hy] at hfl
  have hvl := ga_vc_le hmk
  refine gs_G_roll _ _ _ (gx_run 6 (And.intro ⟨_, rfl⟩ (gx_c1 (gx_le8 rfl) hfl (And.intro (fun _ => gx_run 2 (And.intro (fun c => absurd c (nI_nle h1 (by omega))) (fun _ => ?_))) (fun c => absurd rfl c)))))
  exact gx_run 8 (gx_c1 (gx_le8 rfl) (k_J_floorMod b h1 (by omega)) (And.intro ⟨_, rfl⟩ (gx_c1 (gx_le8 rfl) (k_G_rollLast (by omega) hs hn hμ (ga_fm_lt b h1)) (And.intro rfl rfl))))
theorem k_G_swap_e (hmk : ga_mk μ sp M) (htk : ga_tk tk M) (hs : sp ≤ n) (hn : n ≤ 1024) (hμ : ∀ i, μ i < 256) {y : Int32} (hy : ga_e μ sp M (nI 2) = y) (h0 : ¬ y = 0) : gx_call LL xs (d + 7) z_G_swap 0 0 [.ref 0] (gc_h n μ sp (ga_top M) pc lp cl tk (ga_tc M) F tn tl) (fun r h => r = some (.int y) ∧ h = (gc_h n μ sp (ga_top M) pc lp cl tk (ga_tc M) F tn tl)) := by
  have hfl := k_G_faultOfLast (LL := LL) (xs := xs) (d := d) (pc := pc) (lp := lp) (cl := cl) (F := F) (tn := tn) (tl := tl) (nI 2) hmk htk hs hn hμ
  rw [show (if nI 2 < 0 then -(nI 1) else if ga_top M = none then -(nI 16) else if nI (ga_vc μ sp M) < nI 2 then -(nI 12) else nI 0) = y from hy] at hfl
  exact gs_G_swap _ (gx_run 6 (And.intro ⟨_, rfl⟩ (gx_c1 (gx_le8 rfl) hfl (And.intro (fun c => absurd c h0) (fun _ => gx_run 2 (And.intro rfl rfl))))))
theorem k_G_swap (hmk : ga_mk μ sp M) (htk : ga_tk tk M) (hs : sp ≤ n) (hn : n ≤ 1024) (hμ : ∀ i, μ i < 256) (hm : 2 ≤ ga_vc μ sp M) (hy : ga_e μ sp M (nI 2) = nI 0) : gx_call LL xs (d + 7) z_G_swap 0 0 [.ref 0] (gc_h n μ sp (ga_top M) pc lp cl tk (ga_tc M) F tn tl) (fun r h => r = some (.int (nI 1)) ∧ h = (gc_h n (ga_ws (sp - 4 * 2) (ga_rv μ sp 2 1) μ 2) sp (ga_top M) pc lp cl tk (ga_tc M) F (ga_tv μ sp 2 tn) tl)) := by
  have hfl := k_G_faultOfLast (LL := LL) (xs := xs) (d := d) (pc := pc) (lp := lp) (cl := cl) (F := F) (tn := tn) (tl := tl) (nI 2) hmk htk hs hn hμ
  rw [show (if nI 2 < 0 then -(nI 1) else if ga_top M = none then -(nI 16) else if nI (ga_vc μ sp M) < nI 2 then -(nI 12) else nI 0) = nI 0 from hy] at hfl
  have hvl := ga_vc_le hmk
  exact gs_G_swap _ (gx_run 6 (And.intro ⟨_, rfl⟩ (gx_c1 (gx_le8 rfl) hfl (And.intro (fun _ => gx_run 6 (And.intro ⟨_, rfl⟩ (gx_c1 (gx_le8 rfl) (k_G_rollLast (by omega) hs hn hμ (by omega)) (And.intro rfl rfl)))) (fun c => absurd rfl c)))))
/-- what stands against a place of locals -/
def ga_el (μ : Nat → Nat) (M : ga_M) (place w : Int32) : Int32 := if ¬ (w = nI 1 ∨ w = nI 2 ∨ w = nI 4) then -(nI 1) else match ga_top M with
    | none => -(nI 16)
    | some f => if ga_il μ f place w = true then nI 0 else -(nI 13)
theorem ga_el0 {μ : Nat → Nat} {M : ga_M} {place w : Int32} (hb : ∀ f, ga_top M = some f → ga_w μ f < 2 ^ 30) (h : ga_el μ M place w = nI 0) : ∃ f p v, ga_top M = some f ∧ place = nI p ∧ w = nI v ∧ (v = 1 ∨ v = 2 ∨ v = 4) ∧ p + v ≤ ga_w μ f - ga_w μ (f + 4) := by
  unfold ga_el at h
  by_cases hw : w = nI 1 ∨ w = nI 2 ∨ w = nI 4
  · rw [if_neg (fun h => h hw)] at h
    obtain ⟨v, rfl, hv⟩ : ∃ v, w = nI v ∧ (v = 1 ∨ v = 2 ∨ v = 4) := by
      rcases hw with rfl | rfl | rfl
      · exact ⟨1, rfl, by omega⟩
      · exact ⟨2, rfl, by omega⟩
      · exact ⟨4, rfl, by omega⟩
    cases hf : ga_top M with
    | none => rw [hf] at h; exact absurd (show -(nI 16) = nI 0 from h) (by decide)
    | some f =>
      rw [hf] at h
      dsimp only at h
      split at h
      · rename_i hi
        obtain ⟨p, hp, hp2⟩ := ga_il_of (w := v) (by omega) (hb f hf) hi
        exact ⟨f, p, v, rfl, hp, rfl, hv, hp2⟩
      · exact absurd h (by decide)
  · rw [if_pos hw] at h
    exact absurd h (by decide)
theorem k_G_fl2 (place w : Int32) (hmk : ga_mk μ sp M) (hs : sp ≤ n) (hn : n ≤ 1024) (hμ : ∀ i, μ i < 256) : gx_call LL xs (d + 5) z_G_faultOfLocal 0 0 [.ref 0, .int place, .int w] (gc_h n μ sp (ga_top M) pc lp cl tk (ga_tc M) F tn tl) (fun r h => r = some (.int (ga_el μ M place w)) ∧ h = (gc_h n μ sp (ga_top M) pc lp cl tk (ga_tc M) F tn tl)) :=
  k_G_faultOfLocal place w hmk hs hn hμ
theorem k_G_load_e (place w : Int32) (hmk : ga_mk μ sp M) (hs : sp ≤ n) (hn : n ≤ 1024) (hμ : ∀ i, μ i < 256) {y : Int32} (hy : ga_el μ M place w = y) (h0 : ¬ y = 0) : gx_call LL xs (d + 6) z_G_load 0 0 [.ref 0, .int place, .int w] (gc_h n μ sp (ga_top M) pc lp cl tk (ga_tc M) F tn tl) (fun r h => r = some (.int y) ∧ h = (gc_h n μ sp (ga_top M) pc lp cl tk (ga_tc M) F tn tl)) := by
  have hfl := k_G_fl2 (LL := LL) (xs := xs) (d := d) (pc := pc) (lp := lp) (cl := cl) (tk := tk) (F := F) (tn := tn) (tl := tl) place w hmk hs hn hμ
  rw [hy] at hfl
  exact gs_G_load _ _ _ (gx_run 7 (And.intro ⟨_, rfl⟩ (gx_c1 (gx_le8 rfl) hfl (And.intro (fun c => absurd c h0) (fun _ => gx_run 2 (And.intro rfl rfl))))))
theorem k_G_load {f p v : Nat} (hmk : ga_mk μ sp M) (hs : sp ≤ n) (hn : n ≤ 1024) (hμ : ∀ i, μ i < 256) (hy : ga_el μ M (nI p) (nI v) = nI 0) (hf : ga_top M = some f) (hv : v ≤ 4) (hp : p + v ≤ ga_w μ f - ga_w μ (f + 4)) : gx_call LL xs (d + 6) z_G_load 0 0 [.ref 0, .int (nI p), .int (nI v)] (gc_h n μ sp (ga_top M) pc lp cl tk (ga_tc M) F tn tl) (fun r h => r = some (.int (nI 1)) ∧ h = (gc_h n μ sp (ga_top M) pc (ga_rd μ (f + ga_w μ (f + 4) + p) v) cl tk (ga_tc M) F tn tl)) := by
  have hfl := k_G_fl2 (LL := LL) (xs := xs) (d := d) (pc := pc) (lp := lp) (cl := cl) (tk := tk) (F := F) (tn := tn) (tl := tl) (nI p) (nI v) hmk hs hn hμ
  rw [hy] at hfl
  have hlt := ga_mk_top hmk hf
  rw [hf] at hfl ⊢
  have hc : gx_call LL xs (d + 5) z_R_number 0 0 [.ref 3, .int (nI (f + ga_w μ (f + 4)) + nI p), .int (nI v)] (gc_h n μ sp (some f) pc lp cl tk (ga_tc M) F tn tl) (fun r h => r = some (.int (ga_rd μ (f + ga_w μ (f + 4) + p) v)) ∧ h = (gc_h n μ sp (some f) pc lp cl tk (ga_tc M) F tn tl)) := by
    rw [nI_add]
    exact k_R_number (by omega) (by omega) hμ
  refine gs_G_load _ _ _ (gx_run 7 (And.intro ⟨_, rfl⟩ (gx_c1 (gx_le8 rfl) hfl (And.intro (fun _ => ?_) (fun c => absurd rfl c)))))
  exact gx_run 14 (And.intro ⟨_, rfl⟩ (gx_c1 (gx_le8 rfl) (k_G_localsAt (by omega) (by omega) hμ) (And.intro ⟨_, rfl⟩ (gx_c1 (gx_le8 rfl) hc (And.intro rfl rfl)))))
theorem k_G_store_e (place w x : Int32) (hmk : ga_mk μ sp M) (hs : sp ≤ n) (hn : n ≤ 1024) (hμ : ∀ i, μ i < 256) {y : Int32} (hy : ga_el μ M place w = y) (h0 : ¬ y = 0) : gx_call LL xs (d + 6) z_G_store 0 0 [.ref 0, .int place, .int w, .int x] (gc_h n μ sp (ga_top M) pc lp cl tk (ga_tc M) F tn tl) (fun r h => r = some (.int y) ∧ h = (gc_h n μ sp (ga_top M) pc lp cl tk (ga_tc M) F tn tl)) := by
  have hfl := k_G_fl2 (LL := LL) (xs := xs) (d := d) (pc := pc) (lp := lp) (cl := cl) (tk := tk) (F := F) (tn := tn) (tl := tl) place w hmk hs hn hμ
  rw [hy] at hfl
  exact gs_G_store _ _ _ _ (gx_run 7 (And.intro ⟨_, rfl⟩ (gx_c1 (gx_le8 rfl) hfl (And.intro (fun c => absurd c h0) (fun _ => gx_run 2 (And.intro rfl rfl))))))
theorem k_G_store {f p v : Nat} (x : Int32) (hmk : ga_mk μ sp M) (hs : sp ≤ n) (hn : n ≤ 1024) (hμ : ∀ i, μ i < 256) (hy : ga_el μ M (nI p) (nI v) = nI 0) (hf : ga_top M = some f) (hv : v ≤ 4) (hp : p + v ≤ ga_w μ f - ga_w μ (f + 4)) : gx_call LL xs (d + 6) z_G_store 0 0 [.ref 0, .int (nI p), .int (nI v), .int x] (gc_h n μ sp (ga_top M) pc lp cl tk (ga_tc M) F tn tl) (fun r h => r = some (.int (nI 1)) ∧ h = (gc_h n (ga_wr μ (f + ga_w μ (f + 4) + p) v x) sp (ga_top M) pc lp cl tk (ga_tc M) F tn tl)) := by
  have hfl := k_G_fl2 (LL := LL) (xs := xs) (d := d) (pc := pc) (lp := lp) (cl := cl) (tk := tk) (F := F) (tn := tn) (tl := tl) (nI p) (nI v) hmk hs hn hμ
  rw [hy] at hfl
  have hlt := ga_mk_top hmk hf
  rw [hf] at hfl ⊢
  have hc : gx_call LL xs (d + 5) z_R_set 0 0 [.ref 3, .int (nI (f + ga_w μ (f + 4)) + nI p), .int (nI v), .int x] (gc_h n μ sp (some f) pc lp cl tk (ga_tc M) F tn tl) (fun r h => r = none ∧ h = (gc_h n (ga_wr μ (f + ga_w μ (f + 4) + p) v x) sp (some f) pc lp cl tk (ga_tc M) F tn tl)) := by
    rw [nI_add]
    exact k_R_set (by omega) (by omega)
  refine gs_G_store _ _ _ _ (gx_run 7 (And.intro ⟨_, rfl⟩ (gx_c1 (gx_le8 rfl) hfl (And.intro (fun _ => ?_) (fun c => absurd rfl c)))))
  exact gx_run 13 (And.intro ⟨_, rfl⟩ (gx_c1 (gx_le8 rfl) (k_G_localsAt (by omega) (by omega) hμ) (And.intro ⟨_, rfl⟩ (gx_c1 (gx_le8 rfl) hc (And.intro rfl rfl)))))
theorem k_G_byteAt_n (x : Int32) (hx : x < 0 ∨ nI sp ≤ x) : gx_call LL xs (d + 2) z_G_byteAt 0 0 [.ref 0, .int x] (gc_h n μ sp fo pc lp cl tk tc F tn tl) (fun r h => r = some (.int (-(nI 1))) ∧ h = (gc_h n μ sp fo pc lp cl tk tc F tn tl)) := by
  refine gs_G_byteAt _ _ (gx_run 2 (And.intro (fun _ => gx_run 2 (And.intro rfl rfl)) (fun c1 => gx_run 5 (And.intro ⟨_, rfl⟩ (gx_c1 (gx_le8 rfl) k_R_end (And.intro (fun _ => gx_run 2 (And.intro rfl rfl)) (fun c => ?_)))))))
  rcases hx with hx | hx
  · exact absurd hx c1
  · exact absurd hx c
theorem ga_rd1 (μ : Nat → Nat) (a : Nat) : ga_rd μ a 1 = nI (μ a) := by
  show (nI 0 <<< (nI 8 &&& 31)) ||| nI (μ (a + 0)) = _
  rw [show nI 0 <<< (nI 8 &&& 31) = 0 by decide]
  refine b_ext fun i hi => ?_
  rw [b_or, b_0, Bool.false_or]
  rfl
theorem k_G_byteAt {j : Nat} (hj : j < sp) (hs : sp ≤ n) (hn : n ≤ 1024) (hμ : ∀ i, μ i < 256) : gx_call LL xs (d + 3) z_G_byteAt 0 0 [.ref 0, .int (nI j)] (gc_h n μ sp fo pc lp cl tk tc F tn tl) (fun r h => r = some (.int (nI (μ j))) ∧ h = (gc_h n μ sp fo pc lp cl tk tc F tn tl)) := by
  refine gs_G_byteAt _ _ (gx_run 2 (And.intro (fun c => absurd c (nI_pos (by omega))) (fun c1 => gx_run 5 (And.intro ⟨_, rfl⟩ (gx_c1 (gx_le8 rfl) k_R_end (And.intro (fun c => absurd c (nI_ge hj (by omega))) (fun _ => gx_run 7 (And.intro ⟨_, rfl⟩ (gx_c1 (gx_le8 rfl) (k_R_number (by omega) (by omega) hμ) (And.intro ?_ rfl))))))))))
  rw [ga_rd1]
theorem k_G_cell_n (x : Int32) (hx : x < 0 ∨ nI 16 ≤ x) : gx_call LL xs (d + 2) z_G_cell 0 0 [.ref 0, .int x] (gc_h n μ sp fo pc lp cl tk tc F tn tl) (fun r h => r = some (.int (nI 0)) ∧ h = (gc_h n μ sp fo pc lp cl tk tc F tn tl)) := by
  refine gs_G_cell _ _ (gx_run 3 (gx_c1 (gx_le8 rfl) (k_G_isCell x) ?_))
  rw [if_pos hx]
  exact And.intro (fun _ => gx_run 2 (And.intro rfl rfl)) (fun c => absurd rfl c)
theorem k_G_cell {j : Nat} (hj : j < 16) : gx_call LL xs (d + 2) z_G_cell 0 0 [.ref 0, .int (nI j)] (gc_h n μ sp fo pc lp cl tk tc F tn tl) (fun r h => r = some (.int (cl j)) ∧ h = (gc_h n μ sp fo pc lp cl tk tc F tn tl)) := by
  refine gs_G_cell _ _ (gx_run 3 (gx_c1 (gx_le8 rfl) (k_G_isCell _) ?_))
  rw [if_neg (by
    rintro (h | h)
    · exact nI_pos (by omega) h
    · exact nI_ge hj (by omega) h)]
  exact And.intro (fun c => absurd c (by decide)) (fun _ => gx_run 6 (gx_ar j rfl hj (by decide) (And.intro rfl rfl)))
/-- count -/
def ga_ct (n : Nat) (μ : Nat → Nat) (sp : Nat) (M : ga_M) (pc : Int32) (tk : Nat → Nat) (x : Int32) : Int32 :=
  if x = nI 0 then nI sp else if x = nI 1 then ga_fp (ga_top M) else if x = nI 2 then (match ga_top M with
    | none => -(nI 1)
    | some _ => nI (ga_vc μ sp M)) else if x = nI 3 then pc else if x = nI 4 then nI n else if x = nI 5 then nI (ga_tc M) else if x = nI 6 then ga_fp (ga_lt tk (ga_tc M)) else if x = nI 7 then nI (ga_fc M) else -(nI 1)
theorem k_G_count (x : Int32) (hmk : ga_mk μ sp M) (htk : ga_tk tk M) (hs : sp ≤ n) (hn : n ≤ 1024) (hμ : ∀ i, μ i < 256) : gx_call LL xs (d + 6) z_G_count 0 0 [.ref 0, .int x] (gc_h n μ sp (ga_top M) pc lp cl tk (ga_tc M) F tn tl) (fun r h => r = some (.int (ga_ct n μ sp M pc tk x)) ∧ h = (gc_h n μ sp (ga_top M) pc lp cl tk (ga_tc M) F tn tl)) := by
  have hcnt := ga_tc_le hmk
  refine gs_G_count _ _ (gx_run 2 (And.intro (fun c => ?_) (And.intro (fun c => ?_) (And.intro (fun c => ?_) (And.intro (fun c => ?_) (And.intro (fun c => ?_) (And.intro (fun c => ?_) (And.intro (fun c => ?_) (And.intro (fun c => ?_) (And.intro (fun c => ?_) trivial))))))))))
  · refine gx_run 2 (And.intro ?_ rfl)
    have c0 : ¬ x = nI 0 := c 0 (by decide)
    have c1 : ¬ x = nI 1 := c 1 (by decide)
    have c2 : ¬ x = nI 2 := c 2 (by decide)
    have c3 : ¬ x = nI 3 := c 3 (by decide)
    have c4 : ¬ x = nI 4 := c 4 (by decide)
    have c5 : ¬ x = nI 5 := c 5 (by decide)
    have c6 : ¬ x = nI 6 := c 6 (by decide)
    have c7 : ¬ x = nI 7 := c 7 (by decide)
    simp only [ga_ct, if_neg c0, if_neg c1, if_neg c2, if_neg c3, if_neg c4, if_neg c5, if_neg c6, if_neg c7]
  · obtain rfl : x = nI 0 := c
    exact gx_run 4 (And.intro ⟨_, rfl⟩ (gx_c1 (gx_le8 rfl) k_R_end (And.intro rfl rfl)))
  · obtain rfl : x = nI 1 := c
    exact gx_run 3 (And.intro rfl rfl)
  · obtain rfl : x = nI 2 := c
    have hvc := k_G_valueCount (LL := LL) (xs := xs) (d := d) (n := n) (pc := pc) (lp := lp) (cl := cl) (F := F) (tn := tn) (tl := tl) hmk htk hs hn hμ
    have e : ga_ct n μ sp M pc tk (nI 2) = match ga_top M with
      | none => -(nI 1)
      | some _ => nI (ga_vc μ sp M) := rfl
    rw [e]
    cases hf : ga_top M with
    | none => exact gx_run 4 (And.intro (fun c => absurd rfl c) (fun _ => gx_run 3 (And.intro rfl rfl)))
    | some f =>
      have hlt := ga_top_lt hmk hf
      rw [hf] at hvc
      exact gx_run 4 (And.intro (fun _ => gx_run 3 (And.intro ⟨_, rfl⟩ (gx_c1 (gx_le8 rfl) hvc (And.intro rfl rfl)))) (fun c => absurd c (ga_fp_none (by omega))))
  · obtain rfl : x = nI 3 := c
    exact gx_run 3 (And.intro rfl rfl)
  · obtain rfl : x = nI 4 := c
    exact gx_run 4 (And.intro ⟨_, rfl⟩ (gx_c1 (gx_le8 rfl) k_R_size (And.intro rfl rfl)))
  · obtain rfl : x = nI 5 := c
    exact gx_run 3 (And.intro rfl rfl)
  · obtain rfl : x = nI 6 := c
    exact gx_run 3 (And.intro ⟨_, rfl⟩ (gx_c1 (gx_le8 rfl) (k_G_latestToken (by omega) (by omega)) (And.intro rfl rfl)))
  · obtain rfl : x = nI 7 := c
    exact gx_run 3 (And.intro ⟨_, rfl⟩ (gx_c1 (gx_le8 rfl) (k_G_frameCount hmk hs hn hμ) (And.intro rfl rfl)))
end GCK
end
section
/-! Functions; stubs, returns, throws. -/
/-- what an accelerated function gives for values V 0 .. -/
def ga_gb (acc : Nat) (V : Nat → Int32) : Nat → Int32
  | 0 => nI 0
  | i + 1 => if acc = 1 then ga_gb acc V i + V i else if acc = 2 then (if i = 0 then V i else ga_gb acc V i - V i) else ga_gb acc V i + (if 0 < V i then nI 1 else nI 0)
/-- a stub -/
def ga_st (μ : Nat → Nat) (sp : Nat) (way addr pc fp : Int32) : Nat → Nat := ga_wr (ga_wr (ga_wr (ga_wr μ sp 4 way) (sp + 4) 4 addr) (sp + 8) 4 pc) (sp + 12) 4 fp
theorem ga_st_lt {μ : Nat → Nat} {sp : Nat} {way addr pc fp : Int32} (h : ∀ i, μ i < 256) : ∀ i, ga_st μ sp way addr pc fp i < 256 := ga_wr_lt (ga_wr_lt (ga_wr_lt (ga_wr_lt h)))
theorem ga_st_out {μ : Nat → Nat} {sp : Nat} {way addr pc fp : Int32} {i : Nat} (h : i < sp ∨ sp + 16 ≤ i) : ga_st μ sp way addr pc fp i = μ i := by
  unfold ga_st
  rw [ga_wr_out (by omega), ga_wr_out (by omega), ga_wr_out (by omega), ga_wr_out (by omega)]
theorem ga_V {μ : Nat → Nat} {sp : Nat} : (fun i => ga_rd μ (sp - 4 * (i + 1)) 4) = fun i => ga_rd μ (sp - 4 * (i + 1)) 4 := rfl
theorem ga_cg_cong {μ ν : Nat → Nat} {way addr : Int32} {fo : Option Nat} (h : ∀ f, fo = some f → ga_w μ f = ga_w ν f ∧ ga_w μ (f + 4) = ga_w ν (f + 4)) : ga_cg μ way addr fo = ga_cg ν way addr fo := by
  cases fo with
  | none => rfl
  | some f =>
    obtain ⟨h1, h2⟩ := h f rfl
    unfold ga_cg
    dsimp only
    unfold ga_il
    rw [h1, h2]
section GCL
variable {LL : Nat} {xs : Nat → Int32} {d : Nat} {n : Nat} {μ : Nat → Nat} {sp : Nat} {fo : Option Nat} {pc lp : Int32} {cl : Nat → Int32} {tk : Nat → Nat} {tc : Nat} {F : Nat → ga_F} {tn : Nat → Int32} {tl : gx_H} {M : ga_M}
/-! functions -/
theorem k_G_function_n (x hd : Int32) (hx : (x < 0 ∨ nI 12 ≤ x) ∨ hd < 0 ∨ nI 255 < hd) : gx_call LL xs (d + 2) z_G_function 0 0 [.ref 0, .int x, .int hd] (gc_h n μ sp fo pc lp cl tk tc F tn tl) (fun r h => r = some (.int (-(nI 1))) ∧ h = (gc_h n μ sp fo pc lp cl tk tc F tn tl)) := by
  rcases pk_ix x (n := 12) (by decide) with c | c | ⟨k, hk, rfl⟩
  · exact gs_G_function _ _ _ (gx_run 6 (And.intro ⟨_, rfl⟩ (gx_c1 (gx_le8 rfl) (k_G_functionOf_n (Or.inl c)) (gx_run 2 (And.intro rfl rfl)))))
  · exact gs_G_function _ _ _ (gx_run 6 (And.intro ⟨_, rfl⟩ (gx_c1 (gx_le8 rfl) (k_G_functionOf_n (Or.inr c)) (gx_run 2 (And.intro rfl rfl)))))
  · refine gs_G_function _ _ _ (gx_run 8 (And.intro ⟨_, rfl⟩ (gx_c1 (gx_le8 rfl) (k_G_functionOf hk) (And.intro (fun _ => gx_run 2 (And.intro rfl rfl)) (fun c1 => gx_run 3 (And.intro (fun c => ?_) (fun _ => gx_run 2 (And.intro rfl rfl))))))))
    rcases hx with (h | h) | h | h
    · exact absurd h (nI_pos (by omega))
    · exact absurd h (nI_ge hk (by omega))
    · exact absurd h c1
    · exact absurd h (Int32.not_lt.mpr c)
theorem k_G_function {k hd : Nat} (hk : k < 12) (hh : hd ≤ 255) : gx_call LL xs (d + 2) z_G_function 0 0 [.ref 0, .int (nI k), .int (nI hd)] (gc_h n μ sp fo pc lp cl tk tc F tn tl) (fun r h => r = some (.int (nI 1)) ∧ h = (gc_h n μ sp fo pc lp cl tk tc (va_up F k (hd, (F k).2.1, 0, (F k).2.2.2.1, (F k).2.2.2.2)) tn tl)) := by
  refine gs_G_function _ _ _ (gx_run 8 (And.intro ⟨_, rfl⟩ (gx_c1 (gx_le8 rfl) (k_G_functionOf hk) (And.intro (fun c => absurd c (nI_pos (by omega))) (fun c1 => gx_run 3 (And.intro (fun c => ?_) (fun c => absurd (nI_le hh (by omega)) c)))))))
  exact gx_run 5 (And.intro ⟨_, gc_at_o hk⟩ (gx_c1 (gx_le8 rfl) (k_F_begin hk) (And.intro rfl rfl)))
theorem k_G_format_n (x w c : Int32) (hx : (x < 0 ∨ nI 12 ≤ x) ∨ ¬ (w = nI 1 ∨ w = nI 2 ∨ w = nI 4) ∨ c < nI 1 ∨ nI 255 < c) : gx_call LL xs (d + 2) z_G_format 0 0 [.ref 0, .int x, .int w, .int c] (gc_h n μ sp fo pc lp cl tk tc F tn tl) (fun r h => r = some (.int (-(nI 1))) ∧ h = (gc_h n μ sp fo pc lp cl tk tc F tn tl)) := by
  rcases pk_ix x (n := 12) (by decide) with c | c | ⟨k, hk, rfl⟩
  · exact gs_G_format _ _ _ _ (gx_run 6 (And.intro ⟨_, rfl⟩ (gx_c1 (gx_le8 rfl) (k_G_functionOf_n (Or.inl c)) (gx_run 2 (And.intro rfl rfl)))))
  · exact gs_G_format _ _ _ _ (gx_run 6 (And.intro ⟨_, rfl⟩ (gx_c1 (gx_le8 rfl) (k_G_functionOf_n (Or.inr c)) (gx_run 2 (And.intro rfl rfl)))))
  · refine gs_G_format _ _ _ _ (gx_run 9 (And.intro ⟨_, rfl⟩ (gx_c1 (gx_le8 rfl) (k_G_functionOf hk) (gx_c1 (gx_le8 rfl) (k_G_isWidth w) ?_))))
    by_cases hw : w = nI 1 ∨ w = nI 2 ∨ w = nI 4
    · rw [if_pos hw]
      refine And.intro (fun c => absurd c (by decide)) (fun _ => gx_run 3 (And.intro (fun _ => gx_run 2 (And.intro rfl rfl)) (fun c1 => gx_run 3 (And.intro (fun c2 => ?_) (fun _ => gx_run 2 (And.intro rfl rfl))))))
      rcases hx with (h | h) | h | h | h
      · exact absurd h (nI_pos (by omega))
      · exact absurd h (nI_ge hk (by omega))
      · exact absurd hw h
      · exact absurd h c1
      · exact absurd h (Int32.not_lt.mpr c2)
    · rw [if_neg hw]
      exact And.intro (fun _ => gx_run 2 (And.intro rfl rfl)) (fun c => absurd rfl c)
theorem k_G_format {k w c : Nat} (hk : k < 12) (hw : w = 1 ∨ w = 2 ∨ w = 4) (h1 : 1 ≤ c) (h2 : c ≤ 255) (hp : (F k).2.2.1 ≤ 6) : gx_call LL xs (d + 2) z_G_format 0 0 [.ref 0, .int (nI k), .int (nI w), .int (nI c)] (gc_h n μ sp fo pc lp cl tk tc F tn tl) (fun r h => r = some (.int (if (F k).2.2.1 < 6 then nI ((F k).2.2.1 + 1) else -(nI 1))) ∧
    h = (gc_h n μ sp fo pc lp cl tk tc (if (F k).2.2.1 < 6 then va_up F k ((F k).1, (F k).2.1, (F k).2.2.1 + 1, va_up (F k).2.2.2.1 (F k).2.2.1 w, va_up (F k).2.2.2.2 (F k).2.2.1 c) else F) tn tl)) := by
  refine gs_G_format _ _ _ _ (gx_run 9 (And.intro ⟨_, rfl⟩ (gx_c1 (gx_le8 rfl) (k_G_functionOf hk) (gx_c1 (gx_le8 rfl) (k_G_isWidth (nI w)) ?_))))
  have hw2 : nI w = nI 1 ∨ nI w = nI 2 ∨ nI w = nI 4 := by
    rcases hw with rfl | rfl | rfl
    · exact Or.inl rfl
    · exact Or.inr (Or.inl rfl)
    · exact Or.inr (Or.inr rfl)
  rw [if_pos hw2]
  refine And.intro (fun c => absurd c (by decide)) (fun _ => gx_run 3 (And.intro (fun c => absurd c (nI_nlt h1 (by omega))) (fun c1 => gx_run 3 (And.intro (fun c2 => ?_) (fun c => absurd (nI_le h2 (by omega)) c)))))
  exact gx_run 5 (And.intro ⟨_, gc_at_o hk⟩ (gx_cq (gx_le8 rfl) (k_F_addPair hk hp) (fun r h1 q => by obtain ⟨rfl, rfl⟩ := q; exact And.intro rfl rfl)))
theorem k_G_accelerate_n (x c : Int32) (hx : (x < 0 ∨ nI 12 ≤ x) ∨ c < 0 ∨ nI 3 < c) : gx_call LL xs (d + 2) z_G_accelerate 0 0 [.ref 0, .int x, .int c] (gc_h n μ sp fo pc lp cl tk tc F tn tl) (fun r h => r = some (.int (-(nI 1))) ∧ h = (gc_h n μ sp fo pc lp cl tk tc F tn tl)) := by
  rcases pk_ix x (n := 12) (by decide) with c | c | ⟨k, hk, rfl⟩
  · exact gs_G_accelerate _ _ _ (gx_run 6 (And.intro ⟨_, rfl⟩ (gx_c1 (gx_le8 rfl) (k_G_functionOf_n (Or.inl c)) (gx_run 2 (And.intro rfl rfl)))))
  · exact gs_G_accelerate _ _ _ (gx_run 6 (And.intro ⟨_, rfl⟩ (gx_c1 (gx_le8 rfl) (k_G_functionOf_n (Or.inr c)) (gx_run 2 (And.intro rfl rfl)))))
  · refine gs_G_accelerate _ _ _ (gx_run 8 (And.intro ⟨_, rfl⟩ (gx_c1 (gx_le8 rfl) (k_G_functionOf hk) (And.intro (fun _ => gx_run 2 (And.intro rfl rfl)) (fun c1 => gx_run 3 (And.intro (fun c => ?_) (fun _ => gx_run 2 (And.intro rfl rfl))))))))
    rcases hx with (h | h) | h | h
    · exact absurd h (nI_pos (by omega))
    · exact absurd h (nI_ge hk (by omega))
    · exact absurd h c1
    · exact absurd h (Int32.not_lt.mpr c)
theorem k_G_accelerate {k c : Nat} (hk : k < 12) (hc : c ≤ 3) : gx_call LL xs (d + 2) z_G_accelerate 0 0 [.ref 0, .int (nI k), .int (nI c)] (gc_h n μ sp fo pc lp cl tk tc F tn tl) (fun r h => r = some (.int (nI (F k).2.1)) ∧ h = (gc_h n μ sp fo pc lp cl tk tc (va_up F k ((F k).1, c, (F k).2.2.1, (F k).2.2.2.1, (F k).2.2.2.2)) tn tl)) := by
  refine gs_G_accelerate _ _ _ (gx_run 8 (And.intro ⟨_, rfl⟩ (gx_c1 (gx_le8 rfl) (k_G_functionOf hk) (And.intro (fun c => absurd c (nI_pos (by omega))) (fun _ => gx_run 3 (And.intro (fun _ => ?_) (fun c => absurd (nI_le hc (by omega)) c)))))))
  refine gx_run 1 (gx_getf rfl (gc_at_o hk) rfl (gx_run 3 (gx_putf rfl (gc_at_o hk) rfl (fun P hP => hP) (gx_run 2 (And.intro rfl ?_)))))
  exact gc_set_o hk (F k).1 c (F k).2.2.1
/-- told -/
def ga_td (f : ga_F) (x : Int32) : Int32 := if x = nI 0 then nI f.1 else if x = nI 1 then nI f.2.2.1 else if x = nI 2 then nI (ga_lc f.2.2.2.2 f.2.2.1) else if x = nI 3 then nI (ga_len f) else if x = nI 4 then nI (ga_lb f) else -(nI 1)
theorem k_G_told_n (x w : Int32) (hx : x < 0 ∨ nI 12 ≤ x) : gx_call LL xs (d + 2) z_G_told 0 0 [.ref 0, .int x, .int w] (gc_h n μ sp fo pc lp cl tk tc F tn tl) (fun r h => r = some (.int (-(nI 1))) ∧ h = (gc_h n μ sp fo pc lp cl tk tc F tn tl)) :=
  gs_G_told _ _ _ (gx_run 6 (And.intro ⟨_, rfl⟩ (gx_c1 (gx_le8 rfl) (k_G_functionOf_n hx) (gx_run 2 (And.intro rfl rfl)))))
theorem k_G_told {k : Nat} (x : Int32) (hk : k < 12) (hw : ga_wf (F k)) : gx_call LL xs (d + 4) z_G_told 0 0 [.ref 0, .int (nI k), .int x] (gc_h n μ sp fo pc lp cl tk tc F tn tl) (fun r h => r = some (.int (ga_td (F k) x)) ∧ h = (gc_h n μ sp fo pc lp cl tk tc F tn tl)) := by
  refine gs_G_told _ _ _ (gx_run 6 (And.intro ⟨_, rfl⟩ (gx_c1 (gx_le8 rfl) (k_G_functionOf hk) (gx_run 2 ?_))))
  refine And.intro (fun c => ?_) (And.intro (fun c => ?_) (And.intro (fun c => ?_) (And.intro (fun c => ?_) (And.intro (fun c => ?_) (And.intro (fun c => ?_) trivial)))))
  · refine gx_run 2 (And.intro ?_ rfl)
    have c0 : ¬ x = nI 0 := c 0 (by decide)
    have c1 : ¬ x = nI 1 := c 1 (by decide)
    have c2 : ¬ x = nI 2 := c 2 (by decide)
    have c3 : ¬ x = nI 3 := c 3 (by decide)
    have c4 : ¬ x = nI 4 := c 4 (by decide)
    simp only [ga_td, if_neg c0, if_neg c1, if_neg c2, if_neg c3, if_neg c4]
  · obtain rfl : x = nI 0 := c
    exact gx_run 1 (gx_getf rfl (gc_at_o hk) rfl (gx_run 1 (And.intro rfl rfl)))
  · obtain rfl : x = nI 1 := c
    exact gx_run 1 (gx_getf rfl (gc_at_o hk) rfl (gx_run 1 (And.intro rfl rfl)))
  · obtain rfl : x = nI 2 := c
    exact gx_run 3 (And.intro ⟨_, gc_at_o hk⟩ (gx_c1 (gx_le8 rfl) (k_F_localCount hk hw.2.2.1) (And.intro rfl rfl)))
  · obtain rfl : x = nI 3 := c
    exact gx_run 3 (And.intro ⟨_, gc_at_o hk⟩ (gx_c1 (gx_le8 rfl) (k_F_frameLength hk hw) (And.intro rfl rfl)))
  · obtain rfl : x = nI 4 := c
    exact gx_run 3 (And.intro ⟨_, gc_at_o hk⟩ (gx_c1 (gx_le8 rfl) (k_F_localsBegin hk hw.2.2.1) (And.intro rfl rfl)))
theorem k_G_local_n (x q : Int32) (hx : x < 0 ∨ nI 12 ≤ x) : gx_call LL xs (d + 2) z_G_local 0 0 [.ref 0, .int x, .int q] (gc_h n μ sp fo pc lp cl tk tc F tn tl) (fun r h => r = some (.int (-(nI 1))) ∧ h = (gc_h n μ sp fo pc lp cl tk tc F tn tl)) :=
  gs_G_local _ _ _ (gx_run 6 (And.intro ⟨_, rfl⟩ (gx_c1 (gx_le8 rfl) (k_G_functionOf_n hx) (gx_run 3 (And.intro rfl rfl)))))
theorem k_G_local_m {k : Nat} (x : Int32) (hk : k < 12) (hx : x < 0) : gx_call LL xs (d + 3) z_G_local 0 0 [.ref 0, .int (nI k), .int x] (gc_h n μ sp fo pc lp cl tk tc F tn tl) (fun r h => r = some (.int (-(nI 1))) ∧ h = (gc_h n μ sp fo pc lp cl tk tc F tn tl)) :=
  gs_G_local _ _ _ (gx_run 6 (And.intro ⟨_, rfl⟩ (gx_c1 (gx_le8 rfl) (k_G_functionOf hk) (gx_run 4 (And.intro ⟨_, gc_at_o hk⟩ (gx_c1 (gx_le8 rfl) (k_F_placeOfLocal_n hk hx) (And.intro rfl rfl)))))))
theorem k_G_local {k q : Nat} (hk : k < 12) (hw : ga_wf (F k)) (hq : q < 2147483648) : gx_call LL xs (d + 3) z_G_local 0 0 [.ref 0, .int (nI k), .int (nI q)] (gc_h n μ sp fo pc lp cl tk tc F tn tl) (fun r h => r = some (.int (ga_fp (ga_pl (F k).2.2.2.1 (F k).2.2.2.2 0 (F k).2.2.1 0 q))) ∧ h = (gc_h n μ sp fo pc lp cl tk tc F tn tl)) :=
  gs_G_local _ _ _ (gx_run 6 (And.intro ⟨_, rfl⟩ (gx_c1 (gx_le8 rfl) (k_G_functionOf hk) (gx_run 4 (And.intro ⟨_, gc_at_o hk⟩ (gx_c1 (gx_le8 rfl) (k_F_placeOfLocal hk hw hq) (And.intro rfl rfl)))))))
/-! stubs, returns -/
theorem k_G_pushStub (way addr p : Int32) (hs : sp + 16 ≤ n) (hn : n ≤ 1024) : gx_call LL xs (d + 4) z_G_pushStub 0 0 [.ref 0, .int way, .int addr, .int p] (gc_h n μ sp fo pc lp cl tk tc F tn tl) (fun r h => r = none ∧ h = (gc_h n (ga_st μ sp way addr p (ga_fp fo)) (sp + 16) fo pc lp cl tk tc F tn tl)) := by
  refine gs_G_pushStub _ _ _ _ (gx_run 18 (And.intro ⟨_, rfl⟩ (gx_c1 (gx_le8 rfl) (k_R_append (show sp + 4 ≤ n by omega) (show n < 2147483648 by omega)) (And.intro ⟨_, rfl⟩ (gx_c1 (gx_le8 rfl) (k_R_append (show sp + 4 + 4 ≤ n by omega) (show n < 2147483648 by omega)) ?_)))))
  exact And.intro ⟨_, rfl⟩ (gx_c1 (gx_le8 rfl) (k_R_append (show sp + 4 + 4 + 4 ≤ n by omega) (show n < 2147483648 by omega)) (And.intro ⟨_, rfl⟩ (gx_c1 (gx_le8 rfl) (k_R_append (show sp + 4 + 4 + 4 + 4 ≤ n by omega) (show n < 2147483648 by omega)) (And.intro rfl rfl))))
theorem k_G_goBack_e (v : Int32) {e : Nat} {fp2 : Option Nat} (h16 : 16 ≤ e) (he : e ≤ n) (hn : n ≤ 1024) (hμ : ∀ i, μ i < 256) (hrd : ga_rd μ (e - 4) 4 = ga_fp fp2) (hf : ∀ f, fp2 = some f → f + 8 ≤ n ∧ ga_w μ (f + 4) ≤ ga_w μ f) (hcg : ga_cg μ (ga_rd μ (e - 16) 4) (ga_rd μ (e - 12) 4) fp2 = false) :
    gx_call LL xs (d + 6) z_G_goBack 0 0 [.ref 0, .int (nI e), .int v] (gc_h n μ sp fo pc lp cl tk tc F tn tl) (fun r h => r = some (.int (-(nI 13))) ∧ h = (gc_h n μ sp fo pc lp cl tk tc F tn tl)) := by
  have e1 : nI e - nI 16 = nI (e - 16) := pk_sub h16
  have c1 : gx_call LL xs (d + 5) z_R_number 0 0 [.ref 3, .int (nI e - nI 16), .int (nI 4)] (gc_h n μ sp fo pc lp cl tk tc F tn tl) (fun r h => r = some (.int (ga_rd μ (e - 16) 4)) ∧ h = (gc_h n μ sp fo pc lp cl tk tc F tn tl)) := by
    rw [e1]; exact k_R_number (by omega) (by omega) hμ
  have c2 : gx_call LL xs (d + 5) z_R_number 0 0 [.ref 3, .int (nI e - nI 16 + nI 4), .int (nI 4)] (gc_h n μ sp fo pc lp cl tk tc F tn tl) (fun r h => r = some (.int (ga_rd μ (e - 12) 4)) ∧ h = (gc_h n μ sp fo pc lp cl tk tc F tn tl)) := by
    rw [e1, nI_add, show e - 16 + 4 = e - 12 by omega]; exact k_R_number (by omega) (by omega) hμ
  have c3 := k_G_frameBelow (LL := LL) (xs := xs) (d := d + 2) (n := n) (μ := μ) (sp := sp) (fo := fo) (pc := pc) (lp := lp) (cl := cl) (tk := tk) (tc := tc) (F := F) (tn := tn) (tl := tl) (show 4 ≤ e by omega) he (by omega) hμ
  rw [hrd] at c3
  have c4 := k_G_canGo (LL := LL) (xs := xs) (d := d) (n := n) (μ := μ) (sp := sp) (fo := fo) (pc := pc) (lp := lp) (cl := cl) (tk := tk) (tc := tc) (F := F) (tn := tn) (tl := tl) (ga_rd μ (e - 16) 4) (ga_rd μ (e - 12) 4) (fp2 := fp2) (by omega) hμ hf
  rw [hcg] at c4
  refine gs_G_goBack _ _ _ (gx_run 28 (And.intro ⟨_, rfl⟩ (gx_c1 (gx_le8 rfl) c1 (And.intro ⟨_, rfl⟩ (gx_c1 (gx_le8 rfl) c2 (And.intro ⟨_, rfl⟩ (gx_c1 (gx_le8 rfl) c3 (And.intro ⟨_, rfl⟩ (gx_c1 (gx_le8 rfl) c4 ?_)))))))))
  exact And.intro (fun c => absurd rfl c) (fun _ => gx_run 2 (And.intro rfl rfl))
theorem k_G_goBack (v : Int32) {e c : Nat} {fp2 : Option Nat} (h16 : 16 ≤ e) (he : e ≤ sp) (hs : sp ≤ n) (hn : n ≤ 1024) (hμ : ∀ i, μ i < 256) (hrd : ga_rd μ (e - 4) 4 = ga_fp fp2) (hf : ∀ f, fp2 = some f → f + 8 ≤ n ∧ ga_w μ (f + 4) ≤ ga_w μ f ∧ f + ga_w μ f ≤ n) (hcg : ga_cg μ (ga_rd μ (e - 16) 4) (ga_rd μ (e - 12) 4) fp2 = true)
    (hlow : ∀ c', c = c' + 1 → tk c' < e) (hcc : c ≤ tc) (htc : tc ≤ n / 16 + 1) (hi : ∀ i, c ≤ i → i < tc → e ≤ tk i ∧ tk i < 2147483648) :
    gx_call LL xs (d + 6) z_G_goBack 0 0 [.ref 0, .int (nI e), .int v] (gc_h n μ sp fo pc lp cl tk tc F tn tl) (fun r h => r = some (.int (ga_fp fp2)) ∧ h = (gc_h n (ga_g1 μ (e - 16) fp2 (ga_rd μ (e - 16) 4) (ga_rd μ (e - 12) 4) v) (ga_g2 (e - 16) (ga_rd μ (e - 16) 4)) fp2 (ga_rd μ (e - 8) 4) lp (ga_g3 cl (ga_rd μ (e - 16) 4) (ga_rd μ (e - 12) 4) v) tk c F tn tl)) := by
  have e1 : nI e - nI 16 = nI (e - 16) := pk_sub h16
  have c1 : gx_call LL xs (d + 5) z_R_number 0 0 [.ref 3, .int (nI e - nI 16), .int (nI 4)] (gc_h n μ sp fo pc lp cl tk tc F tn tl) (fun r h => r = some (.int (ga_rd μ (e - 16) 4)) ∧ h = (gc_h n μ sp fo pc lp cl tk tc F tn tl)) := by
    rw [e1]; exact k_R_number (by omega) (by omega) hμ
  have c2 : gx_call LL xs (d + 5) z_R_number 0 0 [.ref 3, .int (nI e - nI 16 + nI 4), .int (nI 4)] (gc_h n μ sp fo pc lp cl tk tc F tn tl) (fun r h => r = some (.int (ga_rd μ (e - 12) 4)) ∧ h = (gc_h n μ sp fo pc lp cl tk tc F tn tl)) := by
    rw [e1, nI_add, show e - 16 + 4 = e - 12 by omega]; exact k_R_number (by omega) (by omega) hμ
  have c3 := k_G_frameBelow (LL := LL) (xs := xs) (d := d + 2) (n := n) (μ := μ) (sp := sp) (fo := fo) (pc := pc) (lp := lp) (cl := cl) (tk := tk) (tc := tc) (F := F) (tn := tn) (tl := tl) (show 4 ≤ e by omega) (show e ≤ n by omega) (by omega) hμ
  rw [hrd] at c3
  have c4 := k_G_canGo (LL := LL) (xs := xs) (d := d) (n := n) (μ := μ) (sp := sp) (fo := fo) (pc := pc) (lp := lp) (cl := cl) (tk := tk) (tc := tc) (F := F) (tn := tn) (tl := tl) (ga_rd μ (e - 16) 4) (ga_rd μ (e - 12) 4) (fp2 := fp2) (by omega) hμ (fun f h => ⟨(hf f h).1, (hf f h).2.1⟩)
  rw [hcg] at c4
  have c5 : gx_call LL xs (d + 5) z_R_number 0 0 [.ref 3, .int (nI e - nI 16 + nI 8), .int (nI 4)] (gc_h n μ sp fo pc lp cl tk tc F tn tl) (fun r h => r = some (.int (ga_rd μ (e - 8) 4)) ∧ h = (gc_h n μ sp fo pc lp cl tk tc F tn tl)) := by
    rw [e1, nI_add, show e - 16 + 8 = e - 8 by omega]; exact k_R_number (by omega) (by omega) hμ
  have c6 := k_G_drop (LL := LL) (xs := xs) (d := d + 3) (n := n) (μ := μ) (sp := sp) (fo := fp2) (pc := ga_rd μ (e - 8) 4) (lp := lp) (cl := cl) (tk := tk) (tc := tc) (F := F) (tn := tn) (tl := tl) (show n < 2147483648 by omega) (show e < 2147483648 by omega) hlow hcc htc hi
  have c7 : gx_call LL xs (d + 5) z_R_cutTo 0 0 [.ref 3, .int (nI e - nI 16)] (gc_h n μ sp fp2 (ga_rd μ (e - 8) 4) lp cl tk c F tn tl) (fun r h => r = none ∧ h = (gc_h n μ (e - 16) fp2 (ga_rd μ (e - 8) 4) lp cl tk c F tn tl)) := by
    rw [e1]; exact k_R_cutTo (by omega) (by omega)
  have c8 := k_G_send (LL := LL) (xs := xs) (d := d + 1) (n := n) (μ := μ) (sp := e - 16) (fo := fp2) (pc := ga_rd μ (e - 8) 4) (lp := lp) (cl := cl) (tk := tk) (tc := c) (F := F) (tn := tn) (tl := tl) v (ga_rd μ (e - 16) 4) (ga_rd μ (e - 12) 4) hn (show e - 16 ≤ n by omega) hμ (fun f h => ⟨(hf f h).1, (hf f h).2.2⟩) hcg (fun _ => by omega)
  refine gs_G_goBack _ _ _ (gx_run 28 (And.intro ⟨_, rfl⟩ (gx_c1 (gx_le8 rfl) c1 (And.intro ⟨_, rfl⟩ (gx_c1 (gx_le8 rfl) c2 (And.intro ⟨_, rfl⟩ (gx_c1 (gx_le8 rfl) c3 (And.intro ⟨_, rfl⟩ (gx_c1 (gx_le8 rfl) c4 (And.intro (fun _ => ?_) (fun c => absurd c (by decide))))))))))))
  exact gx_run 27 (And.intro ⟨_, rfl⟩ (gx_c1 (gx_le8 rfl) c5 (And.intro ⟨_, rfl⟩ (gx_c1 (gx_le8 rfl) c6 (And.intro ⟨_, rfl⟩ (gx_c1 (gx_le8 rfl) c7 (And.intro ⟨_, rfl⟩ (gx_c1 (gx_le8 rfl) c8 (And.intro rfl rfl)))))))))
theorem k_G_leave_n (v : Int32) : gx_call LL xs (d + 1) z_G_leave 0 0 [.ref 0, .int v] (gc_h n μ sp none pc lp cl tk tc F tn tl) (fun r h => r = some (.int (-(nI 16))) ∧ h = (gc_h n μ sp none pc lp cl tk tc F tn tl)) :=
  gs_G_leave _ _ (gx_run 4 (And.intro (fun c => absurd rfl c) (fun _ => gx_run 3 (And.intro rfl rfl))))
theorem k_G_leave (v : Int32) {f : Nat} (hf : f < 2147483648) {r0 : Int32} {h0 : gx_H} (hc : gx_call LL xs d z_G_goBack 0 0 [.ref 0, .int (nI f), .int v] (gc_h n μ sp (some f) pc lp cl tk tc F tn tl) (fun r h => r = some (.int r0) ∧ h = h0)) : gx_call LL xs (d + 1) z_G_leave 0 0 [.ref 0, .int v] (gc_h n μ sp (some f) pc lp cl tk tc F tn tl) (fun r h => r = some (.int r0) ∧ h = h0) :=
  gs_G_leave _ _ (gx_run 4 (And.intro (fun _ => gx_run 6 (And.intro ⟨_, rfl⟩ (gx_c1 (gx_le8 rfl) hc (And.intro rfl rfl)))) (fun c => absurd c (ga_fp_none hf))))
theorem k_G_thrown_n (x v : Int32) (hc : tc ≤ n / 16 + 1) (hn : n < 2147483648) (hx : ∀ j, j < tc → ¬ nI (tk j) = x) : gx_call LL xs (d + 2) z_G_thrown 0 0 [.ref 0, .int x, .int v] (gc_h n μ sp fo pc lp cl tk tc F tn tl) (fun r h => r = some (.int (-(nI 14))) ∧ h = (gc_h n μ sp fo pc lp cl tk tc F tn tl)) := by
  refine gs_G_thrown _ _ _ (gx_run 4 (And.intro ⟨_, rfl⟩ (gx_cq (gx_le8 rfl) (k_G_isLive x hc hn) (fun r h1 q => ?_))))
  obtain ⟨q, rfl⟩ := q
  rcases q with ⟨-, j, hj, e⟩ | ⟨rfl, -⟩
  · exact absurd e (hx j hj)
  · exact And.intro (fun _ => gx_run 2 (And.intro rfl rfl)) (fun c => absurd rfl c)
theorem k_G_thrown (v : Int32) {j : Nat} (hc : tc ≤ n / 16 + 1) (hn : n < 2147483648) (hj : j < tc) {r0 : Int32} {h0 : gx_H} (hb : gx_call LL xs (d + 1) z_G_goBack 0 0 [.ref 0, .int (nI (tk j)), .int v] (gc_h n μ sp fo pc lp cl tk tc F tn tl) (fun r h => r = some (.int r0) ∧ h = h0)) : gx_call LL xs (d + 2) z_G_thrown 0 0 [.ref 0, .int (nI (tk j)), .int v] (gc_h n μ sp fo pc lp cl tk tc F tn tl) (fun r h => r = some (.int r0) ∧ h = h0) := by
  refine gs_G_thrown _ _ _ (gx_run 4 (And.intro ⟨_, rfl⟩ (gx_cq (gx_le8 rfl) (k_G_isLive (nI (tk j)) hc hn) (fun r h1 q => ?_))))
  obtain ⟨q, rfl⟩ := q
  rcases q with ⟨rfl, -⟩ | ⟨-, hx⟩
  · exact And.intro (fun c => absurd c (by decide)) (fun _ => gx_run 6 (And.intro ⟨_, rfl⟩ (gx_c1 (gx_le8 rfl) hb (And.intro rfl rfl))))
  · exact absurd rfl (hx j hj)
theorem k_G_caught_b (way addr p : Int32) (hw : way < 0 ∨ nI 3 < way) : gx_call LL xs (d + 2) z_G_caught 0 0 [.ref 0, .int way, .int addr, .int p] (gc_h n μ sp fo pc lp cl tk tc F tn tl) (fun r h => r = some (.int (-(nI 1))) ∧ h = (gc_h n μ sp fo pc lp cl tk tc F tn tl)) := by
  refine gs_G_caught _ _ _ _ (gx_run 3 (gx_c1 (gx_le8 rfl) (k_G_isWay way) ?_))
  rw [if_pos hw]
  exact And.intro (fun c => absurd rfl c) (fun _ => gx_run 2 (And.intro rfl rfl))
theorem k_G_caught_n (way addr p : Int32) (hw : ¬ (way < 0 ∨ nI 3 < way)) : gx_call LL xs (d + 2) z_G_caught 0 0 [.ref 0, .int way, .int addr, .int p] (gc_h n μ sp none pc lp cl tk tc F tn tl) (fun r h => r = some (.int (-(nI 16))) ∧ h = (gc_h n μ sp none pc lp cl tk tc F tn tl)) := by
  refine gs_G_caught _ _ _ _ (gx_run 3 (gx_c1 (gx_le8 rfl) (k_G_isWay way) ?_))
  rw [if_neg hw]
  exact And.intro (fun _ => gx_run 4 (And.intro (fun c => absurd rfl c) (fun _ => gx_run 2 (And.intro rfl rfl)))) (fun c => absurd c (by decide))
theorem k_G_caught_w (way addr p : Int32) {f : Nat} (hw : ¬ (way < 0 ∨ nI 3 < way)) (hf : f + 8 ≤ n) (hl : ga_w μ (f + 4) ≤ ga_w μ f) (hn : n ≤ 1024) (hμ : ∀ i, μ i < 256) (hcg : ga_cg μ way addr (some f) = false) : gx_call LL xs (d + 6) z_G_caught 0 0 [.ref 0, .int way, .int addr, .int p] (gc_h n μ sp (some f) pc lp cl tk tc F tn tl) (fun r h => r = some (.int (-(nI 13))) ∧ h = (gc_h n μ sp (some f) pc lp cl tk tc F tn tl)) := by
  have c4 := k_G_canGo (LL := LL) (xs := xs) (d := d) (n := n) (μ := μ) (sp := sp) (fo := some f) (pc := pc) (lp := lp) (cl := cl) (tk := tk) (tc := tc) (F := F) (tn := tn) (tl := tl) way addr (fp2 := some f) (by omega) hμ (fun g h => by cases h; exact ⟨hf, hl⟩)
  rw [hcg] at c4
  refine gs_G_caught _ _ _ _ (gx_run 3 (gx_c1 (gx_le8 rfl) (k_G_isWay way) ?_))
  rw [if_neg hw]
  refine And.intro (fun _ => gx_run 4 (And.intro (fun _ => ?_) (fun c => absurd c (ga_fp_none (by omega))))) (fun c => absurd c (by decide))
  exact gx_run 7 (And.intro ⟨_, rfl⟩ (gx_c1 (gx_le8 rfl) c4 (And.intro (fun c => absurd rfl c) (fun _ => gx_run 2 (And.intro rfl rfl)))))
theorem k_G_caught_f (way addr p : Int32) {f : Nat} (hw : ¬ (way < 0 ∨ nI 3 < way)) (hf : f + 8 ≤ n) (hl : ga_w μ (f + 4) ≤ ga_w μ f) (hs : sp ≤ n) (hn : n ≤ 1024) (hμ : ∀ i, μ i < 256) (hcg : ga_cg μ way addr (some f) = true) (hfull : n < sp + 16 + (if way = nI 3 then 4 else 0)) : gx_call LL xs (d + 6) z_G_caught 0 0 [.ref 0, .int way, .int addr, .int p] (gc_h n μ sp (some f) pc lp cl tk tc F tn tl) (fun r h => r = some (.int (-(nI 15))) ∧ h = (gc_h n μ sp (some f) pc lp cl tk tc F tn tl)) := by
  have c4 := k_G_canGo (LL := LL) (xs := xs) (d := d) (n := n) (μ := μ) (sp := sp) (fo := some f) (pc := pc) (lp := lp) (cl := cl) (tk := tk) (tc := tc) (F := F) (tn := tn) (tl := tl) way addr (fp2 := some f) (by omega) hμ (fun g h => by cases h; exact ⟨hf, hl⟩)
  rw [hcg] at c4
  have hr : ∀ q, n < q → q < 2147483648 → gx_call LL xs (d + 5) z_R_reaches 0 0 [.ref 3, .int (nI q)] (gc_h n μ sp (some f) pc lp cl tk tc F tn tl) (fun r h => r = some (.int (nI 0)) ∧ h = (gc_h n μ sp (some f) pc lp cl tk tc F tn tl)) := fun q h1 h2 => by
    have := k_R_reaches (LL := LL) (xs := xs) (d := d + 4) (n := n) (μ := μ) (sp := sp) (fo := some f) (pc := pc) (lp := lp) (cl := cl) (tk := tk) (tc := tc) (F := F) (tn := tn) (tl := tl) (nI q)
    rw [if_pos (nI_lt h1 h2)] at this
    exact this
  refine gs_G_caught _ _ _ _ (gx_run 3 (gx_c1 (gx_le8 rfl) (k_G_isWay way) ?_))
  rw [if_neg hw]
  refine And.intro (fun _ => gx_run 4 (And.intro (fun _ => ?_) (fun c => absurd c (ga_fp_none (by omega))))) (fun c => absurd c (by decide))
  refine gx_run 7 (And.intro ⟨_, rfl⟩ (gx_c1 (gx_le8 rfl) c4 (And.intro (fun _ => ?_) (fun c => absurd c (by decide)))))
  refine gx_run 11 (And.intro ⟨_, rfl⟩ (gx_c1 (gx_le8 rfl) k_R_end (And.intro (fun c => ?_) (fun c => ?_))))
  · rw [if_neg c] at hfull
    have hr1 := hr (sp + 16) (by omega) (by omega)
    rw [← nI_add] at hr1
    exact gx_run 3 (And.intro ⟨_, rfl⟩ (gx_c1 (gx_le8 rfl) hr1 (And.intro (fun c => absurd rfl c) (fun _ => gx_run 2 (And.intro rfl rfl)))))
  · rw [if_pos c] at hfull
    have hr1 := hr (sp + 16 + 4) (by omega) (by omega)
    rw [← nI_add, ← nI_add] at hr1
    exact gx_run 6 (And.intro ⟨_, rfl⟩ (gx_c1 (gx_le8 rfl) hr1 (And.intro (fun c => absurd rfl c) (fun _ => gx_run 2 (And.intro rfl rfl)))))
theorem k_G_caught (way addr p : Int32) {f : Nat} (hw : ¬ (way < 0 ∨ nI 3 < way)) (hf : f + 8 ≤ sp) (hfn : f + ga_w μ f ≤ sp) (hl : ga_w μ (f + 4) ≤ ga_w μ f) (hn : n ≤ 1024) (hμ : ∀ i, μ i < 256) (hcg : ga_cg μ way addr (some f) = true) (hfull : sp + 16 + (if way = nI 3 then 4 else 0) ≤ n) (htc : tc < n / 16 + 1) : gx_call LL xs (d + 6) z_G_caught 0 0 [.ref 0, .int way, .int addr, .int p] (gc_h n μ sp (some f) pc lp cl tk tc F tn tl)
    (fun r h => r = some (.int (nI (sp + 16))) ∧ h = (gc_h n (ga_g1 (ga_st μ sp way addr p (nI f)) (sp + 16) (some f) way addr (nI (sp + 16))) (ga_g2 (sp + 16) way) (some f) pc lp (ga_g3 cl way addr (nI (sp + 16))) (va_up tk tc (sp + 16)) (tc + 1) F tn tl)) := by
  have c4 := k_G_canGo (LL := LL) (xs := xs) (d := d) (n := n) (μ := μ) (sp := sp) (fo := some f) (pc := pc) (lp := lp) (cl := cl) (tk := tk) (tc := tc) (F := F) (tn := tn) (tl := tl) way addr (fp2 := some f) (by omega) hμ (fun g h => by cases h; exact ⟨by omega, hl⟩)
  rw [hcg] at c4
  have hs16 : sp + 16 ≤ n := by omega
  have hr : ∀ q, q ≤ n → gx_call LL xs (d + 5) z_R_reaches 0 0 [.ref 3, .int (nI q)] (gc_h n μ sp (some f) pc lp cl tk tc F tn tl) (fun r h => r = some (.int (nI 1)) ∧ h = (gc_h n μ sp (some f) pc lp cl tk tc F tn tl)) := fun q h1 => by
    have := k_R_reaches (LL := LL) (xs := xs) (d := d + 4) (n := n) (μ := μ) (sp := sp) (fo := some f) (pc := pc) (lp := lp) (cl := cl) (tk := tk) (tc := tc) (F := F) (tn := tn) (tl := tl) (nI q)
    rw [if_neg (nI_nlt h1 (by omega))] at this
    exact this
  have hout : ∀ i, i < sp → ga_st μ sp way addr p (nI f) i = μ i := fun i hi => ga_st_out (Or.inl hi)
  have w1 : ga_w (ga_st μ sp way addr p (nI f)) f = ga_w μ f := ga_w_cong fun i h1 h2 => hout i (by omega)
  have w2 : ga_w (ga_st μ sp way addr p (nI f)) (f + 4) = ga_w μ (f + 4) := ga_w_cong fun i h1 h2 => hout i (by omega)
  have hcg2 : ga_cg (ga_st μ sp way addr p (nI f)) way addr (some f) = true := by
    rw [← hcg]
    exact ga_cg_cong fun g h => by cases h; exact ⟨w1, w2⟩
  have c5 := k_G_pushStub (LL := LL) (xs := xs) (d := d + 1) (n := n) (μ := μ) (sp := sp) (fo := some f) (pc := pc) (lp := lp) (cl := cl) (tk := tk) (tc := tc) (F := F) (tn := tn) (tl := tl) way addr p hs16 hn
  have c6 : gx_call LL xs (d + 5) z_G_addToken 0 0 [.ref 0, .int (nI sp + nI 16)] (gc_h n (ga_st μ sp way addr p (nI f)) (sp + 16) (some f) pc lp cl tk tc F tn tl) (fun r h => r = none ∧ h = (gc_h n (ga_st μ sp way addr p (nI f)) (sp + 16) (some f) pc lp cl (va_up tk tc (sp + 16)) (tc + 1) F tn tl)) := by
    rw [nI_add]
    exact k_G_addToken htc (by omega)
  have c7 := k_G_send (LL := LL) (xs := xs) (d := d + 1) (n := n) (μ := ga_st μ sp way addr p (nI f)) (sp := sp + 16) (fo := some f) (pc := pc) (lp := lp) (cl := cl) (tk := va_up tk tc (sp + 16)) (tc := tc + 1) (F := F) (tn := tn) (tl := tl) (nI (sp + 16)) way addr hn hs16 (ga_st_lt hμ) (fun g h => by cases h; rw [w1]; exact ⟨by omega, by omega⟩) hcg2 (fun h => by rw [if_pos h] at hfull; omega)
  rw [← nI_add sp 16] at c7 ⊢
  refine gs_G_caught _ _ _ _ (gx_run 3 (gx_c1 (gx_le8 rfl) (k_G_isWay way) ?_))
  rw [if_neg hw]
  refine And.intro (fun _ => gx_run 4 (And.intro (fun _ => ?_) (fun c => absurd c (ga_fp_none (by omega))))) (fun c => absurd c (by decide))
  refine gx_run 7 (And.intro ⟨_, rfl⟩ (gx_c1 (gx_le8 rfl) c4 (And.intro (fun _ => ?_) (fun c => absurd c (by decide)))))
  refine gx_run 11 (And.intro ⟨_, rfl⟩ (gx_c1 (gx_le8 rfl) k_R_end (And.intro (fun c => ?_) (fun c => ?_))))
  · have hr1 := hr (sp + 16) (by omega)
    rw [← nI_add] at hr1
    refine gx_run 3 (And.intro ⟨_, rfl⟩ (gx_c1 (gx_le8 rfl) hr1 (And.intro (fun _ => ?_) (fun c => absurd c (by decide)))))
    exact gx_run 15 (And.intro ⟨_, rfl⟩ (gx_c1 (gx_le8 rfl) c5 (And.intro ⟨_, rfl⟩ (gx_c1 (gx_le8 rfl) c6 (And.intro ⟨_, rfl⟩ (gx_c1 (gx_le8 rfl) c7 (And.intro rfl rfl)))))))
  · rw [if_pos c] at hfull
    have hr1 := hr (sp + 16 + 4) (by omega)
    rw [← nI_add, ← nI_add] at hr1
    refine gx_run 6 (And.intro ⟨_, rfl⟩ (gx_c1 (gx_le8 rfl) hr1 (And.intro (fun _ => ?_) (fun c => absurd c (by decide)))))
    exact gx_run 15 (And.intro ⟨_, rfl⟩ (gx_c1 (gx_le8 rfl) c5 (And.intro ⟨_, rfl⟩ (gx_c1 (gx_le8 rfl) c6 (And.intro ⟨_, rfl⟩ (gx_c1 (gx_le8 rfl) c7 (And.intro rfl rfl)))))))
end GCL
end
section
/-! A frame is entered. -/
def ga_wo (wd ct : Nat → Nat) (i : Nat) : Nat → Nat → Nat
  | 0, _ => 0
  | m + 1, left => if left < ct i then wd i else ga_wo wd ct (i + 1) m (left - ct i)
def ga_pc (f : ga_F) (k : Nat) : Nat := (ga_pl f.2.2.2.1 f.2.2.2.2 0 f.2.2.1 0 k).getD 0
def ga_wk (f : ga_F) (k : Nat) : Nat := ga_wo f.2.2.2.1 f.2.2.2.2 0 f.2.2.1 k
def ga_ls (f : ga_F) : Nat := ga_lc f.2.2.2.2 f.2.2.1
/-- locals become arguments, one by one; a: where locals begin -/
def ga_sl (f : ga_F) (A : Nat → Int32) (a : Nat) (μ : Nat → Nat) : Nat → (Nat → Nat)
  | 0 => μ
  | k + 1 => ga_wr (ga_sl f A a μ k) (a + ga_pc f k) (ga_wk f k) (A k)
theorem ga_sl_lt {f : ga_F} {A : Nat → Int32} {a : Nat} {μ : Nat → Nat} (h : ∀ i, μ i < 256) : ∀ k i, ga_sl f A a μ k i < 256
  | 0, i => h i
  | k + 1, i => ga_wr_lt (ga_sl_lt h k) i
theorem ga_sl_low {f : ga_F} {A : Nat → Int32} {a : Nat} {μ : Nat → Nat} : ∀ {k i : Nat}, i < a → ga_sl f A a μ k i = μ i
  | 0, _, _ => rfl
  | k + 1, i, h => by
    show ga_wr _ _ _ _ i = _
    rw [ga_wr_out (by omega)]
    exact ga_sl_low h
theorem ga_sl_cong {f : ga_F} {A B : Nat → Int32} {a : Nat} {μ : Nat → Nat} : ∀ {k : Nat}, (∀ j, j < k → A j = B j) → ga_sl f A a μ k = ga_sl f B a μ k
  | 0, _ => rfl
  | k + 1, h => by
    show ga_wr _ _ _ _ = ga_wr _ _ _ _
    rw [ga_sl_cong fun j hj => h j (by omega), h k (by omega)]
theorem ga_ws_cong {a : Nat} {V W : Nat → Int32} {μ : Nat → Nat} : ∀ {k : Nat}, (∀ j, j < k → V j = W j) → ga_ws a V μ k = ga_ws a W μ k
  | 0, _ => rfl
  | k + 1, h => by
    show ga_wr _ _ _ _ = ga_wr _ _ _ _
    rw [ga_ws_cong fun j hj => h j (by omega), h k (by omega)]
theorem ga_lc_mono {ct : Nat → Nat} {j p : Nat} (h : j ≤ p) : ga_lc ct j ≤ ga_lc ct p := by
  induction p with
  | zero => rw [show j = 0 by omega]; exact Nat.le_refl _
  | succ p ih =>
    by_cases e : j = p + 1
    · rw [e]; exact Nat.le_refl _
    · have := ih (by omega)
      show _ ≤ ga_lc ct p + ct p
      omega
theorem ga_wo_at {wd ct : Nat → Nat} {p i : Nat} (hi : i < ct p) : ∀ (m j : Nat), j ≤ p → p < j + m → ga_wo wd ct j m (ga_lc ct p + i - ga_lc ct j) = wd p
  | 0, j, h1, h2 => by omega
  | m + 1, j, h1, h2 => by
    unfold ga_wo
    by_cases e : j = p
    · subst e
      rw [if_pos (by omega)]
    · have h3 := ga_lc_mono (ct := ct) (show j + 1 ≤ p by omega)
      have h4 : ga_lc ct (j + 1) = ga_lc ct j + ct j := rfl
      rw [if_neg (by omega), show ga_lc ct p + i - ga_lc ct j - ct j = ga_lc ct p + i - ga_lc ct (j + 1) by omega]
      exact ga_wo_at hi m (j + 1) (by omega) (by omega)
theorem ga_pl_at {wd ct : Nat → Nat} : ∀ (m j at_ left : Nat), left < ga_lc ct (j + m) - ga_lc ct j → ∃ x, ga_pl wd ct j m at_ left = some x
  | 0, j, at_, left, h => by rw [Nat.add_zero] at h; omega
  | m + 1, j, at_, left, h => by
    unfold ga_pl
    by_cases c : left < ct j
    · rw [if_pos c]; exact ⟨_, rfl⟩
    · rw [if_neg c]
      have h4 : ga_lc ct (j + 1) = ga_lc ct j + ct j := rfl
      exact ga_pl_at m (j + 1) _ _ (by rw [show j + 1 + m = j + (m + 1) by omega]; omega)
theorem ga_pl_le {wd ct : Nat → Nat} : ∀ {m j at_ left x : Nat}, (∀ q, j ≤ q → q < j + m → (wd q = 1 ∨ wd q = 2 ∨ wd q = 4)) → ga_pl wd ct j m at_ left = some x → x + ga_wo wd ct j m left ≤ ga_fl wd ct j m at_
  | 0, _, _, _, _, _, h => by cases h
  | m + 1, j, at_, left, x, hw, h => by
    unfold ga_pl at h
    unfold ga_wo ga_fl
    by_cases c : left < ct j
    · rw [if_pos c] at h ⊢
      cases h
      have h1 := ga_fl_ge (wd := wd) (ct := ct) (m := m) (i := j + 1) (at_ := ga_up (wd j) at_ + ct j * wd j) (fun q a b => hw q (by omega) (by omega))
      have h2 : (left + 1) * wd j ≤ ct j * wd j := Nat.mul_le_mul_right _ c
      rw [Nat.succ_mul] at h2
      omega
    · rw [if_neg c] at h ⊢
      exact ga_pl_le (fun q a b => hw q (by omega) (by omega)) h
theorem ga_up_add {w B x : Nat} (hw : w = 1 ∨ w = 2 ∨ w = 4) (hB : B % 4 = 0) : ga_up w (B + x) = B + ga_up w x := by
  unfold ga_up
  rcases hw with rfl | rfl | rfl <;> omega
theorem ga_fl_add {wd ct : Nat → Nat} {B : Nat} (hB : B % 4 = 0) : ∀ {m j at_ : Nat}, (∀ q, j ≤ q → q < j + m → (wd q = 1 ∨ wd q = 2 ∨ wd q = 4)) → ga_fl wd ct j m (B + at_) = B + ga_fl wd ct j m at_
  | 0, _, _, _ => rfl
  | m + 1, j, at_, hw => by
    unfold ga_fl
    rw [ga_up_add (hw j (Nat.le_refl _) (by omega)) hB, Nat.add_assoc]
    exact ga_fl_add hB (fun q a b => hw q (by omega) (by omega))
theorem ga_lb4 (f : ga_F) : ga_lb f % 4 = 0 := by
  unfold ga_lb ga_up
  omega
/-- a local lies within the frame -/
theorem ga_pc_in {f : ga_F} (hw : ga_wf f) {k : Nat} (hk : k < ga_ls f) : ga_pl f.2.2.2.1 f.2.2.2.2 0 f.2.2.1 0 k = some (ga_pc f k) ∧ ga_lb f + ga_pc f k + ga_wk f k ≤ ga_len f := by
  have hww : ∀ q, 0 ≤ q → q < 0 + f.2.2.1 → (f.2.2.2.1 q = 1 ∨ f.2.2.2.1 q = 2 ∨ f.2.2.2.1 q = 4) := fun q _ h => (hw.2.2.2 q (by omega)).1
  obtain ⟨x, hx⟩ := ga_pl_at (wd := f.2.2.2.1) (ct := f.2.2.2.2) f.2.2.1 0 0 k (by rw [Nat.zero_add]; show k < ga_lc f.2.2.2.2 f.2.2.1 - 0; exact hk)
  have e : ga_pc f k = x := by unfold ga_pc; rw [hx]; rfl
  rw [e]
  refine ⟨hx, ?_⟩
  have h1 := ga_pl_le hww hx
  have h2 := ga_fl_add (wd := f.2.2.2.1) (ct := f.2.2.2.2) (B := ga_lb f) (ga_lb4 f) (m := f.2.2.1) (j := 0) (at_ := 0) hww
  have h3 := ga_up_ge (u := 4) (x := ga_fl f.2.2.2.1 f.2.2.2.2 0 f.2.2.1 (ga_lb f)) (by decide)
  unfold ga_len ga_wk
  rw [Nat.add_zero] at h2
  omega
theorem ga_wk_le {f : ga_F} (hw : ga_wf f) {k : Nat} : ga_wk f k ≤ 4 := by
  have h : ∀ (m j left : Nat), (∀ q, j ≤ q → q < j + m → (f.2.2.2.1 q = 1 ∨ f.2.2.2.1 q = 2 ∨ f.2.2.2.1 q = 4)) → ga_wo f.2.2.2.1 f.2.2.2.2 j m left ≤ 4 := by
    intro m
    induction m with
    | zero => intro j left _; exact Nat.zero_le _
    | succ m ih =>
      intro j left hq
      unfold ga_wo
      split
      · have := hq j (Nat.le_refl _) (by omega); omega
      · exact ih _ _ (fun q a b => hq q (by omega) (by omega))
  exact h _ _ _ fun q _ h => (hw.2.2.2 q (by omega)).1
/-- the pairs, from a on -/
def ga_pr (f : ga_F) (a : Nat) (μ : Nat → Nat) : Nat → (Nat → Nat)
  | 0 => μ
  | p + 1 => va_up (va_up (ga_pr f a μ p) (a + 2 * p) (f.2.2.2.1 p)) (a + 2 * p + 1) (f.2.2.2.2 p)
def ga_hd (f : ga_F) (μ : Nat → Nat) (sp : Nat) : Nat → Nat := ga_pr f (sp + 8) (ga_wr (ga_wr (ga_z μ sp (ga_len f)) sp 4 (nI (ga_len f))) (sp + 4) 4 (nI (ga_lb f))) f.2.2.1
/-- a frame at sp, with arguments A 0 .. A (m - 1) -/
def ga_en (f : ga_F) (A : Nat → Int32) (m : Nat) (μ : Nat → Nat) (sp : Nat) : Nat → Nat :=
  if f.1 = 192 then ga_wr (ga_ws (sp + ga_len f) (fun p => A (m - 1 - p)) (ga_hd f μ sp) m) (sp + ga_len f + 4 * m) 4 (nI m) else ga_sl f A (sp + ga_lb f) (ga_hd f μ sp) (min m (ga_ls f))
theorem ga_lo_nI {w : Nat} (h : w < 256) : ga_lo (nI w) = w := by
  unfold ga_lo
  rw [pk_tn (by omega)]
  omega
theorem ga_wr1 {μ : Nat → Nat} {a w : Nat} (h : w < 256) : ga_wr μ a 1 (nI w) = va_up μ a w := by
  show va_up μ (a + 0) (ga_lo (nI w)) = _
  rw [ga_lo_nI h]
  rfl
theorem ga_pr_lt {f : ga_F} {a : Nat} {μ : Nat → Nat} (hμ : ∀ i, μ i < 256) : ∀ p, (∀ i, i < p → f.2.2.2.1 i < 256 ∧ f.2.2.2.2 i < 256) → ∀ i, ga_pr f a μ p i < 256
  | 0, _ => hμ
  | p + 1, h => va_up_lt (va_up_lt (ga_pr_lt hμ p fun i hi => h i (by omega)) (h p (by omega)).1) (h p (by omega)).2
theorem ga_pr_out {f : ga_F} {a : Nat} {μ : Nat → Nat} : ∀ {p i : Nat}, (i < a ∨ a + 2 * p ≤ i) → ga_pr f a μ p i = μ i
  | 0, _, _ => rfl
  | p + 1, i, h => by
    show va_up (va_up _ _ _) _ _ i = _
    unfold va_up
    rw [if_neg (by omega), if_neg (by omega)]
    exact ga_pr_out (by omega)
theorem ga_wf8 {f : ga_F} (hw : ga_wf f) : ∀ i, i < f.2.2.1 → f.2.2.2.1 i < 256 ∧ f.2.2.2.2 i < 256 := fun i hi => by
  have := hw.2.2.2 i hi
  omega
theorem ga_hd_lt {f : ga_F} {μ : Nat → Nat} {sp : Nat} (hw : ga_wf f) (hμ : ∀ i, μ i < 256) : ∀ i, ga_hd f μ sp i < 256 := ga_pr_lt (ga_wr_lt (ga_wr_lt (ga_z_lt hμ))) _ (ga_wf8 hw)
theorem ga_lb_ge {f : ga_F} : 10 + 2 * f.2.2.1 ≤ ga_lb f := ga_up_ge (by decide)
theorem ga_len_ge {f : ga_F} (hw : ga_wf f) : ga_lb f ≤ ga_len f := by
  have h1 := ga_fl_ge (wd := f.2.2.2.1) (ct := f.2.2.2.2) (m := f.2.2.1) (i := 0) (at_ := ga_lb f) (fun q _ h => (hw.2.2.2 q (by omega)).1)
  have h3 := ga_up_ge (u := 4) (x := ga_fl f.2.2.2.1 f.2.2.2.2 0 f.2.2.1 (ga_lb f)) (by decide)
  unfold ga_len
  omega
/-- the header's two numbers -/
theorem ga_hd_w {f : ga_F} {μ : Nat → Nat} {sp : Nat} (hw : ga_wf f) : ga_w (ga_hd f μ sp) sp = ga_len f ∧ ga_w (ga_hd f μ sp) (sp + 4) = ga_lb f := by
  have h1 := ga_len_le hw
  have h2 := ga_lb_le hw.2.2.1
  have e : ∀ i, i < sp + 8 → ga_hd f μ sp i = ga_wr (ga_wr (ga_z μ sp (ga_len f)) sp 4 (nI (ga_len f))) (sp + 4) 4 (nI (ga_lb f)) i := fun i h => ga_pr_out (Or.inl h)
  constructor
  · refine ga_w_of ?_ (by omega)
    rw [ga_rd_cong (fun i a b => e i (by omega)), ga_rd_out (by omega), ga_rd_wr]
  · refine ga_w_of ?_ (by omega)
    rw [ga_rd_cong (fun i a b => e i (by omega)), ga_rd_wr]
section GCM
variable {LL : Nat} {xs : Nat → Int32} {d : Nat} {n : Nat} {μ : Nat → Nat} {sp : Nat} {fo : Option Nat} {pc lp : Int32} {cl : Nat → Int32} {tk : Nat → Nat} {tc : Nat} {F : Nat → ga_F} {tn : Nat → Int32} {tl : gx_H} {M : ga_M} {k : Nat}
theorem k_G_pushArguments_l {m : Nat} (hs : sp + 4 * m + 4 ≤ n) (hn : n ≤ 1024) : ∀ (q p : Nat), q + p = m →
    gx_E LL xs (gx_call LL xs (d + 3)) cd_G_pushArguments (fun r h => r = none ∧ h = (gc_h n (ga_wr (ga_ws sp (fun p => tn (m - 1 - p)) μ m) (sp + 4 * m) 4 (nI m)) (sp + 4 * m + 4) fo pc lp cl tk tc F tn tl)) 4 [some (.ref 0), some (.int (nI m)), some (.int (nI q - nI 1))] [] (gc_h n (ga_ws sp (fun p => tn (m - 1 - p)) μ p) (sp + 4 * p) fo pc lp cl tk tc F tn tl) 0 0 := by
  intro q
  induction q with
  | zero =>
    intro p hq
    obtain rfl : p = m := by omega
    exact gx_run 2 (And.intro (fun _ => gx_run 5 (And.intro ⟨_, rfl⟩ (gx_c1 (gx_le8 rfl) (k_R_append (show sp + 4 * p + 4 ≤ n by omega) (show n < 2147483648 by omega)) (And.intro rfl rfl)))) (fun c => absurd (by decide) c))
  | succ q ih =>
    intro p hq
    have e1 : nI (q + 1) - nI 1 = nI q := pk_sub (Nat.le_add_left 1 q)
    rw [e1]
    have h9 := ih (p + 1) (by omega)
    rw [show sp + 4 * (p + 1) = sp + 4 * p + 4 by omega] at h9
    have hv := k_G_takenValue (LL := LL) (xs := xs) (d := d + 2) (n := n) (μ := ga_ws sp (fun p => tn (m - 1 - p)) μ p) (sp := sp + 4 * p) (fo := fo) (pc := pc) (lp := lp) (cl := cl) (tk := tk) (tc := tc) (F := F) (tn := tn) (tl := tl) (i := q) (by omega) (by omega)
    rw [show tn q = tn (m - 1 - p) by congr 1; omega] at hv
    exact gx_run 2 (And.intro (fun c => absurd c (nI_pos (by omega))) (fun _ => gx_run 8 (And.intro ⟨_, rfl⟩ (gx_c1 (gx_le8 rfl) hv (And.intro ⟨_, rfl⟩ (gx_c1 (gx_le8 rfl) (k_R_append (show sp + 4 * p + 4 ≤ n by omega) (show n < 2147483648 by omega)) h9))))))
theorem k_G_pushArguments {m : Nat} (hs : sp + 4 * m + 4 ≤ n) (hn : n ≤ 1024) : gx_call LL xs (d + 4) z_G_pushArguments 0 0 [.ref 0, .int (nI m)] (gc_h n μ sp fo pc lp cl tk tc F tn tl) (fun r h => r = none ∧ h = (gc_h n (ga_wr (ga_ws sp (fun p => tn (m - 1 - p)) μ m) (sp + 4 * m) 4 (nI m)) (sp + 4 * m + 4) fo pc lp cl tk tc F tn tl)) :=
  gs_G_pushArguments _ _ (gx_run 4 (k_G_pushArguments_l hs hn m 0 (by omega)))
theorem k_G_setLocals_i {f m p : Nat} (hk : k < 12) (hw : ga_wf (F k)) (hp : p < (F k).2.2.1) (hfl : f + ga_len (F k) ≤ n) (hlb : ga_w μ (f + 4) = ga_lb (F k)) (hn : n ≤ 1024) (hμ : ∀ i, μ i < 256) (hm : 4 * m ≤ n) {Q : gx_Q}
    (hO : ∀ (w5 w6 : Option Value), gx_E LL xs (gx_call LL xs (d + 3)) cd_G_setLocals Q 4 [some (.ref 0), some (.ref (5 + 3 * k)), some (.int (nI m)), some (.int (nI (min m (ga_lc (F k).2.2.2.2 (p + 1))))), some (.int (nI (p + 1))), w5, w6] [] (gc_h n (ga_sl (F k) tn (f + ga_lb (F k)) μ (min m (ga_lc (F k).2.2.2.2 (p + 1)))) sp (some f) pc lp cl tk tc F tn tl) 0 0) :
    ∀ (q i : Nat) (w6 : Option Value), i + q = (F k).2.2.2.2 p →
    gx_E LL xs (gx_call LL xs (d + 3)) cd_G_setLocals Q 10 [some (.ref 0), some (.ref (5 + 3 * k)), some (.int (nI m)), some (.int (nI (min m (ga_lc (F k).2.2.2.2 p + i)))), some (.int (nI p)), some (.int (nI i)), w6] [] (gc_h n (ga_sl (F k) tn (f + ga_lb (F k)) μ (min m (ga_lc (F k).2.2.2.2 p + i))) sp (some f) pc lp cl tk tc F tn tl) 0 0 := by
  have hpw := hw.2.2.2 p hp
  have h6 := hw.2.2.1
  have hlc : ga_lc (F k).2.2.2.2 (p + 1) = ga_lc (F k).2.2.2.2 p + (F k).2.2.2.2 p := rfl
  intro q
  induction q with
  | zero =>
    intro i w6 hq
    have h9 := hO (some (.int (nI i))) w6
    rw [hlc, show (F k).2.2.2.2 p = i by omega, ← nI_add p 1] at h9
    refine gx_run 5 (And.intro ⟨_, gc_at_o hk⟩ (gx_c1 (gx_le8 rfl) (k_F_countOfPair hk (show p < 6 by omega)) (And.intro (fun _ => gx_run 2 h9) (fun c => absurd (nI_le (show (F k).2.2.2.2 p ≤ i by omega) (by omega)) c))))
  | succ q ih =>
    intro i w6 hq
    refine gx_run 5 (And.intro ⟨_, gc_at_o hk⟩ (gx_c1 (gx_le8 rfl) (k_F_countOfPair hk (show p < 6 by omega)) (And.intro (fun c => absurd c (nI_ge (show i < (F k).2.2.2.2 p by omega) (by omega))) (fun _ => ?_))))
    rcases Nat.lt_or_ge (ga_lc (F k).2.2.2.2 p + i) m with hlt | hge
    · rw [Nat.min_eq_right (by omega)]
      have hks : ga_lc (F k).2.2.2.2 p + i < ga_ls (F k) := by
        have := ga_lc_mono (ct := (F k).2.2.2.2) (show p + 1 ≤ (F k).2.2.1 by omega)
        unfold ga_ls
        omega
      obtain ⟨hpl, hin⟩ := ga_pc_in hw hks
      have hwk : ga_wk (F k) (ga_lc (F k).2.2.2.2 p + i) = (F k).2.2.2.1 p := ga_wo_at (show i < (F k).2.2.2.2 p by omega) (F k).2.2.1 0 (Nat.zero_le _) (by omega)
      have hlb2 : ga_w (ga_sl (F k) tn (f + ga_lb (F k)) μ (ga_lc (F k).2.2.2.2 p + i)) (f + 4) = ga_lb (F k) := by
        rw [← hlb]
        have := ga_lb_ge (f := F k)
        exact ga_w_cong fun j a b => ga_sl_low (by omega)
      have c1 := k_G_localsAt (LL := LL) (xs := xs) (d := d) (n := n) (μ := ga_sl (F k) tn (f + ga_lb (F k)) μ (ga_lc (F k).2.2.2.2 p + i)) (sp := sp) (fo := some f) (pc := pc) (lp := lp) (cl := cl) (tk := tk) (tc := tc) (F := F) (tn := tn) (tl := tl) (f := f) (by have := ga_lb_ge (f := F k); have := ga_len_ge hw; omega) (by omega) (ga_sl_lt hμ _)
      rw [hlb2] at c1
      have c2 := k_F_placeOfLocal (LL := LL) (xs := xs) (d := d + 1) (n := n) (μ := ga_sl (F k) tn (f + ga_lb (F k)) μ (ga_lc (F k).2.2.2.2 p + i)) (sp := sp) (fo := some f) (pc := pc) (lp := lp) (cl := cl) (tk := tk) (tc := tc) (F := F) (tn := tn) (tl := tl) hk hw (q := ga_lc (F k).2.2.2.2 p + i) (by omega)
      rw [hpl] at c2
      have c3 := k_F_widthOfPair (LL := LL) (xs := xs) (d := d + 2) (n := n) (μ := ga_sl (F k) tn (f + ga_lb (F k)) μ (ga_lc (F k).2.2.2.2 p + i)) (sp := sp) (fo := some f) (pc := pc) (lp := lp) (cl := cl) (tk := tk) (tc := tc) (F := F) (tn := tn) (tl := tl) hk (j := p) (by omega)
      have c4 := k_G_takenValue (LL := LL) (xs := xs) (d := d + 2) (n := n) (μ := ga_sl (F k) tn (f + ga_lb (F k)) μ (ga_lc (F k).2.2.2.2 p + i)) (sp := sp) (fo := some f) (pc := pc) (lp := lp) (cl := cl) (tk := tk) (tc := tc) (F := F) (tn := tn) (tl := tl) (i := ga_lc (F k).2.2.2.2 p + i) (by omega) (by omega)
      have c5 : gx_call LL xs (d + 3) z_R_set 0 0 [.ref 3, .int (nI (f + ga_lb (F k)) + nI (ga_pc (F k) (ga_lc (F k).2.2.2.2 p + i))), .int (nI ((F k).2.2.2.1 p)), .int (tn (ga_lc (F k).2.2.2.2 p + i))] (gc_h n (ga_sl (F k) tn (f + ga_lb (F k)) μ (ga_lc (F k).2.2.2.2 p + i)) sp (some f) pc lp cl tk tc F tn tl) (fun r h => r = none ∧ h = (gc_h n (ga_sl (F k) tn (f + ga_lb (F k)) μ (ga_lc (F k).2.2.2.2 p + (i + 1))) sp (some f) pc lp cl tk tc F tn tl)) := by
        rw [nI_add, ← Nat.add_assoc]
        have := k_R_set (LL := LL) (xs := xs) (d := d + 1) (n := n) (μ := ga_sl (F k) tn (f + ga_lb (F k)) μ (ga_lc (F k).2.2.2.2 p + i)) (sp := sp) (fo := some f) (pc := pc) (lp := lp) (cl := cl) (tk := tk) (tc := tc) (F := F) (tn := tn) (tl := tl) (a := f + ga_lb (F k) + ga_pc (F k) (ga_lc (F k).2.2.2.2 p + i)) (w := (F k).2.2.2.1 p) (v := tn (ga_lc (F k).2.2.2.2 p + i)) (by omega) (by omega)
        rw [← hwk] at this ⊢
        exact this
      have h9 := ih (i + 1) (some (.int (nI (f + ga_lb (F k)) + nI (ga_pc (F k) (ga_lc (F k).2.2.2.2 p + i))))) (by omega)
      rw [Nat.min_eq_right (show ga_lc (F k).2.2.2.2 p + (i + 1) ≤ m by omega)] at h9
      have h8 := h9
      rw [show nI (ga_lc (F k).2.2.2.2 p + (i + 1)) = nI (ga_lc (F k).2.2.2.2 p + i) + nI 1 by rw [nI_add, Nat.add_assoc], ← nI_add i 1] at h8
      refine gx_run 3 (And.intro (fun c => absurd c (nI_ge hlt (by omega))) (fun _ => ?_))
      refine gx_run 22 (And.intro ⟨_, rfl⟩ (gx_c1 (gx_le8 rfl) c1 (And.intro ⟨_, gc_at_o hk⟩ (gx_c1 (gx_le8 rfl) c2 ?_))))
      exact And.intro ⟨_, gc_at_o hk⟩ (gx_c1 (gx_le8 rfl) c3 (And.intro ⟨_, rfl⟩ (gx_c1 (gx_le8 rfl) c4 (And.intro ⟨_, rfl⟩ (gx_c1 (gx_le8 rfl) c5 h8)))))
    · rw [Nat.min_eq_left hge]
      have h9 := hO (some (.int (nI i))) w6
      rw [Nat.min_eq_left (show m ≤ ga_lc (F k).2.2.2.2 (p + 1) by omega), ← nI_add p 1] at h9
      exact gx_run 3 (And.intro (fun _ => gx_run 2 h9) (fun c => absurd (nI_le (Nat.le_refl m) (by omega)) c))
theorem k_G_setLocals_o {f m : Nat} (hk : k < 12) (hw : ga_wf (F k)) (hfl : f + ga_len (F k) ≤ n) (hlb : ga_w μ (f + 4) = ga_lb (F k)) (hn : n ≤ 1024) (hμ : ∀ i, μ i < 256) (hm : 4 * m ≤ n) :
    ∀ (q p : Nat) (w5 w6 : Option Value), p + q = (F k).2.2.1 → gx_E LL xs (gx_call LL xs (d + 3)) cd_G_setLocals (fun r h => r = none ∧ h = (gc_h n (ga_sl (F k) tn (f + ga_lb (F k)) μ (min m (ga_ls (F k)))) sp (some f) pc lp cl tk tc F tn tl)) 4 [some (.ref 0), some (.ref (5 + 3 * k)), some (.int (nI m)), some (.int (nI (min m (ga_lc (F k).2.2.2.2 p)))), some (.int (nI p)), w5, w6] [] (gc_h n (ga_sl (F k) tn (f + ga_lb (F k)) μ (min m (ga_lc (F k).2.2.2.2 p))) sp (some f) pc lp cl tk tc F tn tl) 0 0 := by
  have h6 := hw.2.2.1
  intro q
  induction q with
  | zero =>
    intro p w5 w6 hq
    refine gx_run 2 (gx_getf rfl (gc_at_o hk) rfl (gx_run 1 (And.intro (fun _ => gx_run 1 (And.intro rfl ?_)) (fun c => absurd (nI_le (show (F k).2.2.1 ≤ p by omega) (by omega)) c))))
    rw [show p = (F k).2.2.1 by omega]
    rfl
  | succ q ih =>
    intro p w5 w6 hq
    refine gx_run 2 (gx_getf rfl (gc_at_o hk) rfl (gx_run 1 (And.intro (fun c => absurd c (nI_ge (show p < (F k).2.2.1 by omega) (by omega))) (fun _ => gx_run 2 ?_))))
    exact k_G_setLocals_i hk hw (show p < (F k).2.2.1 by omega) hfl hlb hn hμ hm (fun w5 w6 => ih (p + 1) w5 w6 (by omega)) _ 0 w6 (Nat.zero_add _)
theorem k_G_setLocals {f m : Nat} (hk : k < 12) (hw : ga_wf (F k)) (hfl : f + ga_len (F k) ≤ n) (hlb : ga_w μ (f + 4) = ga_lb (F k)) (hn : n ≤ 1024) (hμ : ∀ i, μ i < 256) (hm : 4 * m ≤ n) : gx_call LL xs (d + 4) z_G_setLocals 0 0 [.ref 0, .ref (5 + 3 * k), .int (nI m)] (gc_h n μ sp (some f) pc lp cl tk tc F tn tl) (fun r h => r = none ∧ h = (gc_h n (ga_sl (F k) tn (f + ga_lb (F k)) μ (min m (ga_ls (F k)))) sp (some f) pc lp cl tk tc F tn tl)) := by
  have h9 := k_G_setLocals_o (LL := LL) (xs := xs) (d := d) (n := n) (μ := μ) (sp := sp) (pc := pc) (lp := lp) (cl := cl) (tk := tk) (tc := tc) (F := F) (tn := tn) (tl := tl) hk hw hfl hlb hn hμ hm (F k).2.2.1 0 none none (Nat.zero_add _)
  rw [show min m (ga_lc (F k).2.2.2.2 0) = 0 from Nat.min_eq_right (Nat.zero_le m)] at h9
  exact gs_G_setLocals _ _ _ (gx_run 4 h9)
end GCM
end
section
/-! Calls and tail calls. -/
section GCN
variable {LL : Nat} {xs : Nat → Int32} {d : Nat} {n : Nat} {μ : Nat → Nat} {sp : Nat} {fo : Option Nat} {pc lp : Int32} {cl : Nat → Int32} {tk : Nat → Nat} {tc : Nat} {F : Nat → ga_F} {tn : Nat → Int32} {tl : gx_H} {M : ga_M} {k : Nat}
theorem k_G_pushFrame_l {f m : Nat} {Q : gx_Q} (hk : k < 12) (hw : ga_wf (F k)) (hfl : f + ga_len (F k) ≤ n) (hn : n ≤ 1024) (hO : gx_E LL xs (gx_call LL xs (d + 4)) cd_G_pushFrame Q 68 [some (.ref 0), some (.ref (5 + 3 * k)), some (.int (nI m)), some (.int (nI (F k).2.2.1))] [] (gc_h n (ga_pr (F k) (f + 8) μ (F k).2.2.1) sp (some f) pc lp cl tk tc F tn tl) 0 0) :
    ∀ (q p : Nat), p + q = (F k).2.2.1 → gx_E LL xs (gx_call LL xs (d + 4)) cd_G_pushFrame Q 30 [some (.ref 0), some (.ref (5 + 3 * k)), some (.int (nI m)), some (.int (nI p))] [] (gc_h n (ga_pr (F k) (f + 8) μ p) sp (some f) pc lp cl tk tc F tn tl) 0 0 := by
  have h6 := hw.2.2.1
  have hlb := ga_lb_ge (f := F k)
  have hle := ga_len_ge hw
  intro q
  induction q with
  | zero =>
    intro p hq
    obtain rfl : p = (F k).2.2.1 := by omega
    exact gx_run 2 (gx_getf rfl (gc_at_o hk) rfl (gx_run 1 (And.intro (fun _ => hO) (fun c => absurd (nI_le (Nat.le_refl _) (by omega)) c))))
  | succ q ih =>
    intro p hq
    have h8 := ga_wf8 hw p (by omega)
    have h9 := ih (p + 1) (by omega)
    rw [← nI_add p 1] at h9
    have c1 : gx_call LL xs (d + 4) z_R_set 0 0 [.ref 3, .int (nI f + nI 8 + nI 2 * nI p), .int (nI 1), .int (nI ((F k).2.2.2.1 p))] (gc_h n (ga_pr (F k) (f + 8) μ p) sp (some f) pc lp cl tk tc F tn tl) (fun r h => r = none ∧ h = (gc_h n (va_up (ga_pr (F k) (f + 8) μ p) (f + 8 + 2 * p) ((F k).2.2.2.1 p)) sp (some f) pc lp cl tk tc F tn tl)) := by
      rw [nI_add, pk_mul, nI_add, ← ga_wr1 h8.1]
      exact k_R_set (by omega) (by omega)
    have c2 : gx_call LL xs (d + 4) z_R_set 0 0 [.ref 3, .int (nI f + nI 8 + nI 2 * nI p + nI 1), .int (nI 1), .int (nI ((F k).2.2.2.2 p))] (gc_h n (va_up (ga_pr (F k) (f + 8) μ p) (f + 8 + 2 * p) ((F k).2.2.2.1 p)) sp (some f) pc lp cl tk tc F tn tl) (fun r h => r = none ∧ h = (gc_h n (ga_pr (F k) (f + 8) μ (p + 1)) sp (some f) pc lp cl tk tc F tn tl)) := by
      rw [nI_add, pk_mul, nI_add, nI_add]
      show gx_call LL xs (d + 4) z_R_set 0 0 _ _ (fun r h => r = none ∧ h = (gc_h n (va_up (va_up (ga_pr (F k) (f + 8) μ p) (f + 8 + 2 * p) ((F k).2.2.2.1 p)) (f + 8 + 2 * p + 1) ((F k).2.2.2.2 p)) sp (some f) pc lp cl tk tc F tn tl))
      rw [← ga_wr1 h8.2]
      exact k_R_set (by omega) (by omega)
    refine gx_run 2 (gx_getf rfl (gc_at_o hk) rfl (gx_run 1 (And.intro (fun c => absurd c (nI_ge (show p < (F k).2.2.1 by omega) (by omega))) (fun _ => gx_run 34 ?_))))
    refine And.intro ⟨_, gc_at_o hk⟩ (gx_c1 (gx_le8 rfl) (k_F_widthOfPair hk (show p < 6 by omega)) (And.intro ⟨_, rfl⟩ (gx_c1 (gx_le8 rfl) c1 ?_)))
    exact And.intro ⟨_, gc_at_o hk⟩ (gx_c1 (gx_le8 rfl) (k_F_countOfPair hk (show p < 6 by omega)) (And.intro ⟨_, rfl⟩ (gx_c1 (gx_le8 rfl) c2 h9)))
theorem k_G_pushFrame {m : Nat} (hk : k < 12) (hw : ga_wf (F k)) (hh : (F k).1 = 192 ∨ (F k).1 = 193) (hfl : sp + ga_room (F k) m ≤ n) (hn : n ≤ 1024) (hμ : ∀ i, μ i < 256) (hm : 4 * m ≤ n) :
    gx_call LL xs (d + 5) z_G_pushFrame 0 0 [.ref 0, .ref (5 + 3 * k), .int (nI m)] (gc_h n μ sp fo pc lp cl tk tc F tn tl) (fun r h => r = none ∧ h = (gc_h n (ga_en (F k) tn m μ sp) (sp + ga_room (F k) m) (some sp) pc lp cl tk tc F tn tl)) := by
  have hrm : ga_len (F k) ≤ ga_room (F k) m := Nat.le_add_right _ _
  have hlb := ga_lb_ge (f := F k)
  have hle := ga_len_ge hw
  have c3 : gx_call LL xs (d + 4) z_R_set 0 0 [.ref 3, .int (nI sp + nI 4), .int (nI 4), .int (nI (ga_lb (F k)))] (gc_h n (ga_wr (ga_z μ sp (ga_len (F k))) sp 4 (nI (ga_len (F k)))) (sp + ga_len (F k)) (some sp) pc lp cl tk tc F tn tl) (fun r h => r = none ∧ h = (gc_h n (ga_wr (ga_wr (ga_z μ sp (ga_len (F k))) sp 4 (nI (ga_len (F k)))) (sp + 4) 4 (nI (ga_lb (F k)))) (sp + ga_len (F k)) (some sp) pc lp cl tk tc F tn tl)) := by
    rw [nI_add]
    exact k_R_set (by omega) (by omega)
  refine gs_G_pushFrame _ _ _ (gx_run 30 (And.intro ⟨_, rfl⟩ (gx_c1 (gx_le8 rfl) k_R_end (And.intro ⟨_, gc_at_o (fo := some sp) hk⟩ (gx_c1 (gx_le8 rfl) (k_F_frameLength (fo := some sp) hk hw) ?_)))))
  refine And.intro ⟨_, rfl⟩ (gx_c1 (gx_le8 rfl) (k_R_appendZeros (fo := some sp) (show sp + ga_len (F k) ≤ n by omega) (by omega)) ?_)
  refine And.intro ⟨_, gc_at_o hk⟩ (gx_c1 (gx_le8 rfl) (k_F_frameLength hk hw) (And.intro ⟨_, rfl⟩ (gx_c1 (gx_le8 rfl) (k_R_set (show sp + 4 ≤ n by omega) (by omega)) ?_)))
  refine And.intro ⟨_, gc_at_o hk⟩ (gx_c1 (gx_le8 rfl) (k_F_localsBegin hk hw.2.2.1) (And.intro ⟨_, rfl⟩ (gx_c1 (gx_le8 rfl) c3 ?_)))
  refine k_G_pushFrame_l (f := sp) (m := m) hk hw (by omega) hn ?_ (F k).2.2.1 0 (Nat.zero_add _)
  refine gx_run 3 (And.intro ⟨_, gc_at_o hk⟩ (gx_c1 (gx_le8 rfl) (k_F_takesPushed hk hw.1) ?_))
  by_cases h : (F k).1 = 192
  · rw [if_pos h]
    have hr : ga_room (F k) m = ga_len (F k) + 4 * (m + 1) := by unfold ga_room; rw [if_pos h]
    have c4 := k_G_pushArguments (LL := LL) (xs := xs) (d := d) (n := n) (μ := ga_hd (F k) μ sp) (sp := sp + ga_len (F k)) (fo := some sp) (pc := pc) (lp := lp) (cl := cl) (tk := tk) (tc := tc) (F := F) (tn := tn) (tl := tl) (m := m) (by omega) hn
    have e : ga_en (F k) tn m μ sp = ga_wr (ga_ws (sp + ga_len (F k)) (fun p => tn (m - 1 - p)) (ga_hd (F k) μ sp) m) (sp + ga_len (F k) + 4 * m) 4 (nI m) := if_pos h
    rw [e, hr, show sp + (ga_len (F k) + 4 * (m + 1)) = sp + ga_len (F k) + 4 * m + 4 by omega]
    exact And.intro (fun c => absurd c (by decide)) (fun _ => gx_run 5 (And.intro ⟨_, rfl⟩ (gx_c1 (gx_le8 rfl) c4 (And.intro rfl rfl))))
  · rw [if_neg h]
    have hr : ga_room (F k) m = ga_len (F k) := by unfold ga_room; rw [if_neg h]; rfl
    have c4 := k_G_setLocals (LL := LL) (xs := xs) (d := d) (n := n) (μ := ga_hd (F k) μ sp) (sp := sp + ga_len (F k)) (pc := pc) (lp := lp) (cl := cl) (tk := tk) (tc := tc) (F := F) (tn := tn) (tl := tl) (f := sp) (m := m) hk hw (by omega) (ga_hd_w hw).2 hn (ga_hd_lt hw hμ) hm
    have e : ga_en (F k) tn m μ sp = ga_sl (F k) tn (sp + ga_lb (F k)) (ga_hd (F k) μ sp) (min m (ga_ls (F k))) := if_neg h
    rw [e, hr]
    exact And.intro (fun _ => gx_run 5 (And.intro ⟨_, rfl⟩ (gx_c1 (gx_le8 rfl) c4 (And.intro rfl rfl)))) (fun c => absurd rfl c)
/-- the values from the last on -/
def ga_va (μ : Nat → Nat) (sp : Nat) : Nat → Int32 := fun i => ga_rd μ (sp - 4 * (i + 1)) 4
theorem k_G_givenBy_l {acc m : Nat} (hm : 4 * m ≤ sp) (hs : sp ≤ n) (hn : n ≤ 1024) (hμ : ∀ i, μ i < 256) (ha : acc = 1 ∨ acc = 2 ∨ acc = 3) : ∀ (q i : Nat) (w5 : Option Value), i + q = m →
    gx_E LL xs (gx_call LL xs (d + 3)) cd_G_givenBy (fun r h => r = some (.int (ga_gb acc (ga_va μ sp) m)) ∧ h = (gc_h n μ sp fo pc lp cl tk tc F tn tl)) 4 [some (.ref 0), some (.int (nI acc)), some (.int (nI m)), some (.int (ga_gb acc (ga_va μ sp) i)), some (.int (nI i)), w5] [] (gc_h n μ sp fo pc lp cl tk tc F tn tl) 0 0 := by
  intro q
  induction q with
  | zero =>
    intro i w5 hq
    obtain rfl : i = m := by omega
    exact gx_run 3 (And.intro (fun _ => gx_run 2 (And.intro rfl rfl)) (fun c => absurd (nI_le (Nat.le_refl i) (by omega)) c))
  | succ q ih =>
    intro i w5 hq
    have h9 := ih (i + 1) (some (.int (ga_va μ sp i))) (by omega)
    rw [← nI_add i 1] at h9
    refine gx_run 3 (And.intro (fun c => absurd c (nI_ge (show i < m by omega) (by omega))) (fun _ => gx_run 6 (And.intro ⟨_, rfl⟩ (gx_c1 (gx_le8 rfl) (k_G_valueFromLast (j := i) (by omega) hs (by omega) hμ) ?_))))
    refine And.intro (fun c => ?_) (And.intro (fun c => ?_) (And.intro (fun c => ?_) trivial))
    · obtain rfl : acc = 3 := by
        have c0 : ¬ nI acc = nI 1 := c 0 (by decide)
        have c1 : ¬ nI acc = nI 2 := c 1 (by decide)
        rcases ha with rfl | rfl | rfl
        · exact absurd rfl c0
        · exact absurd rfl c1
        · rfl
      have e : ga_gb 3 (ga_va μ sp) (i + 1) = ga_gb 3 (ga_va μ sp) i + (if 0 < ga_va μ sp i then nI 1 else nI 0) := rfl
      rw [e] at h9
      refine gx_run 3 (And.intro (fun c => ?_) (fun c => ?_))
      · have c' : ¬ 0 < ga_va μ sp i := Int32.not_lt.mpr c
        rw [if_neg c'] at h9
        exact gx_run 5 h9
      · have c' : 0 < ga_va μ sp i := Int32.not_le.mp c
        rw [if_pos c'] at h9
        exact gx_run 6 h9
    · obtain rfl : acc = 1 := (nI_eq (by omega) (by decide)).mp (show nI acc = nI 1 from c)
      exact gx_run 7 h9
    · obtain rfl : acc = 2 := (nI_eq (by omega) (by decide)).mp (show nI acc = nI 2 from c)
      have e : ga_gb 2 (ga_va μ sp) (i + 1) = if i = 0 then ga_va μ sp i else ga_gb 2 (ga_va μ sp) i - ga_va μ sp i := rfl
      rw [e] at h9
      by_cases hi : i = 0
      · rw [if_pos hi] at h9
        exact gx_run 2 (And.intro (fun c => absurd (by rw [hi]; rfl) c) (fun _ => gx_run 6 h9))
      · rw [if_neg hi] at h9
        exact gx_run 2 (And.intro (fun _ => gx_run 7 h9) (fun c => absurd c (nI_ne0 (by omega) (by omega))))
theorem k_G_givenBy {acc m : Nat} (hm : 4 * m ≤ sp) (hs : sp ≤ n) (hn : n ≤ 1024) (hμ : ∀ i, μ i < 256) (ha : acc = 1 ∨ acc = 2 ∨ acc = 3) : gx_call LL xs (d + 4) z_G_givenBy 0 0 [.ref 0, .int (nI acc), .int (nI m)] (gc_h n μ sp fo pc lp cl tk tc F tn tl) (fun r h => r = some (.int (ga_gb acc (ga_va μ sp) m)) ∧ h = (gc_h n μ sp fo pc lp cl tk tc F tn tl)) :=
  gs_G_givenBy _ _ _ (gx_run 4 (k_G_givenBy_l hm hs hn hμ ha m 0 none (Nat.zero_add m)))
theorem k_reaches_t {q : Nat} (hq : q ≤ n) (hn : n ≤ 1024) : gx_call LL xs (d + 1) z_R_reaches 0 0 [.ref 3, .int (nI q)] (gc_h n μ sp fo pc lp cl tk tc F tn tl) (fun r h => r = some (.int (nI 1)) ∧ h = (gc_h n μ sp fo pc lp cl tk tc F tn tl)) := by
  have := k_R_reaches (LL := LL) (xs := xs) (d := d) (n := n) (μ := μ) (sp := sp) (fo := fo) (pc := pc) (lp := lp) (cl := cl) (tk := tk) (tc := tc) (F := F) (tn := tn) (tl := tl) (nI q)
  rw [if_neg (nI_nlt hq (by omega))] at this
  exact this
theorem k_reaches_f {q : Nat} (hq : n < q) (hn : q < 2147483648) : gx_call LL xs (d + 1) z_R_reaches 0 0 [.ref 3, .int (nI q)] (gc_h n μ sp fo pc lp cl tk tc F tn tl) (fun r h => r = some (.int (nI 0)) ∧ h = (gc_h n μ sp fo pc lp cl tk tc F tn tl)) := by
  have := k_R_reaches (LL := LL) (xs := xs) (d := d) (n := n) (μ := μ) (sp := sp) (fo := fo) (pc := pc) (lp := lp) (cl := cl) (tk := tk) (tc := tc) (F := F) (tn := tn) (tl := tl) (nI q)
  rw [if_pos (nI_lt hq hn)] at this
  exact this
theorem k_G_callAcc_w {m : Nat} (way addr : Int32) (hn : n ≤ 1024) (hμ : ∀ i, μ i < 256) (hf : ∀ f, fo = some f → f + 8 ≤ n ∧ ga_w μ (f + 4) ≤ ga_w μ f) (hcg : ga_cg μ way addr fo = false) {o : Nat} : gx_call LL xs (d + 6) z_G_callAccelerated 0 0 [.ref 0, .ref o, .int (nI m), .int way, .int addr] (gc_h n μ sp fo pc lp cl tk tc F tn tl) (fun r h => r = some (.int (-(nI 13))) ∧ h = (gc_h n μ sp fo pc lp cl tk tc F tn tl)) := by
  have c4 := k_G_canGo (LL := LL) (xs := xs) (d := d) (n := n) (μ := μ) (sp := sp) (fo := fo) (pc := pc) (lp := lp) (cl := cl) (tk := tk) (tc := tc) (F := F) (tn := tn) (tl := tl) way addr (fp2 := fo) (by omega) hμ hf
  rw [hcg] at c4
  exact gs_G_callAccelerated _ _ _ _ _ (gx_run 7 (And.intro ⟨_, rfl⟩ (gx_c1 (gx_le8 rfl) c4 (And.intro (fun c => absurd rfl c) (fun _ => gx_run 2 (And.intro rfl rfl))))))
theorem k_G_callAcc_f {m : Nat} (addr : Int32) (hn : n ≤ 1024) (hs : sp ≤ n) (hμ : ∀ i, μ i < 256) (hf : ∀ f, fo = some f → f + 8 ≤ n ∧ ga_w μ (f + 4) ≤ ga_w μ f) (hcg : ga_cg μ (nI 3) addr fo = true) (hm : 4 * m ≤ sp) (hfull : n < sp - 4 * m + 4) {o : Nat} : gx_call LL xs (d + 6) z_G_callAccelerated 0 0 [.ref 0, .ref o, .int (nI m), .int (nI 3), .int addr] (gc_h n μ sp fo pc lp cl tk tc F tn tl) (fun r h => r = some (.int (-(nI 15))) ∧ h = (gc_h n μ sp fo pc lp cl tk tc F tn tl)) := by
  have c4 := k_G_canGo (LL := LL) (xs := xs) (d := d) (n := n) (μ := μ) (sp := sp) (fo := fo) (pc := pc) (lp := lp) (cl := cl) (tk := tk) (tc := tc) (F := F) (tn := tn) (tl := tl) (nI 3) addr (fp2 := fo) (by omega) hμ hf
  rw [hcg] at c4
  have c5 := k_reaches_f (LL := LL) (xs := xs) (d := d + 4) (n := n) (μ := μ) (sp := sp) (fo := fo) (pc := pc) (lp := lp) (cl := cl) (tk := tk) (tc := tc) (F := F) (tn := tn) (tl := tl) hfull (by omega)
  rw [← nI_add, ← pk_sub hm, ← pk_mul] at c5
  refine gs_G_callAccelerated _ _ _ _ _ (gx_run 7 (And.intro ⟨_, rfl⟩ (gx_c1 (gx_le8 rfl) c4 (And.intro (fun _ => ?_) (fun c => absurd c (by decide))))))
  refine gx_run 11 (And.intro ⟨_, rfl⟩ (gx_c1 (gx_le8 rfl) k_R_end (And.intro (fun c => absurd rfl c) (fun _ => ?_))))
  exact gx_run 7 (And.intro ⟨_, rfl⟩ (gx_c1 (gx_le8 rfl) c5 (And.intro (fun c => absurd rfl c) (fun _ => gx_run 2 (And.intro rfl rfl)))))
theorem k_G_callAcc {m : Nat} (way addr : Int32) (hk : k < 12) (ha : (F k).2.1 = 1 ∨ (F k).2.1 = 2 ∨ (F k).2.1 = 3) (hn : n ≤ 1024) (hs : sp ≤ n) (hμ : ∀ i, μ i < 256) (hf : ∀ f, fo = some f → f + 8 ≤ n ∧ ga_w μ (f + 4) ≤ ga_w μ f ∧ f + ga_w μ f ≤ n) (hcg : ga_cg μ way addr fo = true) (hm : 4 * m ≤ sp) (hfull : way = nI 3 → sp - 4 * m + 4 ≤ n) :
    gx_call LL xs (d + 6) z_G_callAccelerated 0 0 [.ref 0, .ref (5 + 3 * k), .int (nI m), .int way, .int addr] (gc_h n μ sp fo pc lp cl tk tc F tn tl) (fun r h => r = some (.int (nI 1)) ∧ h = (gc_h n (ga_g1 μ (sp - 4 * m) fo way addr (ga_gb (F k).2.1 (ga_va μ sp) m)) (ga_g2 (sp - 4 * m) way) fo pc lp (ga_g3 cl way addr (ga_gb (F k).2.1 (ga_va μ sp) m)) tk tc F tn tl)) := by
  have c4 := k_G_canGo (LL := LL) (xs := xs) (d := d) (n := n) (μ := μ) (sp := sp) (fo := fo) (pc := pc) (lp := lp) (cl := cl) (tk := tk) (tc := tc) (F := F) (tn := tn) (tl := tl) way addr (fp2 := fo) (by omega) hμ (fun f h => ⟨(hf f h).1, (hf f h).2.1⟩)
  rw [hcg] at c4
  have e1 : nI sp - nI 4 * nI m = nI (sp - 4 * m) := by rw [pk_mul, pk_sub hm]
  have c6 : gx_call LL xs (d + 5) z_R_cutTo 0 0 [.ref 3, .int (nI sp - nI 4 * nI m)] (gc_h n μ sp fo pc lp cl tk tc F tn tl) (fun r h => r = none ∧ h = (gc_h n μ (sp - 4 * m) fo pc lp cl tk tc F tn tl)) := by
    rw [e1]; exact k_R_cutTo (by omega) (by omega)
  have c7 := k_G_send (LL := LL) (xs := xs) (d := d + 1) (n := n) (μ := μ) (sp := sp - 4 * m) (fo := fo) (pc := pc) (lp := lp) (cl := cl) (tk := tk) (tc := tc) (F := F) (tn := tn) (tl := tl) (ga_gb (F k).2.1 (ga_va μ sp) m) way addr hn (by omega) hμ (fun f h => ⟨(hf f h).1, (hf f h).2.2⟩) hcg hfull
  have rest : gx_E LL xs (gx_call LL xs (d + 5)) cd_G_callAccelerated (fun r h => r = some (.int (nI 1)) ∧ h = (gc_h n (ga_g1 μ (sp - 4 * m) fo way addr (ga_gb (F k).2.1 (ga_va μ sp) m)) (ga_g2 (sp - 4 * m) way) fo pc lp (ga_g3 cl way addr (ga_gb (F k).2.1 (ga_va μ sp) m)) tk tc F tn tl)) 29 [some (.ref 0), some (.ref (5 + 3 * k)), some (.int (nI m)), some (.int way), some (.int addr), some (.int (nI sp - nI 4 * nI m)), none] [] (gc_h n μ sp fo pc lp cl tk tc F tn tl) 0 0 := by
    refine gx_run 2 (gx_getf rfl (gc_at_o hk) rfl (gx_run 14 (And.intro ⟨_, rfl⟩ (gx_c1 (gx_le8 rfl) (k_G_givenBy hm hs hn hμ ha) (And.intro ⟨_, rfl⟩ (gx_c1 (gx_le8 rfl) c6 (And.intro ⟨_, rfl⟩ (gx_c1 (gx_le8 rfl) c7 (And.intro rfl rfl)))))))))
  refine gs_G_callAccelerated _ _ _ _ _ (gx_run 7 (And.intro ⟨_, rfl⟩ (gx_c1 (gx_le8 rfl) c4 (And.intro (fun _ => ?_) (fun c => absurd c (by decide))))))
  refine gx_run 11 (And.intro ⟨_, rfl⟩ (gx_c1 (gx_le8 rfl) k_R_end (And.intro (fun c => rest) (fun c => ?_))))
  have c5 := k_reaches_t (LL := LL) (xs := xs) (d := d + 4) (n := n) (μ := μ) (sp := sp) (fo := fo) (pc := pc) (lp := lp) (cl := cl) (tk := tk) (tc := tc) (F := F) (tn := tn) (tl := tl) (hfull c) hn
  rw [← nI_add, ← e1] at c5
  exact gx_run 7 (And.intro ⟨_, rfl⟩ (gx_c1 (gx_le8 rfl) c5 (And.intro (fun _ => rest) (fun c => absurd c (by decide)))))
end GCN
end
section
/-! call and tail. -/
theorem ga_en_cong {f : ga_F} {A B : Nat → Int32} {m : Nat} {μ : Nat → Nat} {sp : Nat} (h : ∀ j, j < m → A j = B j) : ga_en f A m μ sp = ga_en f B m μ sp := by
  unfold ga_en
  split
  · rw [ga_ws_cong (V := fun p => A (m - 1 - p)) (W := fun p => B (m - 1 - p)) fun j hj => h _ (by omega)]
  · exact ga_sl_cong fun j hj => h j (by omega)
theorem ga_tv_va {μ : Nat → Nat} {sp m : Nat} {tn : Nat → Int32} : ∀ j, j < m → ga_tv μ sp m tn j = ga_va μ sp j := fun j hj => if_pos hj
section GCO
variable {LL : Nat} {xs : Nat → Int32} {d : Nat} {n : Nat} {μ : Nat → Nat} {sp : Nat} {fo : Option Nat} {pc lp : Int32} {cl : Nat → Int32} {tk : Nat → Nat} {tc : Nat} {F : Nat → ga_F} {tn : Nat → Int32} {tl : gx_H} {M : ga_M} {k : Nat}
theorem k_G_call_b (x y way addr p : Int32) (hx : (x < 0 ∨ nI 12 ≤ x) ∨ y < 0 ∨ way < 0 ∨ nI 3 < way) : gx_call LL xs (d + 2) z_G_call 0 0 [.ref 0, .int x, .int y, .int way, .int addr, .int p] (gc_h n μ sp fo pc lp cl tk tc F tn tl) (fun r h => r = some (.int (-(nI 1))) ∧ h = (gc_h n μ sp fo pc lp cl tk tc F tn tl)) := by
  rcases pk_ix x (n := 12) (by decide) with c | c | ⟨k, hk, rfl⟩
  · exact gs_G_call _ _ _ _ _ _ (gx_run 6 (And.intro ⟨_, rfl⟩ (gx_c1 (gx_le8 rfl) (k_G_functionOf_n (Or.inl c)) (gx_run 2 (And.intro rfl rfl)))))
  · exact gs_G_call _ _ _ _ _ _ (gx_run 6 (And.intro ⟨_, rfl⟩ (gx_c1 (gx_le8 rfl) (k_G_functionOf_n (Or.inr c)) (gx_run 2 (And.intro rfl rfl)))))
  · refine gs_G_call _ _ _ _ _ _ (gx_run 8 (And.intro ⟨_, rfl⟩ (gx_c1 (gx_le8 rfl) (k_G_functionOf hk) (And.intro (fun _ => gx_run 2 (And.intro rfl rfl)) (fun c1 => gx_run 3 (gx_c1 (gx_le8 rfl) (k_G_isWay way) ?_))))))
    by_cases hw : way < 0 ∨ nI 3 < way
    · rw [if_pos hw]
      exact And.intro (fun c => absurd rfl c) (fun _ => gx_run 2 (And.intro rfl rfl))
    · rcases hx with (h | h) | h | h
      · exact absurd h (nI_pos (by omega))
      · exact absurd h (nI_ge hk (by omega))
      · exact absurd h c1
      · exact absurd h hw
/-- up to the counts -/
theorem k_G_call_p {m : Nat} {Q : gx_Q} (way addr p : Int32) (hk : k < 12) (hm : m < 2147483648) (hw : ¬ (way < 0 ∨ nI 3 < way)) (hO : gx_E LL xs (gx_call LL xs (d + 1)) cd_G_call Q 13 [some (.ref 0), some (.int (nI k)), some (.int (nI m)), some (.int way), some (.int addr), some (.int p), some (.ref (5 + 3 * k)), none] [] (gc_h n μ sp fo pc lp cl tk tc F tn tl) 0 0) :
    gx_call LL xs (d + 2) z_G_call 0 0 [.ref 0, .int (nI k), .int (nI m), .int way, .int addr, .int p] (gc_h n μ sp fo pc lp cl tk tc F tn tl) Q := by
  refine gs_G_call _ _ _ _ _ _ (gx_run 8 (And.intro ⟨_, rfl⟩ (gx_c1 (gx_le8 rfl) (k_G_functionOf hk) (And.intro (fun c => absurd c (nI_pos (by omega))) (fun c1 => gx_run 3 (gx_c1 (gx_le8 rfl) (k_G_isWay way) ?_))))))
  rw [if_neg hw]
  exact And.intro (fun _ => hO) (fun c => absurd c (by decide))
theorem k_G_call_n {m : Nat} (way addr p : Int32) (hk : k < 12) (hm : m < 2147483648) (h1 : 0 < m) (hw : ¬ (way < 0 ∨ nI 3 < way)) : gx_call LL xs (d + 2) z_G_call 0 0 [.ref 0, .int (nI k), .int (nI m), .int way, .int addr, .int p] (gc_h n μ sp none pc lp cl tk tc F tn tl) (fun r h => r = some (.int (-(nI 16))) ∧ h = (gc_h n μ sp none pc lp cl tk tc F tn tl)) :=
  k_G_call_p way addr p hk hm hw (gx_run 2 (And.intro (fun c => absurd c (nI_nle h1 (by omega))) (fun _ => gx_run 4 (And.intro (fun c => absurd rfl c) (fun _ => gx_run 2 (And.intro rfl rfl))))))
/-- up to the function's kind -/
theorem k_G_call_q {m : Nat} {Q : gx_Q} (way addr p : Int32) (hmk : ga_mk μ sp M) (htk : ga_tk tk M) (hs : sp ≤ n) (hn : n ≤ 1024) (hμ : ∀ i, μ i < 256) (hk : k < 12) (hm : m < 2147483648) (hw : ¬ (way < 0 ∨ nI 3 < way)) (hfr : m = 0 ∨ ga_top M ≠ none)
    (hO : gx_E LL xs (gx_call LL xs (d + 6)) cd_G_call Q 24 [some (.ref 0), some (.int (nI k)), some (.int (nI m)), some (.int way), some (.int addr), some (.int p), some (.ref (5 + 3 * k)), none] [.int (nI (ga_vc μ sp M)), .int (nI m)] (gc_h n μ sp (ga_top M) pc lp cl tk (ga_tc M) F tn tl) 0 0) :
    gx_call LL xs (d + 7) z_G_call 0 0 [.ref 0, .int (nI k), .int (nI m), .int way, .int addr, .int p] (gc_h n μ sp (ga_top M) pc lp cl tk (ga_tc M) F tn tl) Q := by
  have hvc := k_G_valueCount (LL := LL) (xs := xs) (d := d + 1) (n := n) (pc := pc) (lp := lp) (cl := cl) (F := F) (tn := tn) (tl := tl) hmk htk hs hn hμ
  have rest : gx_E LL xs (gx_call LL xs (d + 6)) cd_G_call Q 21 [some (.ref 0), some (.int (nI k)), some (.int (nI m)), some (.int way), some (.int addr), some (.int p), some (.ref (5 + 3 * k)), none] [] (gc_h n μ sp (ga_top M) pc lp cl tk (ga_tc M) F tn tl) 0 0 :=
    gx_run 3 (And.intro ⟨_, rfl⟩ (gx_c1 (gx_le8 rfl) hvc hO))
  refine k_G_call_p (d := d + 5) way addr p hk hm hw ?_
  rcases hfr with rfl | hfr
  · exact gx_run 2 (And.intro (fun _ => rest) (fun c => absurd (by decide) c))
  · cases hf : ga_top M with
    | none => exact absurd hf hfr
    | some f =>
      have hlt := ga_top_lt hmk hf
      rw [hf] at rest
      exact gx_run 2 (And.intro (fun _ => rest) (fun _ => gx_run 4 (And.intro (fun _ => rest) (fun c => absurd c (ga_fp_none (by omega))))))
theorem k_G_call_u {m : Nat} (way addr p : Int32) (hmk : ga_mk μ sp M) (htk : ga_tk tk M) (hs : sp ≤ n) (hn : n ≤ 1024) (hμ : ∀ i, μ i < 256) (hk : k < 12) (hm : m < 2147483648) (hw : ¬ (way < 0 ∨ nI 3 < way)) (hfr : m = 0 ∨ ga_top M ≠ none) (hu : ga_vc μ sp M < m) :
    gx_call LL xs (d + 7) z_G_call 0 0 [.ref 0, .int (nI k), .int (nI m), .int way, .int addr, .int p] (gc_h n μ sp (ga_top M) pc lp cl tk (ga_tc M) F tn tl) (fun r h => r = some (.int (-(nI 12))) ∧ h = (gc_h n μ sp (ga_top M) pc lp cl tk (ga_tc M) F tn tl)) :=
  k_G_call_q way addr p hmk htk hs hn hμ hk hm hw hfr (gx_run 1 (And.intro (fun c => absurd c (nI_ge hu hm)) (fun _ => gx_run 2 (And.intro rfl rfl))))
theorem k_G_call_a {m : Nat} (way addr p : Int32) (hmk : ga_mk μ sp M) (htk : ga_tk tk M) (hs : sp ≤ n) (hn : n ≤ 1024) (hμ : ∀ i, μ i < 256) (hk : k < 12) (hw : ¬ (way < 0 ∨ nI 3 < way)) (hfr : m = 0 ∨ ga_top M ≠ none) (hu : m ≤ ga_vc μ sp M) (ha : (F k).2.1 = 1 ∨ (F k).2.1 = 2 ∨ (F k).2.1 = 3) {r0 : Int32} {h0 : gx_H}
    (hc : gx_call LL xs (d + 6) z_G_callAccelerated 0 0 [.ref 0, .ref (5 + 3 * k), .int (nI m), .int way, .int addr] (gc_h n μ sp (ga_top M) pc lp cl tk (ga_tc M) F tn tl) (fun r h => r = some (.int r0) ∧ h = h0)) :
    gx_call LL xs (d + 7) z_G_call 0 0 [.ref 0, .int (nI k), .int (nI m), .int way, .int addr, .int p] (gc_h n μ sp (ga_top M) pc lp cl tk (ga_tc M) F tn tl) (fun r h => r = some (.int r0) ∧ h = h0) := by
  have hvl := ga_vc_le hmk
  have c1 := k_F_isAccelerated (LL := LL) (xs := xs) (d := d + 5) (n := n) (μ := μ) (sp := sp) (fo := ga_top M) (pc := pc) (lp := lp) (cl := cl) (tk := tk) (tc := ga_tc M) (F := F) (tn := tn) (tl := tl) hk (by omega)
  rw [if_neg (by omega)] at c1
  refine k_G_call_q way addr p hmk htk hs hn hμ hk (by omega) hw hfr (gx_run 1 (And.intro (fun _ => ?_) (fun c => absurd (nI_le hu (by omega)) c)))
  exact gx_run 3 (And.intro ⟨_, gc_at_o hk⟩ (gx_c1 (gx_le8 rfl) c1 (And.intro (fun c => absurd c (by decide)) (fun _ => gx_run 7 (And.intro ⟨_, rfl⟩ (gx_c1 (gx_le8 rfl) hc (And.intro rfl rfl)))))))
theorem k_G_call_h {m : Nat} (way addr p : Int32) (hmk : ga_mk μ sp M) (htk : ga_tk tk M) (hs : sp ≤ n) (hn : n ≤ 1024) (hμ : ∀ i, μ i < 256) (hk : k < 12) (hwf : ga_wf (F k)) (hw : ¬ (way < 0 ∨ nI 3 < way)) (hfr : m = 0 ∨ ga_top M ≠ none) (hu : m ≤ ga_vc μ sp M) (ha : (F k).2.1 = 0) (hh : ¬ ((F k).1 = 192 ∨ (F k).1 = 193)) :
    gx_call LL xs (d + 7) z_G_call 0 0 [.ref 0, .int (nI k), .int (nI m), .int way, .int addr, .int p] (gc_h n μ sp (ga_top M) pc lp cl tk (ga_tc M) F tn tl) (fun r h => r = some (.int (-(nI 11))) ∧ h = (gc_h n μ sp (ga_top M) pc lp cl tk (ga_tc M) F tn tl)) := by
  have hvl := ga_vc_le hmk
  have c1 := k_F_isAccelerated (LL := LL) (xs := xs) (d := d + 5) (n := n) (μ := μ) (sp := sp) (fo := ga_top M) (pc := pc) (lp := lp) (cl := cl) (tk := tk) (tc := ga_tc M) (F := F) (tn := tn) (tl := tl) hk (by omega)
  rw [if_pos ha] at c1
  have c2 := k_F_hasFrameHead (LL := LL) (xs := xs) (d := d + 5) (n := n) (μ := μ) (sp := sp) (fo := ga_top M) (pc := pc) (lp := lp) (cl := cl) (tk := tk) (tc := ga_tc M) (F := F) (tn := tn) (tl := tl) hk hwf.1
  rw [if_neg hh] at c2
  refine k_G_call_q way addr p hmk htk hs hn hμ hk (by omega) hw hfr (gx_run 1 (And.intro (fun _ => ?_) (fun c => absurd (nI_le hu (by omega)) c)))
  refine gx_run 3 (And.intro ⟨_, gc_at_o hk⟩ (gx_c1 (gx_le8 rfl) c1 (And.intro (fun _ => ?_) (fun c => absurd rfl c))))
  exact gx_run 3 (And.intro ⟨_, gc_at_o hk⟩ (gx_c1 (gx_le8 rfl) c2 (And.intro (fun c => absurd rfl c) (fun _ => gx_run 2 (And.intro rfl rfl)))))
/-- up to the room -/
theorem k_G_call_r {m : Nat} {Q : gx_Q} {r0 : Int32} (way addr p : Int32) (hmk : ga_mk μ sp M) (htk : ga_tk tk M) (hs : sp ≤ n) (hn : n ≤ 1024) (hμ : ∀ i, μ i < 256) (hk : k < 12) (hwf : ga_wf (F k)) (hw : ¬ (way < 0 ∨ nI 3 < way)) (hfr : m = 0 ∨ ga_top M ≠ none) (hu : m ≤ ga_vc μ sp M) (ha : (F k).2.1 = 0) (hh : (F k).1 = 192 ∨ (F k).1 = 193)
    (hrr : gx_call LL xs (d + 6) z_R_reaches 0 0 [.ref 3, .int (nI (sp - 4 * m + 16 + ga_room (F k) m))] (gc_h n μ sp (ga_top M) pc lp cl tk (ga_tc M) F tn tl) (fun r h => r = some (.int r0) ∧ h = (gc_h n μ sp (ga_top M) pc lp cl tk (ga_tc M) F tn tl)))
    (hO : gx_E LL xs (gx_call LL xs (d + 6)) cd_G_call Q 60 [some (.ref 0), some (.int (nI k)), some (.int (nI m)), some (.int way), some (.int addr), some (.int p), some (.ref (5 + 3 * k)), some (.int (nI sp - nI 4 * nI m + nI 16))] [.int r0] (gc_h n μ sp (ga_top M) pc lp cl tk (ga_tc M) F tn tl) 0 0) :
    gx_call LL xs (d + 7) z_G_call 0 0 [.ref 0, .int (nI k), .int (nI m), .int way, .int addr, .int p] (gc_h n μ sp (ga_top M) pc lp cl tk (ga_tc M) F tn tl) Q := by
  have hvl := ga_vc_le hmk
  have c1 := k_F_isAccelerated (LL := LL) (xs := xs) (d := d + 5) (n := n) (μ := μ) (sp := sp) (fo := ga_top M) (pc := pc) (lp := lp) (cl := cl) (tk := tk) (tc := ga_tc M) (F := F) (tn := tn) (tl := tl) hk (by omega)
  rw [if_pos ha] at c1
  have c2 := k_F_hasFrameHead (LL := LL) (xs := xs) (d := d + 5) (n := n) (μ := μ) (sp := sp) (fo := ga_top M) (pc := pc) (lp := lp) (cl := cl) (tk := tk) (tc := ga_tc M) (F := F) (tn := tn) (tl := tl) hk hwf.1
  rw [if_pos hh] at c2
  rw [← nI_add, ← nI_add, ← pk_sub (show 4 * m ≤ sp by omega), ← pk_mul] at hrr
  refine k_G_call_q way addr p hmk htk hs hn hμ hk (by omega) hw hfr (gx_run 1 (And.intro (fun _ => ?_) (fun c => absurd (nI_le hu (by omega)) c)))
  refine gx_run 3 (And.intro ⟨_, gc_at_o hk⟩ (gx_c1 (gx_le8 rfl) c1 (And.intro (fun _ => ?_) (fun c => absurd rfl c))))
  refine gx_run 3 (And.intro ⟨_, gc_at_o hk⟩ (gx_c1 (gx_le8 rfl) c2 (And.intro (fun _ => ?_) (fun c => absurd c (by decide)))))
  exact gx_run 18 (And.intro ⟨_, rfl⟩ (gx_c1 (gx_le8 rfl) k_R_end (And.intro ⟨_, gc_at_o hk⟩ (gx_c1 (gx_le8 rfl) (k_F_bytesWith hk hwf) (And.intro ⟨_, rfl⟩ (gx_c1 (gx_le8 rfl) hrr hO))))))
theorem ga_room_le {f : ga_F} (hw : ga_wf f) {m : Nat} : ga_room f m ≤ 6300 + 4 * (m + 1) := by
  have := ga_len_le hw
  unfold ga_room
  split <;> omega
theorem k_G_call_f {m : Nat} (way addr p : Int32) (hmk : ga_mk μ sp M) (htk : ga_tk tk M) (hs : sp ≤ n) (hn : n ≤ 1024) (hμ : ∀ i, μ i < 256) (hk : k < 12) (hwf : ga_wf (F k)) (hw : ¬ (way < 0 ∨ nI 3 < way)) (hfr : m = 0 ∨ ga_top M ≠ none) (hu : m ≤ ga_vc μ sp M) (ha : (F k).2.1 = 0) (hh : (F k).1 = 192 ∨ (F k).1 = 193) (hfull : n < sp - 4 * m + 16 + ga_room (F k) m) :
    gx_call LL xs (d + 7) z_G_call 0 0 [.ref 0, .int (nI k), .int (nI m), .int way, .int addr, .int p] (gc_h n μ sp (ga_top M) pc lp cl tk (ga_tc M) F tn tl) (fun r h => r = some (.int (-(nI 15))) ∧ h = (gc_h n μ sp (ga_top M) pc lp cl tk (ga_tc M) F tn tl)) := by
  have hvl := ga_vc_le hmk
  have hrl := ga_room_le hwf (m := m)
  exact k_G_call_r way addr p hmk htk hs hn hμ hk hwf hw hfr hu ha hh (k_reaches_f hfull (by omega)) (gx_run 1 (And.intro (fun c => absurd rfl c) (fun _ => gx_run 2 (And.intro rfl rfl))))
theorem k_G_call {m : Nat} (way addr p : Int32) (hmk : ga_mk μ sp M) (htk : ga_tk tk M) (hs : sp ≤ n) (hn : n ≤ 1024) (hμ : ∀ i, μ i < 256) (hk : k < 12) (hwf : ga_wf (F k)) (hw : ¬ (way < 0 ∨ nI 3 < way)) (hfr : m = 0 ∨ ga_top M ≠ none) (hu : m ≤ ga_vc μ sp M) (ha : (F k).2.1 = 0) (hh : (F k).1 = 192 ∨ (F k).1 = 193) (hfull : sp - 4 * m + 16 + ga_room (F k) m ≤ n) :
    gx_call LL xs (d + 7) z_G_call 0 0 [.ref 0, .int (nI k), .int (nI m), .int way, .int addr, .int p] (gc_h n μ sp (ga_top M) pc lp cl tk (ga_tc M) F tn tl) (fun r h => r = some (.int (nI (sp - 4 * m + 16))) ∧ h = (gc_h n (ga_en (F k) (ga_va μ sp) m (ga_st μ (sp - 4 * m) way addr p (ga_fp (ga_top M))) (sp - 4 * m + 16)) (sp - 4 * m + 16 + ga_room (F k) m) (some (sp - 4 * m + 16)) pc lp cl tk (ga_tc M) F (ga_tv μ sp m tn) tl)) := by
  have hvl := ga_vc_le hmk
  rw [← ga_en_cong (ga_tv_va (μ := μ) (sp := sp) (m := m) (tn := tn))]
  refine k_G_call_r way addr p hmk htk hs hn hμ hk hwf hw hfr hu ha hh (k_reaches_t hfull hn) (gx_run 1 (And.intro (fun _ => ?_) (fun c => absurd c (by decide))))
  have c1 := k_G_takeValues (LL := LL) (xs := xs) (d := d + 2) (n := n) (μ := μ) (sp := sp) (fo := ga_top M) (pc := pc) (lp := lp) (cl := cl) (tk := tk) (tc := ga_tc M) (F := F) (tn := tn) (tl := tl) (m := m) (by omega) hs (by omega) hμ
  have c2 := k_G_pushStub (LL := LL) (xs := xs) (d := d + 2) (n := n) (μ := μ) (sp := sp - 4 * m) (fo := ga_top M) (pc := pc) (lp := lp) (cl := cl) (tk := tk) (tc := ga_tc M) (F := F) (tn := ga_tv μ sp m tn) (tl := tl) way addr p (by omega) hn
  have c3 := k_G_pushFrame (LL := LL) (xs := xs) (d := d + 1) (n := n) (μ := ga_st μ (sp - 4 * m) way addr p (ga_fp (ga_top M))) (sp := sp - 4 * m + 16) (fo := ga_top M) (pc := pc) (lp := lp) (cl := cl) (tk := tk) (tc := ga_tc M) (F := F) (tn := ga_tv μ sp m tn) (tl := tl) (m := m) hk hwf hh hfull hn (ga_st_lt hμ) (by omega)
  exact gx_run 15 (And.intro ⟨_, rfl⟩ (gx_c1 (gx_le8 rfl) c1 (And.intro ⟨_, rfl⟩ (gx_c1 (gx_le8 rfl) c2 (And.intro ⟨_, rfl⟩ (gx_c1 (gx_le8 rfl) c3 (And.intro rfl rfl)))))))
/-! tail -/
theorem k_G_tail_b (x y : Int32) (hx : (x < 0 ∨ nI 12 ≤ x) ∨ y < 0) : gx_call LL xs (d + 2) z_G_tail 0 0 [.ref 0, .int x, .int y] (gc_h n μ sp fo pc lp cl tk tc F tn tl) (fun r h => r = some (.int (-(nI 1))) ∧ h = (gc_h n μ sp fo pc lp cl tk tc F tn tl)) := by
  rcases pk_ix x (n := 12) (by decide) with c | c | ⟨k, hk, rfl⟩
  · exact gs_G_tail _ _ _ (gx_run 6 (And.intro ⟨_, rfl⟩ (gx_c1 (gx_le8 rfl) (k_G_functionOf_n (Or.inl c)) (gx_run 2 (And.intro rfl rfl)))))
  · exact gs_G_tail _ _ _ (gx_run 6 (And.intro ⟨_, rfl⟩ (gx_c1 (gx_le8 rfl) (k_G_functionOf_n (Or.inr c)) (gx_run 2 (And.intro rfl rfl)))))
  · refine gs_G_tail _ _ _ (gx_run 8 (And.intro ⟨_, rfl⟩ (gx_c1 (gx_le8 rfl) (k_G_functionOf hk) (And.intro (fun c => ?_) (fun _ => gx_run 2 (And.intro rfl rfl))))))
    rcases hx with (h | h) | h
    · exact absurd h (nI_pos (by omega))
    · exact absurd h (nI_ge hk (by omega))
    · exact absurd h (Int32.not_lt.mpr c)
theorem k_G_tail_n {m : Nat} (hk : k < 12) (hm : m < 2147483648) : gx_call LL xs (d + 2) z_G_tail 0 0 [.ref 0, .int (nI k), .int (nI m)] (gc_h n μ sp none pc lp cl tk tc F tn tl) (fun r h => r = some (.int (-(nI 16))) ∧ h = (gc_h n μ sp none pc lp cl tk tc F tn tl)) :=
  gs_G_tail _ _ _ (gx_run 8 (And.intro ⟨_, rfl⟩ (gx_c1 (gx_le8 rfl) (k_G_functionOf hk) (And.intro (fun _ => gx_run 4 (And.intro (fun c => absurd rfl c) (fun _ => gx_run 2 (And.intro rfl rfl)))) (fun c => absurd (nI_pos' (by omega)) c)))))
theorem k_G_tail_q {m f : Nat} {Q : gx_Q} (hmk : ga_mk μ sp M) (htk : ga_tk tk M) (hs : sp ≤ n) (hn : n ≤ 1024) (hμ : ∀ i, μ i < 256) (hk : k < 12) (hm : m < 2147483648) (hf : ga_top M = some f)
    (hO : gx_E LL xs (gx_call LL xs (d + 6)) cd_G_tail Q 19 [some (.ref 0), some (.int (nI k)), some (.int (nI m)), some (.ref (5 + 3 * k))] [.int (nI (ga_vc μ sp M)), .int (nI m)] (gc_h n μ sp (ga_top M) pc lp cl tk (ga_tc M) F tn tl) 0 0) :
    gx_call LL xs (d + 7) z_G_tail 0 0 [.ref 0, .int (nI k), .int (nI m)] (gc_h n μ sp (ga_top M) pc lp cl tk (ga_tc M) F tn tl) Q := by
  have hvc := k_G_valueCount (LL := LL) (xs := xs) (d := d + 1) (n := n) (pc := pc) (lp := lp) (cl := cl) (F := F) (tn := tn) (tl := tl) hmk htk hs hn hμ
  have hlt := ga_top_lt hmk hf
  rw [hf] at hvc hO ⊢
  refine gs_G_tail _ _ _ (gx_run 8 (And.intro ⟨_, rfl⟩ (gx_c1 (gx_le8 rfl) (k_G_functionOf hk) (And.intro (fun _ => gx_run 4 (And.intro (fun _ => ?_) (fun c => absurd c (ga_fp_none (by omega))))) (fun c => absurd (nI_pos' (by omega)) c)))))
  exact gx_run 3 (And.intro ⟨_, rfl⟩ (gx_c1 (gx_le8 rfl) hvc hO))
theorem k_G_tail_u {m f : Nat} (hmk : ga_mk μ sp M) (htk : ga_tk tk M) (hs : sp ≤ n) (hn : n ≤ 1024) (hμ : ∀ i, μ i < 256) (hk : k < 12) (hm : m < 2147483648) (hf : ga_top M = some f) (hu : ga_vc μ sp M < m) :
    gx_call LL xs (d + 7) z_G_tail 0 0 [.ref 0, .int (nI k), .int (nI m)] (gc_h n μ sp (ga_top M) pc lp cl tk (ga_tc M) F tn tl) (fun r h => r = some (.int (-(nI 12))) ∧ h = (gc_h n μ sp (ga_top M) pc lp cl tk (ga_tc M) F tn tl)) :=
  k_G_tail_q hmk htk hs hn hμ hk hm hf (gx_run 1 (And.intro (fun c => absurd c (nI_ge hu hm)) (fun _ => gx_run 2 (And.intro rfl rfl))))
theorem k_G_tail_a {m f : Nat} (hmk : ga_mk μ sp M) (htk : ga_tk tk M) (hs : sp ≤ n) (hn : n ≤ 1024) (hμ : ∀ i, μ i < 256) (hk : k < 12) (hf : ga_top M = some f) (hu : m ≤ ga_vc μ sp M) (ha : (F k).2.1 = 1 ∨ (F k).2.1 = 2 ∨ (F k).2.1 = 3) {r0 : Int32} {h0 : gx_H}
    (hc : gx_call LL xs (d + 6) z_G_goBack 0 0 [.ref 0, .int (nI f), .int (ga_gb (F k).2.1 (ga_va μ sp) m)] (gc_h n μ sp (ga_top M) pc lp cl tk (ga_tc M) F tn tl) (fun r h => r = some (.int r0) ∧ h = h0)) :
    gx_call LL xs (d + 7) z_G_tail 0 0 [.ref 0, .int (nI k), .int (nI m)] (gc_h n μ sp (ga_top M) pc lp cl tk (ga_tc M) F tn tl) (fun r h => r = some (.int r0) ∧ h = h0) := by
  have hvl := ga_vc_le hmk
  have c1 := k_F_isAccelerated (LL := LL) (xs := xs) (d := d + 5) (n := n) (μ := μ) (sp := sp) (fo := ga_top M) (pc := pc) (lp := lp) (cl := cl) (tk := tk) (tc := ga_tc M) (F := F) (tn := tn) (tl := tl) hk (by omega)
  rw [if_neg (by omega)] at c1
  refine k_G_tail_q hmk htk hs hn hμ hk (by omega) hf (gx_run 1 (And.intro (fun _ => ?_) (fun c => absurd (nI_le hu (by omega)) c)))
  rw [hf] at c1 hc ⊢
  refine gx_run 3 (And.intro ⟨_, gc_at_o hk⟩ (gx_c1 (gx_le8 rfl) c1 (And.intro (fun c => absurd c (by decide)) (fun _ => gx_run 5 (gx_getf rfl (gc_at_o hk) rfl ?_)))))
  exact gx_run 4 (And.intro ⟨_, rfl⟩ (gx_c1 (gx_le8 rfl) (k_G_givenBy (show 4 * m ≤ sp by omega) hs hn hμ ha) (And.intro ⟨_, rfl⟩ (gx_c1 (gx_le8 rfl) hc (And.intro rfl rfl)))))
theorem k_G_tail_h {m f : Nat} (hmk : ga_mk μ sp M) (htk : ga_tk tk M) (hs : sp ≤ n) (hn : n ≤ 1024) (hμ : ∀ i, μ i < 256) (hk : k < 12) (hwf : ga_wf (F k)) (hf : ga_top M = some f) (hu : m ≤ ga_vc μ sp M) (ha : (F k).2.1 = 0) (hh : ¬ ((F k).1 = 192 ∨ (F k).1 = 193)) :
    gx_call LL xs (d + 7) z_G_tail 0 0 [.ref 0, .int (nI k), .int (nI m)] (gc_h n μ sp (ga_top M) pc lp cl tk (ga_tc M) F tn tl) (fun r h => r = some (.int (-(nI 11))) ∧ h = (gc_h n μ sp (ga_top M) pc lp cl tk (ga_tc M) F tn tl)) := by
  have hvl := ga_vc_le hmk
  have c1 := k_F_isAccelerated (LL := LL) (xs := xs) (d := d + 5) (n := n) (μ := μ) (sp := sp) (fo := ga_top M) (pc := pc) (lp := lp) (cl := cl) (tk := tk) (tc := ga_tc M) (F := F) (tn := tn) (tl := tl) hk (by omega)
  rw [if_pos ha] at c1
  have c2 := k_F_hasFrameHead (LL := LL) (xs := xs) (d := d + 5) (n := n) (μ := μ) (sp := sp) (fo := ga_top M) (pc := pc) (lp := lp) (cl := cl) (tk := tk) (tc := ga_tc M) (F := F) (tn := tn) (tl := tl) hk hwf.1
  rw [if_neg hh] at c2
  refine k_G_tail_q hmk htk hs hn hμ hk (by omega) hf (gx_run 1 (And.intro (fun _ => ?_) (fun c => absurd (nI_le hu (by omega)) c)))
  refine gx_run 3 (And.intro ⟨_, gc_at_o hk⟩ (gx_c1 (gx_le8 rfl) c1 (And.intro (fun _ => ?_) (fun c => absurd rfl c))))
  exact gx_run 3 (And.intro ⟨_, gc_at_o hk⟩ (gx_c1 (gx_le8 rfl) c2 (And.intro (fun c => absurd rfl c) (fun _ => gx_run 2 (And.intro rfl rfl)))))
theorem k_G_tail_r {m f : Nat} {Q : gx_Q} {r0 : Int32} (hmk : ga_mk μ sp M) (htk : ga_tk tk M) (hs : sp ≤ n) (hn : n ≤ 1024) (hμ : ∀ i, μ i < 256) (hk : k < 12) (hwf : ga_wf (F k)) (hf : ga_top M = some f) (hu : m ≤ ga_vc μ sp M) (ha : (F k).2.1 = 0) (hh : (F k).1 = 192 ∨ (F k).1 = 193)
    (hrr : gx_call LL xs (d + 6) z_R_reaches 0 0 [.ref 3, .int (nI (f + ga_room (F k) m))] (gc_h n μ sp (ga_top M) pc lp cl tk (ga_tc M) F tn tl) (fun r h => r = some (.int r0) ∧ h = (gc_h n μ sp (ga_top M) pc lp cl tk (ga_tc M) F tn tl)))
    (hO : gx_E LL xs (gx_call LL xs (d + 6)) cd_G_tail Q 49 [some (.ref 0), some (.int (nI k)), some (.int (nI m)), some (.ref (5 + 3 * k))] [.int r0] (gc_h n μ sp (ga_top M) pc lp cl tk (ga_tc M) F tn tl) 0 0) :
    gx_call LL xs (d + 7) z_G_tail 0 0 [.ref 0, .int (nI k), .int (nI m)] (gc_h n μ sp (ga_top M) pc lp cl tk (ga_tc M) F tn tl) Q := by
  have hvl := ga_vc_le hmk
  have c1 := k_F_isAccelerated (LL := LL) (xs := xs) (d := d + 5) (n := n) (μ := μ) (sp := sp) (fo := ga_top M) (pc := pc) (lp := lp) (cl := cl) (tk := tk) (tc := ga_tc M) (F := F) (tn := tn) (tl := tl) hk (by omega)
  rw [if_pos ha] at c1
  have c2 := k_F_hasFrameHead (LL := LL) (xs := xs) (d := d + 5) (n := n) (μ := μ) (sp := sp) (fo := ga_top M) (pc := pc) (lp := lp) (cl := cl) (tk := tk) (tc := ga_tc M) (F := F) (tn := tn) (tl := tl) hk hwf.1
  rw [if_pos hh] at c2
  refine k_G_tail_q hmk htk hs hn hμ hk (by omega) hf (gx_run 1 (And.intro (fun _ => ?_) (fun c => absurd (nI_le hu (by omega)) c)))
  rw [← nI_add] at hrr
  rw [hf] at c1 c2 hrr hO ⊢
  refine gx_run 3 (And.intro ⟨_, gc_at_o hk⟩ (gx_c1 (gx_le8 rfl) c1 (And.intro (fun _ => ?_) (fun c => absurd rfl c))))
  refine gx_run 3 (And.intro ⟨_, gc_at_o hk⟩ (gx_c1 (gx_le8 rfl) c2 (And.intro (fun _ => ?_) (fun c => absurd c (by decide)))))
  exact gx_run 9 (And.intro ⟨_, gc_at_o hk⟩ (gx_c1 (gx_le8 rfl) (k_F_bytesWith hk hwf) (And.intro ⟨_, rfl⟩ (gx_c1 (gx_le8 rfl) hrr hO))))
theorem k_G_tail_f {m f : Nat} (hmk : ga_mk μ sp M) (htk : ga_tk tk M) (hs : sp ≤ n) (hn : n ≤ 1024) (hμ : ∀ i, μ i < 256) (hk : k < 12) (hwf : ga_wf (F k)) (hf : ga_top M = some f) (hu : m ≤ ga_vc μ sp M) (ha : (F k).2.1 = 0) (hh : (F k).1 = 192 ∨ (F k).1 = 193) (hfull : n < f + ga_room (F k) m) :
    gx_call LL xs (d + 7) z_G_tail 0 0 [.ref 0, .int (nI k), .int (nI m)] (gc_h n μ sp (ga_top M) pc lp cl tk (ga_tc M) F tn tl) (fun r h => r = some (.int (-(nI 15))) ∧ h = (gc_h n μ sp (ga_top M) pc lp cl tk (ga_tc M) F tn tl)) := by
  have hvl := ga_vc_le hmk
  have hlt := ga_top_lt hmk hf
  have hrl := ga_room_le hwf (m := m)
  exact k_G_tail_r hmk htk hs hn hμ hk hwf hf hu ha hh (k_reaches_f hfull (by omega)) (gx_run 1 (And.intro (fun c => absurd rfl c) (fun _ => gx_run 2 (And.intro rfl rfl))))
theorem k_G_tail {m f c : Nat} (hmk : ga_mk μ sp M) (htk : ga_tk tk M) (hs : sp ≤ n) (hn : n ≤ 1024) (hμ : ∀ i, μ i < 256) (hk : k < 12) (hwf : ga_wf (F k)) (hf : ga_top M = some f) (hu : m ≤ ga_vc μ sp M) (ha : (F k).2.1 = 0) (hh : (F k).1 = 192 ∨ (F k).1 = 193) (hfull : f + ga_room (F k) m ≤ n)
    (hlow : ∀ c', c = c' + 1 → tk c' < f) (hcc : c ≤ ga_tc M) (hi : ∀ i, c ≤ i → i < ga_tc M → f ≤ tk i ∧ tk i < 2147483648) (hfm : f ≤ sp - 4 * m) :
    gx_call LL xs (d + 7) z_G_tail 0 0 [.ref 0, .int (nI k), .int (nI m)] (gc_h n μ sp (ga_top M) pc lp cl tk (ga_tc M) F tn tl) (fun r h => r = some (.int (nI f)) ∧ h = (gc_h n (ga_en (F k) (ga_va μ sp) m μ f) (f + ga_room (F k) m) (some f) pc lp cl tk c F (ga_tv μ sp m tn) tl)) := by
  have hvl := ga_vc_le hmk
  have hcnt := ga_tc_le hmk
  rw [← ga_en_cong (ga_tv_va (μ := μ) (sp := sp) (m := m) (tn := tn))]
  refine k_G_tail_r hmk htk hs hn hμ hk hwf hf hu ha hh (k_reaches_t hfull hn) (gx_run 1 (And.intro (fun _ => ?_) (fun c => absurd c (by decide))))
  have c1 := k_G_takeValues (LL := LL) (xs := xs) (d := d + 2) (n := n) (μ := μ) (sp := sp) (fo := some f) (pc := pc) (lp := lp) (cl := cl) (tk := tk) (tc := ga_tc M) (F := F) (tn := tn) (tl := tl) (m := m) (by omega) hs (by omega) hμ
  have c2 := k_G_drop (LL := LL) (xs := xs) (d := d + 4) (n := n) (μ := μ) (sp := sp - 4 * m) (fo := some f) (pc := pc) (lp := lp) (cl := cl) (tk := tk) (tc := ga_tc M) (F := F) (tn := ga_tv μ sp m tn) (tl := tl) (p := f) (c := c) (by omega) (by omega) hlow hcc (by omega) hi
  have c3 := k_R_cutTo (LL := LL) (xs := xs) (d := d + 5) (n := n) (μ := μ) (sp := sp - 4 * m) (fo := some f) (pc := pc) (lp := lp) (cl := cl) (tk := tk) (tc := c) (F := F) (tn := ga_tv μ sp m tn) (tl := tl) hfm (by omega)
  have c4 := k_G_pushFrame (LL := LL) (xs := xs) (d := d + 1) (n := n) (μ := μ) (sp := f) (fo := some f) (pc := pc) (lp := lp) (cl := cl) (tk := tk) (tc := c) (F := F) (tn := ga_tv μ sp m tn) (tl := tl) (m := m) hk hwf hh hfull hn hμ (by omega)
  rw [hf]
  exact gx_run 19 (And.intro ⟨_, rfl⟩ (gx_c1 (gx_le8 rfl) c1 (And.intro ⟨_, rfl⟩ (gx_c1 (gx_le8 rfl) c2 (And.intro ⟨_, rfl⟩ (gx_c1 (gx_le8 rfl) c3 (And.intro ⟨_, rfl⟩ (gx_c1 (gx_le8 rfl) c4 (And.intro rfl rfl)))))))))
end GCO
end
section
/-! The reference: its cells stand behind the class's 43. -/
def gm_q (pre : Nat → gx_A) (n : Nat) (μ : Nat → Nat) (sp : Nat) (fo : Option Nat) (pc lp : Int32) (cl : Nat → Int32) (hd pr wd ct fs : Nat → Int32) (tk : Nat → Nat) (tc : Nat) (gv : Nat → Int32) : gx_H :=
  pre 0 :: pre 1 :: pre 2 :: pre 3 :: pre 4 :: pre 5 :: pre 6 :: pre 7 :: pre 8 :: pre 9 :: pre 10 :: pre 11 :: pre 12 :: pre 13 :: pre 14 :: pre 15 :: pre 16 :: pre 17 :: pre 18 :: pre 19 :: pre 20 :: pre 21 ::
  pre 22 :: pre 23 :: pre 24 :: pre 25 :: pre 26 :: pre 27 :: pre 28 :: pre 29 :: pre 30 :: pre 31 :: pre 32 :: pre 33 :: pre 34 :: pre 35 :: pre 36 :: pre 37 :: pre 38 :: pre 39 :: pre 40 :: pre 41 :: pre 42 ::
  [.inr (.inr (3, [.int (nI n), .ref 44, .int (nI sp), .int (ga_fp fo), .int pc, .ref 45, .ref 46, .ref 47, .ref 48, .ref 49, .ref 50, .ref 51, .int (nI tc), .int lp, .ref 52])),
    .inl (0, 1024, fun i => nI (μ i)), .inl (0, 16, cl), .inl (0, 12, hd), .inl (0, 12, pr), .inl (0, 72, wd), .inl (0, 72, ct), .inl (0, 12, fs), .inl (0, 64, fun i => nI (tk i)), .inl (0, 256, gv)]
def gm_h (pre : Nat → gx_A) (n : Nat) (μ : Nat → Nat) (sp : Nat) (fo : Option Nat) (pc lp : Int32) (cl : Nat → Int32) (tk : Nat → Nat) (tc : Nat) (F : Nat → ga_F) (gv : Nat → Int32) : gx_H :=
  gm_q pre n μ sp fo pc lp cl (fun f => nI (F f).1) (fun f => nI (F f).2.2.1) (fun i => nI ((F (i / 6)).2.2.2.1 (i % 6))) (fun i => nI ((F (i / 6)).2.2.2.2 (i % 6))) (fun f => nI (F f).2.1) tk tc gv
theorem ga_dm {f p : Nat} (h : p < 6) : (6 * f + p) / 6 = f ∧ (6 * f + p) % 6 = p := by omega
theorem ga_i64 (x : Int32) (c : Nat) (hc : c < 2147483648) : (lN 0 ≤ x.toInt64 ∧ x.toInt64 ≤ lN c) ↔ ¬ x < 0 ∧ ¬ nI c < x := by
  rw [Int64.le_iff_toInt_le, Int64.le_iff_toInt_le, Int32.toInt_toInt64, lN_toInt (by omega), lN_toInt hc, Int32.lt_iff_toInt_lt, Int32.lt_iff_toInt_lt, Int32.toInt_zero, nI_toInt hc]
  omega
theorem ga_i64b (x y : Int32) : (lN 0 ≤ x.toInt64 ∧ x.toInt64 ≤ y.toInt64) ↔ ¬ x < 0 ∧ ¬ y < x := by
  rw [Int64.le_iff_toInt_le, Int64.le_iff_toInt_le, Int32.toInt_toInt64, Int32.toInt_toInt64, lN_toInt (by omega), Int32.lt_iff_toInt_lt, Int32.lt_iff_toInt_lt, Int32.toInt_zero]
  omega
section GMA
variable {LL : Nat} {xs : Nat → Int32} {d : Nat} {pre : Nat → gx_A} {n : Nat} {μ : Nat → Nat} {sp : Nat} {fo : Option Nat} {pc lp : Int32} {cl : Nat → Int32} {tk : Nat → Nat} {tc : Nat} {F : Nat → ga_F} {gv : Nat → Int32} {k : Nat}
theorem m_fault (x : Int32) {h : gx_H} : gx_call LL xs (d + 1) z_M_fault 0 0 [.int x] h (fun r h' => r = some (.int (-(nI 10) - x)) ∧ h' = h) :=
  gs_M_fault _ (gx_run 4 (And.intro rfl rfl))
theorem m_read_l {a w : Nat} (hw : a + w ≤ 1024) : ∀ (m k : Nat), k + m = w →
    gx_E LL xs (gx_call LL xs d) cd_M_read (fun r h => r = some (.int (ga_rd μ a w)) ∧ h = (gm_h pre n μ sp fo pc lp cl tk tc F gv)) 4 [some (.ref 43), some (.int (nI a)), some (.int (nI w)), some (.int (ga_rd μ a k)), some (.int (nI k))] [] (gm_h pre n μ sp fo pc lp cl tk tc F gv) 0 0 := by
  intro m
  induction m with
  | zero =>
    intro k hk
    obtain rfl : k = w := by omega
    exact gx_run 3 (And.intro (fun _ => gx_run 2 (And.intro rfl rfl)) (fun c => absurd (nI_le (Nat.le_refl k) (by omega)) c))
  | succ m ih =>
    intro k hk
    refine gx_run 3 (And.intro (fun c => absurd c (nI_ge (show k < w by omega) (by omega))) (fun _ => gx_run 13 (gx_ar (a + k) (nI_add a k) (by omega) (by omega) ?_)))
    have h9 := ih (k + 1) (by omega)
    rw [← nI_add k 1] at h9
    exact h9
theorem m_read {a w : Nat} (hw : a + w ≤ 1024) : gx_call LL xs (d + 1) z_M_read 0 0 [.ref 43, .int (nI a), .int (nI w)] (gm_h pre n μ sp fo pc lp cl tk tc F gv) (fun r h => r = some (.int (ga_rd μ a w)) ∧ h = (gm_h pre n μ sp fo pc lp cl tk tc F gv)) :=
  gs_M_read _ _ _ (gx_run 4 (m_read_l hw w 0 (Nat.zero_add w)))
theorem m_write_l {a w : Nat} (hw : a + w ≤ 1024) : ∀ (k : Nat) (μ : Nat → Nat) (v : Int32) (w0 v0 : Int32), k ≤ w →
    gx_E LL xs (gx_call LL xs d) cd_M_write (fun r h => r = none ∧ h = (gm_h pre n (ga_wr μ a k v) sp fo pc lp cl tk tc F gv)) 6 [some (.ref 43), some (.int (nI a)), some (.int w0), some (.int v0), some (.int v), some (.int (nI k - nI 1))] [] (gm_h pre n μ sp fo pc lp cl tk tc F gv) 0 0 := by
  intro k
  induction k with
  | zero =>
    intro μ v w0 v0 hk
    exact gx_run 2 (And.intro (fun _ => gx_run 1 (And.intro rfl rfl)) (fun c => absurd (by decide) c))
  | succ k ih =>
    intro μ v w0 v0 hk
    have e1 : nI (k + 1) - nI 1 = nI k := pk_sub (Nat.le_add_left 1 k)
    rw [e1]
    have h9 := ih (va_up μ (a + k) (ga_lo v)) (v >>> (nI 8 &&& 31)) w0 v0 (by omega)
    have e2 : (gm_h pre n (va_up μ (a + k) (ga_lo v)) sp fo pc lp cl tk tc F gv) = (gm_h pre n μ sp fo pc lp cl tk tc F gv).set 44 (.inl (0, 1024, upd (fun i => nI (μ i)) (a + k) (v &&& nI 255))) := by
      rw [ga_and, gm_byte]
      rfl
    rw [e2] at h9
    exact gx_run 2 (And.intro (fun c => absurd c (nI_pos (by omega))) (fun _ => gx_run 15 (gx_ar (a + k) (nI_add a k) (by omega) (by omega) h9)))
theorem m_write {a w : Nat} (v : Int32) (hw : a + w ≤ 1024) : gx_call LL xs (d + 1) z_M_write 0 0 [.ref 43, .int (nI a), .int (nI w), .int v] (gm_h pre n μ sp fo pc lp cl tk tc F gv) (fun r h => r = none ∧ h = (gm_h pre n (ga_wr μ a w v) sp fo pc lp cl tk tc F gv)) :=
  gs_M_write _ _ _ _ (gx_run 6 (m_write_l hw w μ v _ _ (Nat.le_refl w)))
theorem m_isFunction (x : Int32) {h : gx_H} : gx_call LL xs (d + 1) z_M_isFunction 0 0 [.int x] h (fun r h' => r = some (.int (if x < 0 ∨ nI 12 ≤ x then nI 0 else nI 1)) ∧ h' = h) := by
  refine gs_M_isFunction _ (gx_run 6 (And.intro (gx_le8 rfl) (And.intro (fun c => And.intro (Or.inr rfl) (And.intro ?_ rfl)) (fun c => And.intro (Or.inl rfl) (And.intro ?_ rfl)))))
  · have c' := (ga_i64 x 11 (by decide)).mp c
    rw [if_neg]
    rintro (h | h)
    · exact c'.1 h
    · refine c'.2 (Int32.lt_iff_toInt_lt.mpr ?_)
      have := Int32.le_iff_toInt_le.mp h
      rw [nI_toInt (by decide)] at this ⊢
      omega
  · rw [if_pos]
    rcases pk_ix x (n := 12) (by decide) with h | h | ⟨j, hj, rfl⟩
    · exact Or.inl h
    · exact Or.inr h
    · exact absurd ((ga_i64 _ 11 (by decide)).mpr ⟨nI_pos (by omega), nI_nlt (by omega) (by decide)⟩) c
theorem m_isFunction_t (hk : k < 12) {h : gx_H} : gx_call LL xs (d + 1) z_M_isFunction 0 0 [.int (nI k)] h (fun r h' => r = some (.int (nI 1)) ∧ h' = h) := by
  have := m_isFunction (LL := LL) (xs := xs) (d := d) (nI k) (h := h)
  rw [if_neg (by
    rintro (h | h)
    · exact nI_pos (by omega) h
    · exact nI_ge hk (by omega) h)] at this
  exact this
theorem m_isFunction_f {x : Int32} (hx : x < 0 ∨ nI 12 ≤ x) {h : gx_H} : gx_call LL xs (d + 1) z_M_isFunction 0 0 [.int x] h (fun r h' => r = some (.int (nI 0)) ∧ h' = h) := by
  have := m_isFunction (LL := LL) (xs := xs) (d := d) x (h := h)
  rw [if_pos hx] at this
  exact this
theorem m_isWidth (x : Int32) {h : gx_H} : gx_call LL xs (d + 1) z_M_isWidth 0 0 [.int x] h (fun r h' => r = some (.int (if x = nI 1 ∨ x = nI 2 ∨ x = nI 4 then nI 1 else nI 0)) ∧ h' = h) := by
  refine gs_M_isWidth _ (gx_run 3 (And.intro (fun c => gx_run 3 (And.intro (Or.inr rfl) (And.intro ?_ rfl))) (fun c1 => gx_run 3 (And.intro (fun c => gx_run 3 (And.intro (Or.inr rfl) (And.intro ?_ rfl))) (fun c2 => gx_run 3 (And.intro (fun c => gx_run 2 (And.intro (Or.inl rfl) (And.intro ?_ rfl))) (fun c => gx_run 3 (And.intro (Or.inr rfl) (And.intro ?_ rfl)))))))))
  · rw [if_pos (Or.inl c)]
  · rw [if_pos (Or.inr (Or.inl c))]
  · rw [if_neg (by rintro (h | h | h) <;> contradiction)]
  · rw [if_pos (Or.inr (Or.inr c))]
theorem m_up {u x : Nat} (hu : 0 < u) (hu4 : u ≤ 4) (hx : x < 2 ^ 30) {h : gx_H} : gx_call LL xs (d + 1) z_M_up 0 0 [.int (nI x), .int (nI u)] h (fun r h' => r = some (.int (nI (ga_up u x))) ∧ h' = h) := by
  refine gs_M_up _ _ (gx_run 10 (And.intro (nI_ne0 hu (by omega)) (And.intro ?_ rfl)))
  rw [nI_add, pk_sub (show 1 ≤ x + u by omega), pk_div (by omega) hu (by omega), pk_mul]
  rfl
theorem m_begin (hk : k < 12) (hp : (F k).2.2.1 ≤ 6) : gx_call LL xs (d + 2) z_M_begin 0 0 [.ref 43, .int (nI k)] (gm_h pre n μ sp fo pc lp cl tk tc F gv) (fun r h => r = some (.int (nI (ga_lb (F k)))) ∧ h = (gm_h pre n μ sp fo pc lp cl tk tc F gv)) := by
  have hc : gx_call LL xs (d + 1) z_M_up 0 0 [.int (nI 8 + nI 2 * (nI (F k).2.2.1 + nI 1)), .int (nI 4)] (gm_h pre n μ sp fo pc lp cl tk tc F gv) (fun r h => r = some (.int (nI (ga_lb (F k)))) ∧ h = (gm_h pre n μ sp fo pc lp cl tk tc F gv)) := by
    rw [nI_add, pk_mul, nI_add, show 8 + 2 * ((F k).2.2.1 + 1) = 10 + 2 * (F k).2.2.1 by omega]
    exact m_up (by decide) (by decide) (by omega)
  exact gs_M_begin _ _ (gx_run 13 (gx_ar k rfl hk (by decide) (gx_c1 (gx_le8 rfl) hc (And.intro rfl rfl))))
theorem m_locals_l (hk : k < 12) (hp : (F k).2.2.1 ≤ 6) : ∀ (m p : Nat), p + m = (F k).2.2.1 →
    gx_E LL xs (gx_call LL xs d) cd_M_locals (fun r h => r = some (.int (nI (ga_ls (F k)))) ∧ h = (gm_h pre n μ sp fo pc lp cl tk tc F gv)) 4 [some (.ref 43), some (.int (nI k)), some (.int (nI (ga_lc (F k).2.2.2.2 p))), some (.int (nI p))] [] (gm_h pre n μ sp fo pc lp cl tk tc F gv) 0 0 := by
  intro m
  induction m with
  | zero =>
    intro p hm
    refine gx_run 6 (gx_ar k rfl hk (by decide) (And.intro (fun _ => gx_run 2 (And.intro ?_ rfl)) (fun c => absurd (nI_le (show (F k).2.2.1 ≤ p by omega) (by omega)) c)))
    rw [show p = (F k).2.2.1 by omega]
    rfl
  | succ m ih =>
    intro p hm
    have h9 := ih (p + 1) (by omega)
    rw [show ga_lc (F k).2.2.2.2 (p + 1) = ga_lc (F k).2.2.2.2 p + (F k).2.2.2.2 p from rfl, ← nI_add, ← nI_add] at h9
    refine gx_run 6 (gx_ar k rfl hk (by decide) (And.intro (fun c => absurd c (nI_ge (show p < (F k).2.2.1 by omega) (by omega))) (fun _ => gx_run 13 (gx_ar (6 * k + p) (by rw [pk_mul, nI_add]) (by omega) (by decide) ?_))))
    obtain ⟨e1, e2⟩ := ga_dm (f := k) (p := p) (by omega)
    rw [← e1, ← e2] at h9
    simp only [e1, e2] at h9 ⊢
    exact h9
end GMA
end
section
/-! The reference: functions, locals, values. -/
theorem ga_in {x : Int32} {c : Nat} (hc : c < 2147483647) (h : lN 0 ≤ x.toInt64 ∧ x.toInt64 ≤ lN c) : ∃ j, j ≤ c ∧ x = nI j := by
  have h' := (ga_i64 x c (by omega)).mp h
  obtain ⟨j, hj, rfl⟩ := nI_of h'.1
  refine ⟨j, ?_, rfl⟩
  rcases Nat.lt_or_ge c j with z | z
  · exact absurd (nI_lt z hj) h'.2
  · exact z
theorem ga_ni {x : Int32} {c : Nat} (hc : c < 2147483647) (h : ¬ (lN 0 ≤ x.toInt64 ∧ x.toInt64 ≤ lN c)) : ∀ j, j ≤ c → ¬ x = nI j := fun j hj e => by
  subst e
  exact h ((ga_i64 _ c (by omega)).mpr ⟨nI_pos (by omega), nI_nlt hj (by omega)⟩)
theorem ga_nx {x : Int32} {c : Nat} (hc : c < 2147483647) (h : x < 0 ∨ nI c < x) : ¬ (lN 0 ≤ x.toInt64 ∧ x.toInt64 ≤ lN c) := fun z => by
  have h' := (ga_i64 x c (by omega)).mp z
  rcases h with h | h
  · exact h'.1 h
  · exact h'.2 h
theorem ga_yx {x c : Nat} (hc : c < 2147483647) (h : x ≤ c) : lN 0 ≤ (nI x).toInt64 ∧ (nI x).toInt64 ≤ lN c := (ga_i64 _ c (by omega)).mpr ⟨nI_pos (by omega), nI_nlt h (by omega)⟩
def ga_po (wd ct : Nat → Nat) (i m at_ left : Nat) : Nat := (ga_pl wd ct i m at_ left).getD (ga_fl wd ct i m at_)
theorem ga_pl_none {wd ct : Nat → Nat} : ∀ (m j at_ left : Nat), ga_lc ct (j + m) ≤ left + ga_lc ct j → ga_pl wd ct j m at_ left = none
  | 0, _, _, _, _ => rfl
  | m + 1, j, at_, left, h => by
    have h4 : ga_lc ct (j + 1) = ga_lc ct j + ct j := rfl
    have h5 := ga_lc_mono (ct := ct) (show j + 1 ≤ j + (m + 1) by omega)
    unfold ga_pl
    rw [if_neg (by omega)]
    exact ga_pl_none m (j + 1) _ _ (by rw [show j + 1 + m = j + (m + 1) by omega]; omega)
theorem ga_pl_add {wd ct : Nat → Nat} {B : Nat} (hB : B % 4 = 0) : ∀ {m j at_ left : Nat}, (∀ q, j ≤ q → q < j + m → (wd q = 1 ∨ wd q = 2 ∨ wd q = 4)) → ga_pl wd ct j m (B + at_) left = (ga_pl wd ct j m at_ left).map (B + ·)
  | 0, _, _, _, _ => rfl
  | m + 1, j, at_, left, hw => by
    unfold ga_pl
    rw [ga_up_add (hw j (Nat.le_refl _) (by omega)) hB]
    by_cases c : left < ct j
    · rw [if_pos c, if_pos c, Nat.add_assoc]
      rfl
    · rw [if_neg c, if_neg c, Nat.add_assoc]
      exact ga_pl_add hB (fun q a b => hw q (by omega) (by omega))
theorem ga_po_in {f : ga_F} (hw : ga_wf f) {k : Nat} (hk : k < ga_ls f) : ga_po f.2.2.2.1 f.2.2.2.2 0 f.2.2.1 (ga_lb f) k = ga_lb f + ga_pc f k := by
  have h := ga_pl_add (wd := f.2.2.2.1) (ct := f.2.2.2.2) (B := ga_lb f) (ga_lb4 f) (m := f.2.2.1) (j := 0) (at_ := 0) (left := k) (fun q _ h => (hw.2.2.2 q (by omega)).1)
  rw [Nat.add_zero, (ga_pc_in hw hk).1] at h
  unfold ga_po
  rw [h]
  rfl
theorem ga_po_end {f : ga_F} : ga_po f.2.2.2.1 f.2.2.2.2 0 f.2.2.1 (ga_lb f) (ga_ls f) = ga_fl f.2.2.2.1 f.2.2.2.2 0 f.2.2.1 (ga_lb f) := by
  unfold ga_po
  rw [ga_pl_none _ _ _ _ (by rw [Nat.zero_add]; exact Nat.le_add_right _ _)]
  rfl
section GMB
variable {LL : Nat} {xs : Nat → Int32} {d : Nat} {pre : Nat → gx_A} {n : Nat} {μ : Nat → Nat} {sp : Nat} {fo : Option Nat} {pc lp : Int32} {cl : Nat → Int32} {tk : Nat → Nat} {tc : Nat} {F : Nat → ga_F} {gv : Nat → Int32} {k : Nat}
theorem m_locals (hk : k < 12) (hp : (F k).2.2.1 ≤ 6) : gx_call LL xs (d + 1) z_M_locals 0 0 [.ref 43, .int (nI k)] (gm_h pre n μ sp fo pc lp cl tk tc F gv) (fun r h => r = some (.int (nI (ga_ls (F k)))) ∧ h = (gm_h pre n μ sp fo pc lp cl tk tc F gv)) :=
  gs_M_locals _ _ (gx_run 4 (m_locals_l hk hp _ 0 (Nat.zero_add _)))
theorem m_placeOf_l (hk : k < 12) (hw : ga_wf (F k)) : ∀ (m p at_ left : Nat) (L0 : Value) (w6 w7 : Option Value), p + m = (F k).2.2.1 → at_ + m * 1024 ≤ 10000 → left < 2147483648 →
    gx_E LL xs (gx_call LL xs (d + 1)) cd_M_placeOf (fun r h => r = some (.int (nI (ga_po (F k).2.2.2.1 (F k).2.2.2.2 p m at_ left))) ∧ h = (gm_h pre n μ sp fo pc lp cl tk tc F gv)) 8 [some (.ref 43), some (.int (nI k)), some L0, some (.int (nI at_)), some (.int (nI left)), some (.int (nI p)), w6, w7] [] (gm_h pre n μ sp fo pc lp cl tk tc F gv) 0 0 := by
  intro m
  induction m with
  | zero =>
    intro p at_ left L0 w6 w7 hm ha hl
    have hp := hw.2.2.1
    exact gx_run 6 (gx_ar k rfl hk (by decide) (And.intro (fun _ => gx_run 2 (And.intro rfl rfl)) (fun c => absurd (nI_le (show (F k).2.2.1 ≤ p by omega) (by omega)) c)))
  | succ m ih =>
    intro p at_ left L0 w6 w7 hm ha hl
    have hp := hw.2.2.1
    obtain ⟨e1, e2⟩ := ga_dm (f := k) (p := p) (by omega)
    obtain ⟨hwp, hc1, hc2⟩ := hw.2.2.2 p (by omega)
    have hu := ga_up_lt (u := (F k).2.2.2.1 p) (x := at_) (by omega)
    have hml := ga_mul_le hwp hc2
    have hc : gx_call LL xs (d + 1) z_M_up 0 0 [.int (nI at_), .int (nI ((F ((6 * k + p) / 6)).2.2.2.1 ((6 * k + p) % 6)))] (gm_h pre n μ sp fo pc lp cl tk tc F gv) (fun r h => r = some (.int (nI (ga_up ((F k).2.2.2.1 p) at_))) ∧ h = (gm_h pre n μ sp fo pc lp cl tk tc F gv)) := by
      rw [e1, e2]
      exact m_up (by omega) (by omega) (by omega)
    refine gx_run 6 (gx_ar k rfl hk (by decide) (And.intro (fun c => absurd c (nI_ge (show p < (F k).2.2.1 by omega) (by omega))) (fun _ => gx_run 25 (gx_ar (6 * k + p) (by rw [pk_mul, nI_add]) (by omega) (by decide) (gx_ar (6 * k + p) (by rw [pk_mul, nI_add]) (by omega) (by decide) (gx_c1 (gx_le8 rfl) hc ?_))))))
    simp only [e1, e2]
    by_cases c : left < (F k).2.2.2.2 p
    · refine And.intro (fun z => absurd z (nI_ge c (by omega))) (fun _ => gx_run 6 (And.intro ?_ rfl))
      unfold ga_po ga_pl
      rw [if_pos c, pk_mul, nI_add]
      rfl
    · refine And.intro (fun _ => gx_run 12 ?_) (fun z => absurd (nI_le (Nat.le_of_not_lt c) hl) z)
      have h9 := ih (p + 1) (ga_up ((F k).2.2.2.1 p) at_ + (F k).2.2.2.2 p * (F k).2.2.2.1 p) (left - (F k).2.2.2.2 p) L0 (some (.int (nI ((F k).2.2.2.1 p)))) (some (.int (nI ((F k).2.2.2.2 p)))) (by omega) (by omega) (by omega)
      have e : ga_po (F k).2.2.2.1 (F k).2.2.2.2 p (m + 1) at_ left = ga_po (F k).2.2.2.1 (F k).2.2.2.2 (p + 1) m (ga_up ((F k).2.2.2.1 p) at_ + (F k).2.2.2.2 p * (F k).2.2.2.1 p) (left - (F k).2.2.2.2 p) := by
        unfold ga_po
        rw [ga_pl, ga_fl, if_neg c]
      rw [e]
      rw [← nI_add p 1, ← nI_add (ga_up _ _), ← pk_mul, ← pk_sub (Nat.le_of_not_lt c)] at h9
      exact h9
theorem m_placeOf (hk : k < 12) (hw : ga_wf (F k)) {q : Nat} (hq : q < 2147483648) : gx_call LL xs (d + 3) z_M_placeOf 0 0 [.ref 43, .int (nI k), .int (nI q)] (gm_h pre n μ sp fo pc lp cl tk tc F gv) (fun r h => r = some (.int (nI (ga_po (F k).2.2.2.1 (F k).2.2.2.2 0 (F k).2.2.1 (ga_lb (F k)) q))) ∧ h = (gm_h pre n μ sp fo pc lp cl tk tc F gv)) := by
  have hp := hw.2.2.1
  have h1 : ga_lb (F k) < 10 + 2 * (F k).2.2.1 + 4 := ga_up_lt (by decide)
  exact gs_M_placeOf _ _ _ (gx_run 8 (And.intro ⟨_, rfl⟩ (gx_c1 (gx_le8 rfl) (m_begin hk hp) (m_placeOf_l hk hw _ 0 _ q _ _ _ (Nat.zero_add _) (by omega) hq))))
theorem m_widthOf_l (hk : k < 12) (hw : ga_wf (F k)) : ∀ (m p left : Nat) (L0 : Value), p + m = (F k).2.2.1 → left < 2147483648 →
    gx_E LL xs (gx_call LL xs d) cd_M_widthOf (fun r h => r = some (.int (nI (ga_wo (F k).2.2.2.1 (F k).2.2.2.2 p m left))) ∧ h = (gm_h pre n μ sp fo pc lp cl tk tc F gv)) 4 [some (.ref 43), some (.int (nI k)), some L0, some (.int (nI left)), some (.int (nI p))] [] (gm_h pre n μ sp fo pc lp cl tk tc F gv) 0 0 := by
  intro m
  induction m with
  | zero =>
    intro p left L0 hm hl
    have hp := hw.2.2.1
    exact gx_run 6 (gx_ar k rfl hk (by decide) (And.intro (fun _ => gx_run 2 (And.intro rfl rfl)) (fun c => absurd (nI_le (show (F k).2.2.1 ≤ p by omega) (by omega)) c)))
  | succ m ih =>
    intro p left L0 hm hl
    have hp := hw.2.2.1
    obtain ⟨e1, e2⟩ := ga_dm (f := k) (p := p) (by omega)
    obtain ⟨hwp, hc1, hc2⟩ := hw.2.2.2 p (by omega)
    refine gx_run 6 (gx_ar k rfl hk (by decide) (And.intro (fun c => absurd c (nI_ge (show p < (F k).2.2.1 by omega) (by omega))) (fun _ => gx_run 10 (gx_ar (6 * k + p) (by rw [pk_mul, nI_add]) (by omega) (by decide) ?_))))
    by_cases c : left < (F k).2.2.2.2 p
    · refine And.intro (fun z => absurd z ?_) (fun _ => gx_run 9 (gx_ar (6 * k + p) (by rw [pk_mul, nI_add]) (by omega) (by decide) (And.intro ?_ rfl)))
      · simp only [e1, e2]
        exact nI_ge c (by omega)
      · simp only [e1, e2]
        unfold ga_wo
        rw [if_pos c]
    · refine And.intro (fun _ => gx_run 13 (gx_ar (6 * k + p) (by rw [pk_mul, nI_add]) (by omega) (by decide) ?_)) (fun z => absurd ?_ z)
      · simp only [e1, e2]
        have h9 := ih (p + 1) (left - (F k).2.2.2.2 p) L0 (by omega) (by omega)
        have e : ga_wo (F k).2.2.2.1 (F k).2.2.2.2 p (m + 1) left = ga_wo (F k).2.2.2.1 (F k).2.2.2.2 (p + 1) m (left - (F k).2.2.2.2 p) := by
          rw [ga_wo, if_neg c]
        rw [e]
        rw [← nI_add p 1, ← pk_sub (Nat.le_of_not_lt c)] at h9
        exact h9
      · simp only [e1, e2]
        exact nI_le (Nat.le_of_not_lt c) hl
theorem m_widthOf (hk : k < 12) (hw : ga_wf (F k)) {q : Nat} (hq : q < 2147483648) : gx_call LL xs (d + 1) z_M_widthOf 0 0 [.ref 43, .int (nI k), .int (nI q)] (gm_h pre n μ sp fo pc lp cl tk tc F gv) (fun r h => r = some (.int (nI (ga_wk (F k) q))) ∧ h = (gm_h pre n μ sp fo pc lp cl tk tc F gv)) :=
  gs_M_widthOf _ _ _ (gx_run 4 (m_widthOf_l hk hw _ 0 q _ (Nat.zero_add _) hq))
theorem ga_ls_le {f : ga_F} (hw : ga_wf f) : ga_ls f ≤ 1530 := by
  have h : ∀ p, p ≤ f.2.2.1 → ga_lc f.2.2.2.2 p ≤ 255 * p := by
    intro p
    induction p with
    | zero => intro _; exact Nat.zero_le _
    | succ p ih =>
      intro hp
      have h1 := ih (by omega)
      have h2 := (hw.2.2.2 p (by omega)).2.2
      show ga_lc f.2.2.2.2 p + f.2.2.2.2 p ≤ _
      omega
  have h1 := h _ (Nat.le_refl _)
  have h2 := hw.2.2.1
  unfold ga_ls
  omega
theorem ga_fl_8000 {f : ga_F} (hw : ga_wf f) : ga_fl f.2.2.2.1 f.2.2.2.2 0 f.2.2.1 (ga_lb f) ≤ 8000 := by
  have h1 : ga_lb f < 10 + 2 * f.2.2.1 + 4 := ga_up_lt (by decide)
  have h2 := hw.2.2.1
  have h3 := ga_fl_le (wd := f.2.2.2.1) (ct := f.2.2.2.2) (m := f.2.2.1) (i := 0) (at_ := ga_lb f) (fun j _ h => ⟨(hw.2.2.2 j (by omega)).1, (hw.2.2.2 j (by omega)).2.2⟩)
  omega
theorem m_lengthOf (hk : k < 12) (hw : ga_wf (F k)) : gx_call LL xs (d + 4) z_M_lengthOf 0 0 [.ref 43, .int (nI k)] (gm_h pre n μ sp fo pc lp cl tk tc F gv) (fun r h => r = some (.int (nI (ga_len (F k)))) ∧ h = (gm_h pre n μ sp fo pc lp cl tk tc F gv)) := by
  have h1 := ga_ls_le hw
  have h2 := ga_fl_8000 hw
  have hc := m_placeOf (LL := LL) (xs := xs) (d := d) (pre := pre) (n := n) (μ := μ) (sp := sp) (fo := fo) (pc := pc) (lp := lp) (cl := cl) (tk := tk) (tc := tc) (gv := gv) hk hw (q := ga_ls (F k)) (by omega)
  rw [ga_po_end] at hc
  exact gs_M_lengthOf _ _ (gx_run 9 (And.intro ⟨_, rfl⟩ (gx_c1 (gx_le8 rfl) (m_locals hk hw.2.2.1) (And.intro ⟨_, rfl⟩ (gx_c1 (gx_le8 rfl) hc (gx_c1 (gx_le8 rfl) (m_up (by decide) (by decide) (by omega)) (And.intro rfl rfl)))))))
theorem m_room (hk : k < 12) (hw : ga_wf (F k)) {m : Nat} : gx_call LL xs (d + 5) z_M_room 0 0 [.ref 43, .int (nI k), .int (nI m)] (gm_h pre n μ sp fo pc lp cl tk tc F gv) (fun r h => r = some (.int (nI (ga_room (F k) m))) ∧ h = (gm_h pre n μ sp fo pc lp cl tk tc F gv)) := by
  refine gs_M_room _ _ _ (gx_run 9 (And.intro ⟨_, rfl⟩ (gx_c1 (gx_le8 rfl) (m_lengthOf hk hw) (gx_ar k rfl hk (by decide) ?_))))
  have h255 := hw.1
  by_cases h : (F k).1 = 192
  · refine And.intro (fun c => absurd (show nI (F k).1 = nI 192 by rw [h]) c) (fun _ => gx_run 8 (And.intro ?_ rfl))
    rw [nI_add, pk_mul, nI_add]
    unfold ga_room
    rw [if_pos h]
  · refine And.intro (fun _ => gx_run 3 (And.intro ?_ rfl)) (fun c => absurd ((nI_eq (by omega) (by decide)).mp c) h)
    unfold ga_room
    rw [if_neg h, nI_add]
theorem m_told_n (x w : Int32) (hx : x < 0 ∨ nI 12 ≤ x) : gx_call LL xs (d + 2) z_M_told 0 0 [.ref 43, .int x, .int w] (gm_h pre n μ sp fo pc lp cl tk tc F gv) (fun r h => r = some (.int (-(nI 1))) ∧ h = (gm_h pre n μ sp fo pc lp cl tk tc F gv)) :=
  gs_M_told _ _ _ (gx_run 3 (gx_c1 (gx_le8 rfl) (m_isFunction_f hx) (And.intro (fun _ => gx_run 2 (And.intro rfl rfl)) (fun c => absurd rfl c))))
theorem m_told (x : Int32) (hk : k < 12) (hw : ga_wf (F k)) : gx_call LL xs (d + 5) z_M_told 0 0 [.ref 43, .int (nI k), .int x] (gm_h pre n μ sp fo pc lp cl tk tc F gv) (fun r h => r = some (.int (ga_td (F k) x)) ∧ h = (gm_h pre n μ sp fo pc lp cl tk tc F gv)) := by
  refine gs_M_told _ _ _ (gx_run 3 (gx_c1 (gx_le8 rfl) (m_isFunction_t hk) (And.intro (fun c => absurd c (by decide)) (fun _ => gx_run 6 (And.intro (gx_le8 rfl) (And.intro (fun c => And.intro (fun _ => ?_) (fun z => absurd z (by decide))) (fun c => And.intro (fun z => absurd rfl z) (fun _ => gx_run 2 (And.intro ?_ rfl)))))))))
  · obtain ⟨j, hj, rfl⟩ := ga_in (by decide) c
    refine gx_run 2 (And.intro (fun c => ?_) (And.intro (fun c => ?_) (And.intro (fun c => ?_) (And.intro (fun c => ?_) (And.intro (fun c => ?_) trivial)))))
    · have c0 : ¬ nI j = nI 0 := c 0 (by decide)
      have c1 : ¬ nI j = nI 1 := c 1 (by decide)
      have c2 : ¬ nI j = nI 2 := c 2 (by decide)
      have c3 : ¬ nI j = nI 3 := c 3 (by decide)
      obtain rfl : j = 4 := by
        rcases (show j = 0 ∨ j = 1 ∨ j = 2 ∨ j = 3 ∨ j = 4 by omega) with rfl | rfl | rfl | rfl | rfl <;> first | contradiction | rfl
      exact gx_run 4 (And.intro ⟨_, rfl⟩ (gx_c1 (gx_le8 rfl) (m_begin hk hw.2.2.1) (And.intro rfl rfl)))
    · rw [show nI j = nI 0 from c]
      exact gx_run 5 (gx_ar k rfl hk (by decide) (And.intro rfl rfl))
    · rw [show nI j = nI 1 from c]
      exact gx_run 5 (gx_ar k rfl hk (by decide) (And.intro rfl rfl))
    · rw [show nI j = nI 2 from c]
      exact gx_run 4 (And.intro ⟨_, rfl⟩ (gx_c1 (gx_le8 rfl) (m_locals hk hw.2.2.1) (And.intro rfl rfl)))
    · rw [show nI j = nI 3 from c]
      exact gx_run 4 (And.intro ⟨_, rfl⟩ (gx_c1 (gx_le8 rfl) (m_lengthOf hk hw) (And.intro rfl rfl)))
  · have h := ga_ni (by decide) c
    unfold ga_td
    rw [if_neg (h 0 (by decide)), if_neg (h 1 (by decide)), if_neg (h 2 (by decide)), if_neg (h 3 (by decide)), if_neg (h 4 (by decide))]
theorem m_local_n (x q : Int32) (hx : x < 0 ∨ nI 12 ≤ x) : gx_call LL xs (d + 2) z_M_local 0 0 [.ref 43, .int x, .int q] (gm_h pre n μ sp fo pc lp cl tk tc F gv) (fun r h => r = some (.int (-(nI 1))) ∧ h = (gm_h pre n μ sp fo pc lp cl tk tc F gv)) :=
  gs_M_local _ _ _ (gx_run 3 (gx_c1 (gx_le8 rfl) (m_isFunction_f hx) (And.intro (fun _ => gx_run 2 (And.intro rfl rfl)) (fun c => absurd rfl c))))
theorem m_local_m (x : Int32) (hk : k < 12) (hw : ga_wf (F k)) (hx : x < 0) : gx_call LL xs (d + 4) z_M_local 0 0 [.ref 43, .int (nI k), .int x] (gm_h pre n μ sp fo pc lp cl tk tc F gv) (fun r h => r = some (.int (-(nI 1))) ∧ h = (gm_h pre n μ sp fo pc lp cl tk tc F gv)) :=
  gs_M_local _ _ _ (gx_run 3 (gx_c1 (gx_le8 rfl) (m_isFunction_t hk) (And.intro (fun c => absurd c (by decide)) (fun _ => gx_run 11 (And.intro ⟨_, rfl⟩ (gx_c1 (gx_le8 rfl) (m_locals hk hw.2.2.1) (And.intro (gx_le8 rfl) (And.intro (fun c => absurd hx ((ga_i64b _ _).mp c).1) (fun c => And.intro (fun _ => gx_run 2 (And.intro rfl rfl)) (fun z => absurd rfl z))))))))))
theorem m_local {q : Nat} (hk : k < 12) (hw : ga_wf (F k)) (hq : q < 2147483648) : gx_call LL xs (d + 4) z_M_local 0 0 [.ref 43, .int (nI k), .int (nI q)] (gm_h pre n μ sp fo pc lp cl tk tc F gv) (fun r h => r = some (.int (ga_fp (ga_pl (F k).2.2.2.1 (F k).2.2.2.2 0 (F k).2.2.1 0 q))) ∧ h = (gm_h pre n μ sp fo pc lp cl tk tc F gv)) := by
  have hls := ga_ls_le hw
  refine gs_M_local _ _ _ (gx_run 3 (gx_c1 (gx_le8 rfl) (m_isFunction_t hk) (And.intro (fun c => absurd c (by decide)) (fun _ => gx_run 11 (And.intro ⟨_, rfl⟩ (gx_c1 (gx_le8 rfl) (m_locals hk hw.2.2.1) (And.intro (gx_le8 rfl) (And.intro (fun c => And.intro (fun z => absurd z (by decide)) (fun _ => ?_)) (fun c => And.intro (fun _ => gx_run 2 (And.intro ?_ rfl)) (fun z => absurd rfl z))))))))))
  · have h := (ga_i64b _ _).mp c
    have hq2 : q < ga_ls (F k) := by
      have h2 := h.2
      rw [Int32.lt_iff_toInt_lt, nI_toInt hq, pk_sub_toInt (by omega) (by omega)] at h2
      omega
    have hc := m_placeOf (LL := LL) (xs := xs) (d := d) (pre := pre) (n := n) (μ := μ) (sp := sp) (fo := fo) (pc := pc) (lp := lp) (cl := cl) (tk := tk) (tc := tc) (gv := gv) hk hw hq
    rw [ga_po_in hw hq2] at hc
    rw [(ga_pc_in hw hq2).1]
    refine gx_run 10 (And.intro ⟨_, rfl⟩ (gx_c1 (gx_le8 rfl) hc (And.intro ⟨_, rfl⟩ (gx_c1 (gx_le8 rfl) (m_begin hk hw.2.2.1) (And.intro ?_ rfl)))))
    rw [pk_sub (Nat.le_add_right _ _), Nat.add_sub_cancel_left]
    rfl
  · have hq2 : ga_ls (F k) ≤ q := by
      rcases Nat.lt_or_ge q (ga_ls (F k)) with z | z
      · refine absurd ((ga_i64b _ _).mpr ⟨nI_pos hq, ?_⟩) c
        rw [Int32.lt_iff_toInt_lt, nI_toInt hq, pk_sub_toInt (by omega) (by omega)]
        omega
      · exact z
    rw [ga_pl_none _ _ _ _ (by rw [Nat.zero_add]; exact Nat.le_trans hq2 (Nat.le_add_right _ _))]
    rfl
end GMB
end
section
/-! The reference: what changes its state in small steps. -/
theorem ga_i64c (x : Int32) (a c : Nat) (ha : a < 2147483648) (hc : c < 2147483648) : (lN a ≤ x.toInt64 ∧ x.toInt64 ≤ lN c) ↔ ¬ x < nI a ∧ ¬ nI c < x := by
  rw [Int64.le_iff_toInt_le, Int64.le_iff_toInt_le, Int32.toInt_toInt64, lN_toInt ha, lN_toInt hc, Int32.lt_iff_toInt_lt, Int32.lt_iff_toInt_lt, nI_toInt ha, nI_toInt hc]
  omega
def ga_bs (μ : Nat → Nat) (tk : Nat → Nat) (f : Nat) : Nat → Nat
  | 0 => f + ga_w μ f
  | i + 1 => if f < tk i then tk i else ga_bs μ tk f i
theorem ga_bs_low {μ tk : Nat → Nat} {f : Nat} : ∀ {c : Nat}, (∀ i, i < c → tk i ≤ f) → ga_bs μ tk f c = f + ga_w μ f
  | 0, _ => rfl
  | c + 1, h => by
    unfold ga_bs
    rw [if_neg (Nat.not_lt.mpr (h c (by omega)))]
    exact ga_bs_low fun i hi => h i (by omega)
theorem ga_bs_base {μ tk : Nat → Nat} {f : Nat} : ∀ {M : ga_M} {lim : Nat}, ga_mk μ lim M → ga_tk tk M → ga_top M = some f → ga_bs μ tk f (ga_tc M) = ga_base μ M
  | (true, g) :: es, lim, ⟨a, b, c, d, e, h⟩, ht, hf => by
    cases hf
    have := ga_tk_le h ht
    exact ga_bs_low (c := ga_tc es) fun i hi => by have := this i hi; omega
  | (false, t) :: es, lim, ⟨a, b, c, d, e⟩, ⟨t1, t2⟩, hf => by
    have hlt := ga_mk_top e (show ga_top es = some f from hf)
    show ga_bs μ tk f (ga_tc es + 1) = t
    unfold ga_bs
    rw [t1, if_pos (by omega)]
theorem gm_F {pre : Nat → gx_A} {n : Nat} {μ : Nat → Nat} {sp : Nat} {fo : Option Nat} {pc lp : Int32} {cl : Nat → Int32} {tk : Nat → Nat} {tc : Nat} {gv : Nat → Int32} {hd pr wd ct fs : Nat → Int32} {G : Nat → ga_F} (h1 : ∀ f, hd f = nI (G f).1) (h2 : ∀ f, pr f = nI (G f).2.2.1) (h3 : ∀ i, wd i = nI ((G (i / 6)).2.2.2.1 (i % 6))) (h4 : ∀ i, ct i = nI ((G (i / 6)).2.2.2.2 (i % 6))) (h5 : ∀ f, fs f = nI (G f).2.1) :
    gm_q pre n μ sp fo pc lp cl hd pr wd ct fs tk tc gv = gm_h pre n μ sp fo pc lp cl tk tc G gv := by
  obtain rfl := funext h1
  obtain rfl := funext h2
  obtain rfl := funext h3
  obtain rfl := funext h4
  obtain rfl := funext h5
  rfl
section GMC
variable {LL : Nat} {xs : Nat → Int32} {d : Nat} {pre : Nat → gx_A} {n : Nat} {μ : Nat → Nat} {sp : Nat} {fo : Option Nat} {pc lp : Int32} {cl : Nat → Int32} {tk : Nat → Nat} {tc : Nat} {F : Nat → ga_F} {gv : Nat → Int32} {k : Nat} {M : ga_M}
theorem m_function_n (x hd : Int32) (hx : (x < 0 ∨ nI 12 ≤ x) ∨ hd < 0 ∨ nI 255 < hd) : gx_call LL xs (d + 2) z_M_function 0 0 [.ref 43, .int x, .int hd] (gm_h pre n μ sp fo pc lp cl tk tc F gv) (fun r h => r = some (.int (-(nI 1))) ∧ h = (gm_h pre n μ sp fo pc lp cl tk tc F gv)) := by
  by_cases h : x < 0 ∨ nI 12 ≤ x
  · exact gs_M_function _ _ _ (gx_run 3 (gx_c1 (gx_le8 rfl) (m_isFunction_f h) (And.intro (fun _ => gx_run 2 (And.intro rfl rfl)) (fun c => absurd rfl c))))
  · rcases pk_ix x (n := 12) (by decide) with c | c | ⟨k, hk, rfl⟩
    · exact absurd (Or.inl c) h
    · exact absurd (Or.inr c) h
    · exact gs_M_function _ _ _ (gx_run 3 (gx_c1 (gx_le8 rfl) (m_isFunction_t hk) (And.intro (fun c => absurd c (by decide)) (fun _ => gx_run 6 (And.intro (gx_le8 rfl) (And.intro (fun c => absurd c (ga_nx (by decide) (hx.resolve_left h))) (fun c => And.intro (fun z => absurd rfl z) (fun _ => gx_run 2 (And.intro rfl rfl)))))))))
theorem m_function {hd : Nat} (hk : k < 12) (hh : hd ≤ 255) : gx_call LL xs (d + 2) z_M_function 0 0 [.ref 43, .int (nI k), .int (nI hd)] (gm_h pre n μ sp fo pc lp cl tk tc F gv) (fun r h => r = some (.int (nI 1)) ∧ h = (gm_h pre n μ sp fo pc lp cl tk tc (va_up F k (hd, (F k).2.1, 0, (F k).2.2.2.1, (F k).2.2.2.2)) gv)) := by
  refine gs_M_function _ _ _ (gx_run 3 (gx_c1 (gx_le8 rfl) (m_isFunction_t hk) (And.intro (fun c => absurd c (by decide)) (fun _ => gx_run 6 (And.intro (gx_le8 rfl) (And.intro (fun c => And.intro (fun _ => gx_run 12 (gx_ar k rfl hk (by decide) (gx_ar k rfl hk (by decide) (And.intro rfl (gm_F ?_ ?_ ?_ ?_ ?_))))) (fun z => absurd z (by decide))) (fun c => absurd (ga_yx (by decide) hh) c)))))))
  all_goals intro f; unfold va_up
  · unfold upd; by_cases e : f = k <;> simp [e]
  · unfold upd; by_cases e : f = k <;> simp [e]
  · by_cases e : f / 6 = k <;> simp [e]
  · by_cases e : f / 6 = k <;> simp [e]
  · by_cases e : f = k <;> simp [e]
theorem m_accelerate_n (x c : Int32) (hx : (x < 0 ∨ nI 12 ≤ x) ∨ c < 0 ∨ nI 3 < c) : gx_call LL xs (d + 2) z_M_accelerate 0 0 [.ref 43, .int x, .int c] (gm_h pre n μ sp fo pc lp cl tk tc F gv) (fun r h => r = some (.int (-(nI 1))) ∧ h = (gm_h pre n μ sp fo pc lp cl tk tc F gv)) := by
  by_cases h : x < 0 ∨ nI 12 ≤ x
  · exact gs_M_accelerate _ _ _ (gx_run 3 (gx_c1 (gx_le8 rfl) (m_isFunction_f h) (And.intro (fun _ => gx_run 2 (And.intro rfl rfl)) (fun c => absurd rfl c))))
  · rcases pk_ix x (n := 12) (by decide) with c | c | ⟨k, hk, rfl⟩
    · exact absurd (Or.inl c) h
    · exact absurd (Or.inr c) h
    · exact gs_M_accelerate _ _ _ (gx_run 3 (gx_c1 (gx_le8 rfl) (m_isFunction_t hk) (And.intro (fun c => absurd c (by decide)) (fun _ => gx_run 6 (And.intro (gx_le8 rfl) (And.intro (fun c => absurd c (ga_nx (by decide) (hx.resolve_left h))) (fun c => And.intro (fun z => absurd rfl z) (fun _ => gx_run 2 (And.intro rfl rfl)))))))))
theorem m_accelerate {c : Nat} (hk : k < 12) (hc : c ≤ 3) : gx_call LL xs (d + 2) z_M_accelerate 0 0 [.ref 43, .int (nI k), .int (nI c)] (gm_h pre n μ sp fo pc lp cl tk tc F gv) (fun r h => r = some (.int (nI (F k).2.1)) ∧ h = (gm_h pre n μ sp fo pc lp cl tk tc (va_up F k ((F k).1, c, (F k).2.2.1, (F k).2.2.2.1, (F k).2.2.2.2)) gv)) := by
  refine gs_M_accelerate _ _ _ (gx_run 3 (gx_c1 (gx_le8 rfl) (m_isFunction_t hk) (And.intro (fun c => absurd c (by decide)) (fun _ => gx_run 6 (And.intro (gx_le8 rfl) (And.intro (fun c => And.intro (fun _ => gx_run 12 (gx_ar k rfl hk (by decide) (gx_ar k rfl hk (by decide) (And.intro rfl (gm_F ?_ ?_ ?_ ?_ ?_))))) (fun z => absurd z (by decide))) (fun c => absurd (ga_yx (by decide) hc) c)))))))
  all_goals intro f; unfold va_up
  · by_cases e : f = k <;> simp [e]
  · by_cases e : f = k <;> simp [e]
  · by_cases e : f / 6 = k <;> simp [e]
  · by_cases e : f / 6 = k <;> simp [e]
  · unfold upd; by_cases e : f = k <;> simp [e]
theorem m_format_n (x w c : Int32) (hx : (x < 0 ∨ nI 12 ≤ x) ∨ ¬ (w = nI 1 ∨ w = nI 2 ∨ w = nI 4) ∨ c < nI 1 ∨ nI 255 < c) : gx_call LL xs (d + 2) z_M_format 0 0 [.ref 43, .int x, .int w, .int c] (gm_h pre n μ sp fo pc lp cl tk tc F gv) (fun r h => r = some (.int (-(nI 1))) ∧ h = (gm_h pre n μ sp fo pc lp cl tk tc F gv)) := by
  by_cases h : x < 0 ∨ nI 12 ≤ x
  · exact gs_M_format _ _ _ _ (gx_run 3 (gx_c1 (gx_le8 rfl) (m_isFunction_f h) (And.intro (fun _ => gx_run 2 (And.intro rfl rfl)) (fun c => absurd rfl c))))
  · have hx2 := hx.resolve_left h
    rcases pk_ix x (n := 12) (by decide) with c | c | ⟨k, hk, rfl⟩
    · exact absurd (Or.inl c) h
    · exact absurd (Or.inr c) h
    · refine gs_M_format _ _ _ _ (gx_run 3 (gx_c1 (gx_le8 rfl) (m_isFunction_t hk) (And.intro (fun c => absurd c (by decide)) (fun _ => gx_run 3 (gx_c1 (gx_le8 rfl) (m_isWidth w) ?_)))))
      by_cases hw : w = nI 1 ∨ w = nI 2 ∨ w = nI 4
      · rw [if_pos hw]
        refine And.intro (fun c => absurd c (by decide)) (fun _ => gx_run 6 (And.intro (gx_le8 rfl) (And.intro (fun z => ?_) (fun c => And.intro (fun _ => gx_run 2 (And.intro rfl rfl)) (fun z => absurd rfl z)))))
        have h' := (ga_i64c _ 1 255 (by decide) (by decide)).mp z
        rcases hx2 with h2 | h2 | h2
        · exact absurd hw h2
        · exact absurd h2 h'.1
        · exact absurd h2 h'.2
      · rw [if_neg hw]
        exact And.intro (fun _ => gx_run 2 (And.intro rfl rfl)) (fun c => absurd rfl c)
theorem m_format {w c : Nat} (hk : k < 12) (hw : w = 1 ∨ w = 2 ∨ w = 4) (h1 : 1 ≤ c) (h2 : c ≤ 255) (hp : (F k).2.2.1 ≤ 6) : gx_call LL xs (d + 2) z_M_format 0 0 [.ref 43, .int (nI k), .int (nI w), .int (nI c)] (gm_h pre n μ sp fo pc lp cl tk tc F gv) (fun r h => r = some (.int (if (F k).2.2.1 < 6 then nI ((F k).2.2.1 + 1) else -(nI 1))) ∧
    h = (gm_h pre n μ sp fo pc lp cl tk tc (if (F k).2.2.1 < 6 then va_up F k ((F k).1, (F k).2.1, (F k).2.2.1 + 1, va_up (F k).2.2.2.1 (F k).2.2.1 w, va_up (F k).2.2.2.2 (F k).2.2.1 c) else F) gv)) := by
  have hw2 : nI w = nI 1 ∨ nI w = nI 2 ∨ nI w = nI 4 := by
    rcases hw with rfl | rfl | rfl
    · exact Or.inl rfl
    · exact Or.inr (Or.inl rfl)
    · exact Or.inr (Or.inr rfl)
  refine gs_M_format _ _ _ _ (gx_run 3 (gx_c1 (gx_le8 rfl) (m_isFunction_t hk) (And.intro (fun c => absurd c (by decide)) (fun _ => gx_run 3 (gx_c1 (gx_le8 rfl) (m_isWidth (nI w)) ?_)))))
  rw [if_pos hw2]
  refine And.intro (fun c => absurd c (by decide)) (fun _ => gx_run 6 (And.intro (gx_le8 rfl) (And.intro (fun z => And.intro (fun c => absurd c (by decide)) (fun _ => ?_)) (fun c => absurd ((ga_i64c _ 1 255 (by decide) (by decide)).mpr ⟨nI_nlt h1 (by omega), nI_nlt h2 (by omega)⟩) c))))
  by_cases h6 : (F k).2.2.1 < 6
  · rw [if_pos h6, if_pos h6]
    have ei : nI 6 * nI k + nI (F k).2.2.1 = nI (6 * k + (F k).2.2.1) := by rw [pk_mul, nI_add]
    refine gx_run 6 (gx_ar k rfl hk (by decide) (And.intro (fun _ => ?_) (fun c => absurd ((nI_eq (by omega) (by decide)).mp c) (by omega))))
    refine gx_run 37 (gx_ar k rfl hk (by decide) (gx_ar (6 * k + (F k).2.2.1) ei (by omega) (by decide) (gx_ar k rfl hk (by decide) (gx_ar (6 * k + (F k).2.2.1) ei (by omega) (by decide) (gx_ar k rfl hk (by decide) (gx_ar k rfl hk (by decide) (gx_ar k rfl hk (by decide) (And.intro ?_ (gm_F ?_ ?_ ?_ ?_ ?_)))))))))
    · simp [upd, nI_add]
    all_goals intro f; unfold va_up
    · by_cases e : f = k <;> simp [e]
    · unfold upd; by_cases e : f = k <;> simp [e, nI_add]
    · unfold upd
      by_cases e : f / 6 = k
      · by_cases e2 : f % 6 = (F k).2.2.1
        · rw [if_pos (by omega)]; simp [e, e2]
        · rw [if_neg (by omega)]; simp [e, e2]
      · rw [if_neg (by omega)]; simp [e]
    · unfold upd
      by_cases e : f / 6 = k
      · by_cases e2 : f % 6 = (F k).2.2.1
        · rw [if_pos (by omega)]; simp [e, e2]
        · rw [if_neg (by omega)]; simp [e, e2]
      · rw [if_neg (by omega)]; simp [e]
    · by_cases e : f = k <;> simp [e]
  · rw [if_neg h6, if_neg h6]
    exact gx_run 6 (gx_ar k rfl hk (by decide) (And.intro (fun c => absurd (show nI (F k).2.2.1 = nI 6 by rw [show (F k).2.2.1 = 6 by omega]) c) (fun _ => gx_run 2 (And.intro rfl rfl))))
theorem m_hasFrame_n : gx_call LL xs (d + 1) z_M_hasFrame 0 0 [.ref 43] (gm_h pre n μ sp none pc lp cl tk tc F gv) (fun r h => r = some (.int (nI 0)) ∧ h = (gm_h pre n μ sp none pc lp cl tk tc F gv)) :=
  gs_M_hasFrame _ (gx_run 3 (And.intro (fun _ => gx_run 2 (And.intro (Or.inl rfl) (And.intro rfl rfl))) (fun c => absurd (by decide) c)))
theorem m_hasFrame {f : Nat} (hf : f < 2147483648) : gx_call LL xs (d + 1) z_M_hasFrame 0 0 [.ref 43] (gm_h pre n μ sp (some f) pc lp cl tk tc F gv) (fun r h => r = some (.int (nI 1)) ∧ h = (gm_h pre n μ sp (some f) pc lp cl tk tc F gv)) :=
  gs_M_hasFrame _ (gx_run 3 (And.intro (fun c => absurd c (nI_pos hf)) (fun _ => gx_run 3 (And.intro (Or.inr rfl) (And.intro rfl rfl)))))
theorem m_base_l {f : Nat} (hf : f < 2147483648) (hc : tc ≤ 64) (ht : ∀ i, i < tc → tk i < 2147483648) : ∀ (q i : Nat), i + q = tc →
    gx_E LL xs (gx_call LL xs d) cd_M_base (fun r h => r = some (.int (nI (ga_bs μ tk f tc))) ∧ h = (gm_h pre n μ sp (some f) pc lp cl tk tc F gv)) 11 [some (.ref 43), some (.int (nI (ga_bs μ tk f i))), some (.int (nI i))] [] (gm_h pre n μ sp (some f) pc lp cl tk tc F gv) 0 0 := by
  intro q
  induction q with
  | zero =>
    intro i hq
    obtain rfl : i = tc := by omega
    exact gx_run 4 (And.intro (fun _ => gx_run 2 (And.intro rfl rfl)) (fun c => absurd (nI_le (Nat.le_refl i) (by omega)) c))
  | succ q ih =>
    intro i hq
    have h9 := ih (i + 1) (by omega)
    have hti := ht i (by omega)
    rw [ga_bs, ← nI_add i 1] at h9
    refine gx_run 4 (And.intro (fun c => absurd c (nI_ge (show i < tc by omega) (by omega))) (fun _ => gx_run 7 (gx_ar i rfl (show i < 64 by omega) (by decide) ?_)))
    by_cases c : f < tk i
    · rw [if_pos c] at h9
      exact And.intro (fun z => absurd z (nI_ge c hti)) (fun _ => gx_run 8 (gx_ar i rfl (show i < 64 by omega) (by decide) h9))
    · rw [if_neg c] at h9
      exact And.intro (fun _ => gx_run 4 h9) (fun z => absurd (nI_le (Nat.le_of_not_lt c) hf) z)
theorem m_base {f : Nat} (hmk : ga_mk μ sp M) (htk : ga_tk tk M) (hs : sp ≤ 1024) (hf : ga_top M = some f) : gx_call LL xs (d + 2) z_M_base 0 0 [.ref 43] (gm_h pre n μ sp (ga_top M) pc lp cl tk (ga_tc M) F gv) (fun r h => r = some (.int (nI (ga_base μ M))) ∧ h = (gm_h pre n μ sp (ga_top M) pc lp cl tk (ga_tc M) F gv)) := by
  have hft := ga_mk_top hmk hf
  have hcnt := ga_tc_le hmk
  have htl := ga_tk_le hmk htk
  have h9 := m_base_l (LL := LL) (xs := xs) (d := d + 1) (pre := pre) (n := n) (μ := μ) (sp := sp) (f := f) (pc := pc) (lp := lp) (cl := cl) (tk := tk) (tc := ga_tc M) (F := F) (gv := gv) (by omega) (by omega) (fun i hi => by have := htl i hi; omega) (ga_tc M) 0 (Nat.zero_add _)
  rw [ga_bs_base hmk htk hf] at h9
  rw [show ga_bs μ tk f 0 = f + ga_w μ f from rfl, ← nI_add f, ← ga_rdw] at h9
  rw [hf]
  exact gs_M_base _ (gx_run 11 (And.intro ⟨_, rfl⟩ (gx_c1 (gx_le8 rfl) (m_read (by omega)) h9)))
theorem m_values {f : Nat} (hmk : ga_mk μ sp M) (htk : ga_tk tk M) (hs : sp ≤ 1024) (hf : ga_top M = some f) : gx_call LL xs (d + 3) z_M_values 0 0 [.ref 43] (gm_h pre n μ sp (ga_top M) pc lp cl tk (ga_tc M) F gv) (fun r h => r = some (.int (nI (ga_vc μ sp M))) ∧ h = (gm_h pre n μ sp (ga_top M) pc lp cl tk (ga_tc M) F gv)) := by
  refine gs_M_values _ (gx_run 8 (And.intro ⟨_, rfl⟩ (gx_c1 (gx_le8 rfl) (m_base hmk htk hs hf) (And.intro (by decide) (And.intro ?_ rfl)))))
  rw [pk_sub (ga_base_le hmk), pk_div (by omega) (by decide) (by decide)]
  unfold ga_vc
  rw [hf]
theorem m_lengthAt {f : Nat} (hf : f + 4 ≤ 1024) : gx_call LL xs (d + 2) z_M_lengthAt 0 0 [.ref 43, .int (nI f)] (gm_h pre n μ sp fo pc lp cl tk tc F gv) (fun r h => r = some (.int (nI (ga_w μ f))) ∧ h = (gm_h pre n μ sp fo pc lp cl tk tc F gv)) := by
  rw [← ga_rdw]
  exact gs_M_lengthAt _ _ (gx_run 5 (And.intro ⟨_, rfl⟩ (gx_c1 (gx_le8 rfl) (m_read hf) (And.intro rfl rfl))))
theorem m_localsAt {f : Nat} (hf : f + 8 ≤ 1024) : gx_call LL xs (d + 2) z_M_localsAt 0 0 [.ref 43, .int (nI f)] (gm_h pre n μ sp fo pc lp cl tk tc F gv) (fun r h => r = some (.int (nI (ga_w μ (f + 4)))) ∧ h = (gm_h pre n μ sp fo pc lp cl tk tc F gv)) := by
  have hc := m_read (LL := LL) (xs := xs) (d := d) (pre := pre) (n := n) (μ := μ) (sp := sp) (fo := fo) (pc := pc) (lp := lp) (cl := cl) (tk := tk) (tc := tc) (F := F) (gv := gv) (a := f + 4) (w := 4) (by omega)
  rw [← nI_add, ga_rdw] at hc
  exact gs_M_localsAt _ _ (gx_run 7 (And.intro ⟨_, rfl⟩ (gx_c1 (gx_le8 rfl) hc (And.intro rfl rfl))))
theorem m_isPlace (x y : Int32) {h : gx_H} : gx_call LL xs (d + 1) z_M_isPlace 0 0 [.int x, .int y] h (fun r h' => r = some (.int (ga_b (!(decide (x < 0)) && !(decide (y < x))))) ∧ h' = h) := by
  refine gs_M_isPlace _ _ (gx_run 2 (And.intro (fun c => gx_run 2 (And.intro (Or.inl rfl) (And.intro ?_ rfl))) (fun c => gx_run 3 (And.intro (fun c2 => gx_run 2 (And.intro (Or.inl rfl) (And.intro ?_ rfl))) (fun c2 => gx_run 3 (And.intro (Or.inr rfl) (And.intro ?_ rfl)))))))
  · simp [c, ga_b]
  · have c3 : y < x := c2
    simp [c3, ga_b]
  · have c1 : ¬ x < 0 := fun z => absurd z (by first | exact c | exact Int32.not_lt.mpr c)
    have c3 : ¬ y < x := fun z => absurd z (by first | exact c2 | exact Int32.not_lt.mpr c2)
    simp only [c1, c3, ga_b, decide_false, Bool.not_false, Bool.and_true]
theorem m_canGo (way addr : Int32) {fp2 : Option Nat} (hf : ∀ f, fp2 = some f → f + 8 ≤ 1024 ∧ ga_w μ (f + 4) ≤ ga_w μ f) : gx_call LL xs (d + 3) z_M_canGo 0 0 [.ref 43, .int way, .int addr, .int (ga_fp fp2)] (gm_h pre n μ sp fo pc lp cl tk tc F gv) (fun r h => r = some (.int (ga_b (ga_cg μ way addr fp2))) ∧ h = (gm_h pre n μ sp fo pc lp cl tk tc F gv)) := by
  refine gs_M_canGo _ _ _ _ (gx_run 2 (And.intro (fun c => ?_) (And.intro (fun c => ?_) (And.intro (fun c => ?_) (And.intro (fun c => ?_) (And.intro (fun c => ?_) trivial))))))
  · have c0 : ¬ way = nI 0 := c 0 (by decide)
    have c1 : ¬ way = nI 1 := c 1 (by decide)
    have c2 : ¬ way = nI 2 := c 2 (by decide)
    have c3 : ¬ way = nI 3 := c 3 (by decide)
    refine gx_run 2 (And.intro (Or.inl rfl) (And.intro ?_ rfl))
    simp only [ga_cg, if_neg c0, if_neg c1, if_neg c2, if_neg c3, ga_b]
  · have c : way = nI 0 := c
    subst c
    exact gx_run 2 (And.intro (Or.inr rfl) (And.intro rfl rfl))
  · have c : way = nI 1 := c
    subst c
    have e : ga_cg μ (nI 1) addr fp2 = ga_ce addr := rfl
    rw [e]
    refine gx_run 6 (And.intro (gx_le8 rfl) (And.intro (fun c => And.intro (Or.inr rfl) (And.intro ?_ rfl)) (fun c => And.intro (Or.inl rfl) (And.intro ?_ rfl))))
    · obtain ⟨j, hj, rfl⟩ := ga_in (by decide) c
      have h1 : ¬ nI j < 0 := nI_pos (by omega)
      have h2 : ¬ nI 16 ≤ nI j := nI_ge (by omega) (by decide)
      simp only [ga_ce, h1, h2, ga_b, decide_false, Bool.not_false, Bool.and_true]
    · rcases pk_ix addr (n := 16) (by decide) with h | h | ⟨j, hj, rfl⟩
      · simp [ga_ce, h, ga_b]
      · simp [ga_ce, h, ga_b]
      · exact absurd (ga_yx (by decide) (by omega)) c
  · have c : way = nI 2 := c
    subst c
    cases fp2 with
    | none => exact gx_run 2 (And.intro (fun _ => gx_run 2 (And.intro (Or.inl rfl) (And.intro rfl rfl))) (fun c => absurd (by decide) c))
    | some f =>
      obtain ⟨h1, h2⟩ := hf f rfl
      have e : ga_cg μ (nI 2) addr (some f) = ga_il μ f addr (nI 4) := rfl
      rw [e]
      have hc := m_isPlace (LL := LL) (xs := xs) (d := d + 1) addr (nI (ga_w μ f - ga_w μ (f + 4)) - nI 4) (h := (gm_h pre n μ sp fo pc lp cl tk tc F gv))
      rw [← pk_sub h2] at hc
      refine gx_run 2 (And.intro (fun c => absurd c (nI_pos (by omega))) (fun _ => gx_run 12 (And.intro ⟨_, rfl⟩ (gx_c1 (gx_le8 rfl) (m_lengthAt (by omega)) (And.intro ⟨_, rfl⟩ (gx_c1 (gx_le8 rfl) (m_localsAt h1) (gx_c1 (gx_le8 rfl) hc ?_)))))))
      rw [pk_sub h2]
      show (ga_b (ga_il μ f addr (nI 4)) = 0 → _) ∧ (¬ ga_b (ga_il μ f addr (nI 4)) = 0 → _)
      cases ga_il μ f addr (nI 4) with
      | true => exact And.intro (fun c => absurd c (by decide)) (fun _ => gx_run 3 (And.intro (Or.inr rfl) (And.intro rfl rfl)))
      | false => exact And.intro (fun _ => gx_run 2 (And.intro (Or.inl rfl) (And.intro rfl rfl))) (fun c => absurd rfl c)
  · have c : way = nI 3 := c
    subst c
    cases fp2 with
    | none => exact gx_run 2 (And.intro (fun _ => gx_run 2 (And.intro (Or.inl rfl) (And.intro rfl rfl))) (fun c => absurd (by decide) c))
    | some f =>
      obtain ⟨h1, h2⟩ := hf f rfl
      exact gx_run 2 (And.intro (fun c => absurd c (nI_pos (by omega))) (fun _ => gx_run 3 (And.intro (Or.inr rfl) (And.intro rfl rfl))))
theorem m_pushes (v : Int32) (hs : sp + 4 ≤ 1024) : gx_call LL xs (d + 2) z_M_pushes 0 0 [.ref 43, .int v] (gm_h pre n μ sp fo pc lp cl tk tc F gv) (fun r h => r = none ∧ h = (gm_h pre n (ga_wr μ sp 4 v) (sp + 4) fo pc lp cl tk tc F gv)) := by
  refine gs_M_pushes _ _ (gx_run 13 (And.intro ⟨_, rfl⟩ (gx_c1 (gx_le8 rfl) (m_write v hs) (And.intro rfl ?_))))
  rw [nI_add]
  rfl
theorem m_go (way addr v : Int32) (hs : sp ≤ 1024) (hf : ∀ f, fo = some f → f + 8 ≤ 1024 ∧ f + ga_w μ f ≤ 1024) (hcg : ga_cg μ way addr fo = true) (h3 : way = nI 3 → sp + 4 ≤ 1024) :
    gx_call LL xs (d + 3) z_M_go 0 0 [.ref 43, .int way, .int addr, .int v] (gm_h pre n μ sp fo pc lp cl tk tc F gv) (fun r h => r = none ∧ h = (gm_h pre n (ga_g1 μ sp fo way addr v) (ga_g2 sp way) fo pc lp (ga_g3 cl way addr v) tk tc F gv)) := by
  refine gs_M_go _ _ _ _ (gx_run 3 (And.intro (fun c1 => gx_run 3 (And.intro (fun c2 => gx_run 3 (And.intro (fun c3 => ?_) (fun c => ?_))) (fun c => ?_))) (fun c => ?_)))
  · have c1 : ¬ way = nI 1 := c1
    have c2 : ¬ way = nI 2 := c2
    have c3 : ¬ way = nI 3 := c3
    simp only [ga_g1, ga_g2, ga_g3, if_neg c1, if_neg c2, if_neg c3]
    exact gx_run 1 (And.intro rfl rfl)
  · have c : way = nI 3 := c
    subst c
    exact gx_run 4 (And.intro ⟨_, rfl⟩ (gx_c1 (gx_le8 rfl) (m_pushes v (h3 rfl)) (And.intro rfl rfl)))
  · have c : way = nI 2 := c
    subst c
    cases fo with
    | none => exact Bool.noConfusion (show false = true from hcg)
    | some f =>
      obtain ⟨h1, h2⟩ := hf f rfl
      obtain ⟨p, rfl, hp⟩ := ga_il_of (w := 4) (by omega) (by omega) (show ga_il μ f addr (nI 4) = true from hcg)
      have e : ga_g1 μ sp (some f) (nI 2) (nI p) v = ga_wr μ (f + ga_w μ (f + 4) + p) 4 v := by
        show ga_wr μ (f + ga_w μ (f + 4) + (nI p).toNatClampNeg) 4 v = _
        rw [nI_clamp (by omega)]
      rw [e]
      have hc : gx_call LL xs (d + 2) z_M_write 0 0 [.ref 43, .int (nI f + nI (ga_w μ (f + 4)) + nI p), .int (nI 4), .int v] (gm_h pre n μ sp (some f) pc lp cl tk tc F gv) (fun r h => r = none ∧ h = (gm_h pre n (ga_wr μ (f + ga_w μ (f + 4) + p) 4 v) sp (some f) pc lp cl tk tc F gv)) := by
        rw [nI_add, nI_add]
        exact m_write v (by omega)
      exact gx_run 15 (And.intro ⟨_, rfl⟩ (gx_c1 (gx_le8 rfl) (m_localsAt h1) (And.intro ⟨_, rfl⟩ (gx_c1 (gx_le8 rfl) hc (And.intro rfl rfl)))))
  · have c : way = nI 1 := c
    subst c
    obtain ⟨j, hj, rfl⟩ := ga_ce_of (show ga_ce addr = true from hcg)
    refine gx_run 7 (gx_ar j rfl hj (by decide) (And.intro rfl ?_))
    have e : ga_g3 cl (nI 1) (nI j) v = upd cl j v := by
      show upd cl (nI j).toNatClampNeg v = _
      rw [nI_clamp (by omega)]
    rw [e]
    rfl
theorem m_stub (way addr p : Int32) (hs : sp + 16 ≤ 1024) : gx_call LL xs (d + 3) z_M_stub 0 0 [.ref 43, .int way, .int addr, .int p] (gm_h pre n μ sp fo pc lp cl tk tc F gv) (fun r h => r = none ∧ h = (gm_h pre n (ga_st μ sp way addr p (ga_fp fo)) (sp + 16) fo pc lp cl tk tc F gv)) := by
  have c1 := m_pushes (LL := LL) (xs := xs) (d := d) (pre := pre) (n := n) (μ := μ) (sp := sp) (fo := fo) (pc := pc) (lp := lp) (cl := cl) (tk := tk) (tc := tc) (F := F) (gv := gv) way (by omega)
  have c2 := m_pushes (LL := LL) (xs := xs) (d := d) (pre := pre) (n := n) (μ := ga_wr μ sp 4 way) (sp := sp + 4) (fo := fo) (pc := pc) (lp := lp) (cl := cl) (tk := tk) (tc := tc) (F := F) (gv := gv) addr (by omega)
  have c3 := m_pushes (LL := LL) (xs := xs) (d := d) (pre := pre) (n := n) (μ := ga_wr (ga_wr μ sp 4 way) (sp + 4) 4 addr) (sp := sp + 4 + 4) (fo := fo) (pc := pc) (lp := lp) (cl := cl) (tk := tk) (tc := tc) (F := F) (gv := gv) p (by omega)
  have c4 := m_pushes (LL := LL) (xs := xs) (d := d) (pre := pre) (n := n) (μ := ga_wr (ga_wr (ga_wr μ sp 4 way) (sp + 4) 4 addr) (sp + 4 + 4) 4 p) (sp := sp + 4 + 4 + 4) (fo := fo) (pc := pc) (lp := lp) (cl := cl) (tk := tk) (tc := tc) (F := F) (gv := gv) (ga_fp fo) (by omega)
  exact gs_M_stub _ _ _ _ (gx_run 14 (And.intro ⟨_, rfl⟩ (gx_c1 (gx_le8 rfl) c1 (And.intro ⟨_, rfl⟩ (gx_c1 (gx_le8 rfl) c2 (And.intro ⟨_, rfl⟩ (gx_c1 (gx_le8 rfl) c3 (And.intro ⟨_, rfl⟩ (gx_c1 (gx_le8 rfl) c4 (And.intro rfl rfl))))))))))
theorem m_forget {p c : Nat} (hp : p < 2147483648) (hlow : ∀ c', c = c' + 1 → tk c' < p) : ∀ (m : Nat) (tc : Nat), tc = c + m → tc ≤ 64 → (∀ i, c ≤ i → i < tc → p ≤ tk i ∧ tk i < 2147483648) →
    gx_E LL xs (gx_call LL xs d) cd_M_forget (fun r h => r = none ∧ h = (gm_h pre n μ sp fo pc lp cl tk c F gv)) 0 [some (.ref 43), some (.int (nI p))] [] (gm_h pre n μ sp fo pc lp cl tk tc F gv) 0 0 := by
  intro m
  induction m with
  | zero =>
    intro tc hm hc hi
    obtain rfl : tc = c := by omega
    cases tc with
    | zero => exact gx_run 3 (And.intro (fun _ => gx_run 1 (And.intro rfl rfl)) (fun h => absurd (by decide) h))
    | succ c' =>
      have h1 := hlow c' rfl
      refine gx_run 3 (And.intro (fun h => absurd h (nI_nle (by omega) (by omega))) (fun _ => gx_run 9 (gx_ar c' (pk_sub (Nat.le_add_left 1 c')) (show c' < 64 by omega) (by decide) ?_)))
      exact And.intro (fun _ => gx_run 1 (And.intro rfl rfl)) (fun h => absurd (nI_lt h1 (by omega)) h)
  | succ m ih =>
    intro tc hm hc hi
    obtain ⟨c', rfl⟩ : ∃ c', tc = c' + 1 := ⟨tc - 1, by omega⟩
    have h1 := hi c' (by omega) (by omega)
    refine gx_run 3 (And.intro (fun h => absurd h (nI_nle (by omega) (by omega))) (fun _ => gx_run 9 (gx_ar c' (pk_sub (Nat.le_add_left 1 c')) (show c' < 64 by omega) (by decide) ?_)))
    refine And.intro (fun h => absurd h (nI_nlt h1.1 h1.2)) (fun _ => gx_run 7 ?_)
    have e : nI (c' + 1) - nI 1 = nI c' := pk_sub (Nat.le_add_left 1 c')
    have h9 := ih c' (by omega) (by omega) (fun i a b => hi i a (by omega))
    rw [show (gm_h pre n μ sp fo pc lp cl tk c' F gv) = (gm_h pre n μ sp fo pc lp cl tk (c' + 1) F gv).set 43 (.inr (.inr (3, [.int (nI n), .ref 44, .int (nI sp), .int (ga_fp fo), .int pc, .ref 45, .ref 46, .ref 47, .ref 48, .ref 49, .ref 50, .ref 51, .int (nI (c' + 1) - nI 1), .int lp, .ref 52]))) from by rw [e]; rfl] at h9
    exact h9
theorem m_drop {p c : Nat} (hp : p < 2147483648) (hlow : ∀ c', c = c' + 1 → tk c' < p) (hcc : c ≤ tc) (hc : tc ≤ 64) (hi : ∀ i, c ≤ i → i < tc → p ≤ tk i ∧ tk i < 2147483648) : gx_call LL xs (d + 1) z_M_forget 0 0 [.ref 43, .int (nI p)] (gm_h pre n μ sp fo pc lp cl tk tc F gv) (fun r h => r = none ∧ h = (gm_h pre n μ sp fo pc lp cl tk c F gv)) :=
  gs_M_forget _ _ (m_forget hp hlow (tc - c) tc (by omega) hc hi)
theorem m_result_l {acc m : Nat} (hm : m ≤ 256) (ha : acc = 1 ∨ acc = 2 ∨ acc = 3) : ∀ (q i : Nat), i + q = m → (acc = 2 → 0 < i) →
    gx_E LL xs (gx_call LL xs d) cd_M_result (fun r h => r = some (.int (ga_gb acc gv m)) ∧ h = (gm_h pre n μ sp fo pc lp cl tk tc F gv)) 19 [some (.ref 43), some (.int (nI acc)), some (.int (nI m)), some (.int (ga_gb acc gv i)), some (.int (nI i))] [] (gm_h pre n μ sp fo pc lp cl tk tc F gv) 0 0 := by
  intro q
  induction q with
  | zero =>
    intro i hq h2
    obtain rfl : i = m := by omega
    exact gx_run 3 (And.intro (fun _ => gx_run 2 (And.intro rfl rfl)) (fun c => absurd (nI_le (Nat.le_refl i) (by omega)) c))
  | succ q ih =>
    intro i hq h2
    have h9 := ih (i + 1) (by omega) (fun _ => by omega)
    rw [← nI_add i 1] at h9
    refine gx_run 3 (And.intro (fun c => absurd c (nI_ge (show i < m by omega) (by omega))) (fun _ => gx_run 3 ?_))
    rcases ha with rfl | rfl | rfl
    · exact And.intro (fun c => absurd rfl c) (fun _ => gx_run 10 (gx_ar i rfl (show i < 256 by omega) (by decide) h9))
    · rw [show ga_gb 2 gv (i + 1) = if i = 0 then gv i else ga_gb 2 gv i - gv i from rfl, if_neg (by have := h2 rfl; omega)] at h9
      exact And.intro (fun _ => gx_run 3 (And.intro (fun c => absurd rfl c) (fun _ => gx_run 10 (gx_ar i rfl (show i < 256 by omega) (by decide) h9)))) (fun c => absurd c (by decide))
    · rw [show ga_gb 3 gv (i + 1) = ga_gb 3 gv i + (if 0 < gv i then nI 1 else nI 0) from rfl] at h9
      refine And.intro (fun _ => gx_run 3 (And.intro (fun _ => gx_run 5 (gx_ar i rfl (show i < 256 by omega) (by decide) (And.intro (fun c => ?_) (fun c => ?_)))) (fun c => absurd c (by decide)))) (fun c => absurd c (by decide))
      · have c' : ¬ 0 < gv i := Int32.not_lt.mpr c
        rw [if_neg c', show ∀ x : Int32, x + nI 0 = x from fun x => by rw [nI_0, Int32.add_zero]] at h9
        exact gx_run 4 h9
      · have c' : 0 < gv i := Int32.not_le.mp c
        rw [if_pos c'] at h9
        exact gx_run 7 h9
theorem m_result {acc m : Nat} (hm : m ≤ 256) (ha : acc = 1 ∨ acc = 2 ∨ acc = 3) : gx_call LL xs (d + 1) z_M_result 0 0 [.ref 43, .int (nI acc), .int (nI m)] (gm_h pre n μ sp fo pc lp cl tk tc F gv) (fun r h => r = some (.int (ga_gb acc gv m)) ∧ h = (gm_h pre n μ sp fo pc lp cl tk tc F gv)) := by
  rcases ha with rfl | rfl | rfl
  · exact gs_M_result _ _ _ (gx_run 3 (And.intro (fun _ => gx_run 5 (And.intro (fun _ => gx_run 2 (m_result_l hm (Or.inl rfl) m 0 (Nat.zero_add m) (fun c => absurd c (by decide)))) (fun c => absurd c (by decide)))) (fun c => absurd c (by decide))))
  · refine gs_M_result _ _ _ (gx_run 3 (And.intro (fun c => absurd rfl c) (fun _ => gx_run 2 ?_)))
    cases m with
    | zero => exact And.intro (fun _ => gx_run 5 (And.intro (fun c => absurd rfl c) (fun _ => gx_run 3 (gx_run 3 (And.intro (fun _ => gx_run 2 (And.intro rfl rfl)) (fun c => absurd (by decide) c)))))) (fun c => absurd (by decide) c)
    | succ m => exact And.intro (fun c => absurd c (nI_nle (by omega) (by omega))) (fun _ => gx_run 9 (gx_ar 0 rfl (show 0 < 256 by decide) (by decide) (And.intro (fun c => absurd rfl c) (fun _ => gx_run 3 (m_result_l hm (Or.inr (Or.inl rfl)) m 1 (Nat.add_comm 1 m) (fun _ => by decide))))))
  · exact gs_M_result _ _ _ (gx_run 3 (And.intro (fun _ => gx_run 5 (And.intro (fun _ => gx_run 2 (m_result_l hm (Or.inr (Or.inr rfl)) m 0 (Nat.zero_add m) (fun c => absurd c (by decide)))) (fun c => absurd c (by decide)))) (fun c => absurd c (by decide))))
theorem m_take_l {m : Nat} (hm : 4 * m ≤ sp) (hs : sp ≤ 1024) : ∀ (q i : Nat), i + q = m →
    gx_E LL xs (gx_call LL xs (d + 1)) cd_M_take (fun r h => r = none ∧ h = (gm_h pre n μ sp fo pc lp cl tk tc F (ga_tv μ sp m gv))) 2 [some (.ref 43), some (.int (nI m)), some (.int (nI i))] [] (gm_h pre n μ sp fo pc lp cl tk tc F (ga_tv μ sp i gv)) 0 0 := by
  intro q
  induction q with
  | zero =>
    intro i hq
    obtain rfl : i = m := by omega
    exact gx_run 3 (And.intro (fun _ => gx_run 1 (And.intro rfl rfl)) (fun c => absurd (nI_le (Nat.le_refl i) (by omega)) c))
  | succ q ih =>
    intro i hq
    have hc := m_read (LL := LL) (xs := xs) (d := d) (pre := pre) (n := n) (μ := μ) (sp := sp) (fo := fo) (pc := pc) (lp := lp) (cl := cl) (tk := tk) (tc := tc) (F := F) (gv := ga_tv μ sp i gv) (a := sp - 4 * (i + 1)) (w := 4) (by omega)
    rw [show sp - 4 * (i + 1) = sp - 4 - 4 * i by omega, ← pk_sub (show 4 * i ≤ sp - 4 by omega), ← pk_sub (show 4 ≤ sp by omega), ← pk_mul] at hc
    refine gx_run 3 (And.intro (fun c => absurd c (nI_ge (show i < m by omega) (by omega))) (fun _ => gx_run 17 (And.intro ⟨_, rfl⟩ (gx_c1 (gx_le8 rfl) hc (gx_ar i rfl (show i < 256 by omega) (by omega) ?_)))))
    have h9 := ih (i + 1) (by omega)
    rw [← nI_add i 1, ← ga_tv_s, show sp - 4 * (i + 1) = sp - 4 - 4 * i by omega] at h9
    exact h9
theorem m_take {m : Nat} (hm : 4 * m ≤ sp) (hs : sp ≤ 1024) : gx_call LL xs (d + 2) z_M_take 0 0 [.ref 43, .int (nI m)] (gm_h pre n μ sp fo pc lp cl tk tc F gv) (fun r h => r = none ∧ h = (gm_h pre n μ sp fo pc lp cl tk tc F (ga_tv μ sp m gv))) := by
  have h9 := m_take_l (LL := LL) (xs := xs) (d := d) (pre := pre) (n := n) (μ := μ) (sp := sp) (fo := fo) (pc := pc) (lp := lp) (cl := cl) (tk := tk) (tc := tc) (F := F) (gv := gv) hm hs m 0 (Nat.zero_add m)
  rw [ga_tv_0] at h9
  exact gs_M_take _ _ (gx_run 2 h9)
end GMC
end
section
/-! The reference: values, locals, what can be seen. -/
theorem ga_by4 {μ ν : Nat → Nat} {a b : Nat} {v : Int32} {j : Nat} (hj : j < 4) : ga_wr μ a 4 v (a + j) = ga_wr ν b 4 v (b + j) := by
  rcases (show j = 0 ∨ j = 1 ∨ j = 2 ∨ j = 3 by omega) with rfl | rfl | rfl | rfl <;> simp [ga_wr, va_up]
/-- m words laid from a on, word i at place i + u, counted round -/
def ga_sg (m u i : Nat) : Nat := if i + u < m then i + u else i + u - m
def ga_wq (a m u : Nat) (V : Nat → Int32) (μ : Nat → Nat) : Nat → (Nat → Nat)
  | 0 => μ
  | i + 1 => ga_wr (ga_wq a m u V μ i) (a + 4 * ga_sg m u i) 4 (V i)
theorem ga_sg_lt {m u i : Nat} (hu : u < m) (hi : i < m) : ga_sg m u i < m := by
  unfold ga_sg
  split <;> omega
theorem ga_wq_out {a m u : Nat} {V : Nat → Int32} {μ : Nat → Nat} (hu : u < m) : ∀ {k i : Nat}, k ≤ m → (i < a ∨ a + 4 * m ≤ i) → ga_wq a m u V μ k i = μ i
  | 0, _, _, _ => rfl
  | k + 1, i, hk, h => by
    have := ga_sg_lt (i := k) hu (by omega)
    show ga_wr _ _ _ _ i = _
    rw [ga_wr_out (by omega)]
    exact ga_wq_out hu (by omega) h
theorem ga_wq_lt {a m u : Nat} {V : Nat → Int32} {μ : Nat → Nat} (h : ∀ i, μ i < 256) : ∀ k i, ga_wq a m u V μ k i < 256
  | 0, i => h i
  | k + 1, i => ga_wr_lt (ga_wq_lt h k) i
theorem ga_wq_at {a m u : Nat} {V : Nat → Int32} {μ : Nat → Nat} (hu : u < m) {q j : Nat} (hj : j < 4) : ∀ {k : Nat}, k ≤ m → q < k → ga_wq a m u V μ k (a + 4 * ga_sg m u q + j) = ga_wr μ 0 4 (V q) (0 + j)
  | k + 1, hk, hq => by
    show ga_wr _ _ _ _ _ = _
    by_cases e : q = k
    · subst e
      exact ga_by4 hj
    · have h1 : ga_sg m u q ≠ ga_sg m u k := by
        unfold ga_sg
        split <;> split <;> omega
      rw [ga_wr_out (by omega)]
      exact ga_wq_at hu hj (by omega) (by omega)
theorem ga_ws_at {a : Nat} {V : Nat → Int32} {μ : Nat → Nat} {q j : Nat} (hj : j < 4) : ∀ {k : Nat}, q < k → ga_ws a V μ k (a + 4 * q + j) = ga_wr μ 0 4 (V q) (0 + j)
  | k + 1, hq => by
    show ga_wr _ _ _ _ _ = _
    by_cases e : q = k
    · subst e
      exact ga_by4 hj
    · rw [ga_wr_out (by omega)]
      exact ga_ws_at hj (by omega)
/-- both ways to roll lay the same bytes -/
theorem ga_wq_ws {μ : Nat → Nat} {sp m u : Nat} (hms : 4 * m ≤ sp) (hu : u < m) : ga_wq (sp - 4 * m) m u (fun i => ga_rd μ (sp - 4 * m + 4 * i) 4) μ m = ga_ws (sp - 4 * m) (ga_rv μ sp m u) μ m := by
  funext i
  by_cases h : i < sp - 4 * m ∨ sp - 4 * m + 4 * m ≤ i
  · rw [ga_wq_out hu (Nat.le_refl m) h, ga_ws_out h]
  · obtain ⟨p, j, hp, hj, rfl⟩ : ∃ p j, p < m ∧ j < 4 ∧ i = sp - 4 * m + 4 * p + j := ⟨(i - (sp - 4 * m)) / 4, (i - (sp - 4 * m)) % 4, by omega, by omega, by omega⟩
    obtain ⟨q, hq, e⟩ : ∃ q, q < m ∧ ga_sg m u q = p := by
      by_cases c : u ≤ p
      · exact ⟨p - u, by omega, by unfold ga_sg; rw [if_pos (by omega)]; omega⟩
      · exact ⟨p + m - u, by omega, by unfold ga_sg; rw [if_neg (by omega)]; omega⟩
    have h1 := ga_wq_at (a := sp - 4 * m) (V := fun i => ga_rd μ (sp - 4 * m + 4 * i) 4) (μ := μ) hu hj (Nat.le_refl m) hq
    rw [e] at h1
    rw [h1, ga_ws_at hj hp]
    have e2 : sp - 4 * m + 4 * q = sp - 4 * (ga_rj m u p + 1) := by
      rw [← e]
      unfold ga_rj ga_sg
      split <;> split <;> omega
    show ga_wr μ 0 4 (ga_rd μ (sp - 4 * m + 4 * q) 4) (0 + j) = ga_wr μ 0 4 (ga_rv μ sp m u p) (0 + j)
    rw [e2]
    rfl
theorem ga_rmn {x m : Nat} (hx : x < 2147483648) (hm : 0 < m) (h2 : m < 2147483648) : nI x - nI x / nI m * nI m = nI (x % m) := by
  have h := Nat.div_add_mod x m
  rw [Nat.mul_comm] at h
  rw [pk_div hx hm h2, pk_mul, pk_sub (by omega)]
  congr 1
  omega
theorem ga_md {m u k : Nat} (hu : u < m) (hk : k < m) : (k + u) % m = ga_sg m u k := by
  unfold ga_sg
  by_cases h : k + u < m
  · rw [if_pos h, Nat.mod_eq_of_lt h]
  · rw [if_neg h, Nat.mod_eq_sub_mod (by omega), Nat.mod_eq_of_lt (by omega)]
theorem ga_fm2 (x : Int32) {m : Nat} (hm : 0 < m) (h2 : m < 1000000000) : (x - x / nI m * nI m + nI m) - (x - x / nI m * nI m + nI m) / nI m * nI m = nI (ga_fm x m) := by
  have hr := ga_rem x hm (by omega)
  have hmi : (nI m).toInt = (m : Int) := nI_toInt (by omega)
  obtain ⟨t, ht, h1, hp, hn⟩ := ga_tm x.toInt hm
  have hb : -(m : Int) < x.toInt.tmod m ∧ x.toInt.tmod m < m := by
    rcases Int.le_total 0 x.toInt with h | h
    · have := hp h; omega
    · have := hn h; omega
  have e : x - x / nI m * nI m + nI m = nI (x.toInt.tmod m + m).toNat := by
    refine gx_nIx ?_ (by omega)
    rw [Int32.toInt_add, hr, hmi, ga_bm (by omega) (by omega)]
    omega
  rw [e, ga_rmn (by omega) hm (by omega)]
  congr 1
  unfold ga_fm
  split
  · rw [Nat.mod_eq_of_lt (by omega)]
  · rw [Nat.mod_eq_sub_mod (by omega), Nat.mod_eq_of_lt (by omega)]
    omega
section GMD
variable {LL : Nat} {xs : Nat → Int32} {d : Nat} {pre : Nat → gx_A} {n : Nat} {μ : Nat → Nat} {sp : Nat} {fo : Option Nat} {pc lp : Int32} {cl : Nat → Int32} {tk : Nat → Nat} {tc : Nat} {F : Nat → ga_F} {gv : Nat → Int32} {k : Nat} {M : ga_M}
theorem m_f1 {h : gx_H} : gx_call LL xs (d + 1) z_M_fault 0 0 [.int (nI 1)] h (fun r h' => r = some (.int (-(nI 11))) ∧ h' = h) := by
  have := m_fault (LL := LL) (xs := xs) (d := d) (nI 1) (h := h)
  rw [show -(nI 10) - nI 1 = -(nI 11) by decide] at this
  exact this
theorem m_f2 {h : gx_H} : gx_call LL xs (d + 1) z_M_fault 0 0 [.int (nI 2)] h (fun r h' => r = some (.int (-(nI 12))) ∧ h' = h) := by
  have := m_fault (LL := LL) (xs := xs) (d := d) (nI 2) (h := h)
  rw [show -(nI 10) - nI 2 = -(nI 12) by decide] at this
  exact this
theorem m_f3 {h : gx_H} : gx_call LL xs (d + 1) z_M_fault 0 0 [.int (nI 3)] h (fun r h' => r = some (.int (-(nI 13))) ∧ h' = h) := by
  have := m_fault (LL := LL) (xs := xs) (d := d) (nI 3) (h := h)
  rw [show -(nI 10) - nI 3 = -(nI 13) by decide] at this
  exact this
theorem m_f4 {h : gx_H} : gx_call LL xs (d + 1) z_M_fault 0 0 [.int (nI 4)] h (fun r h' => r = some (.int (-(nI 14))) ∧ h' = h) := by
  have := m_fault (LL := LL) (xs := xs) (d := d) (nI 4) (h := h)
  rw [show -(nI 10) - nI 4 = -(nI 14) by decide] at this
  exact this
theorem m_f5 {h : gx_H} : gx_call LL xs (d + 1) z_M_fault 0 0 [.int (nI 5)] h (fun r h' => r = some (.int (-(nI 15))) ∧ h' = h) := by
  have := m_fault (LL := LL) (xs := xs) (d := d) (nI 5) (h := h)
  rw [show -(nI 10) - nI 5 = -(nI 15) by decide] at this
  exact this
theorem m_f6 {h : gx_H} : gx_call LL xs (d + 1) z_M_fault 0 0 [.int (nI 6)] h (fun r h' => r = some (.int (-(nI 16))) ∧ h' = h) := by
  have := m_fault (LL := LL) (xs := xs) (d := d) (nI 6) (h := h)
  rw [show -(nI 10) - nI 6 = -(nI 16) by decide] at this
  exact this
theorem m_popped : gx_call LL xs (d + 1) z_M_popped 0 0 [.ref 43] (gm_h pre n μ sp fo pc lp cl tk tc F gv) (fun r h => r = some (.int lp) ∧ h = (gm_h pre n μ sp fo pc lp cl tk tc F gv)) :=
  gs_M_popped _ (gx_run 3 (And.intro rfl rfl))
theorem m_push_n (v : Int32) : gx_call LL xs (d + 2) z_M_push 0 0 [.ref 43, .int v] (gm_h pre n μ sp none pc lp cl tk tc F gv) (fun r h => r = some (.int (-(nI 16))) ∧ h = (gm_h pre n μ sp none pc lp cl tk tc F gv)) :=
  gs_M_push _ _ (gx_run 3 (And.intro ⟨_, rfl⟩ (gx_c1 (gx_le8 rfl) m_hasFrame_n (And.intro (fun c => absurd rfl c) (fun _ => gx_run 3 (gx_c1 (gx_le8 rfl) m_f6 (And.intro rfl rfl)))))))
theorem m_push_f (v : Int32) {f : Nat} (hf : f < 2147483648) (hs : sp ≤ n) (hn : n ≤ 1024) (hfull : n < sp + 4) : gx_call LL xs (d + 2) z_M_push 0 0 [.ref 43, .int v] (gm_h pre n μ sp (some f) pc lp cl tk tc F gv) (fun r h => r = some (.int (-(nI 15))) ∧ h = (gm_h pre n μ sp (some f) pc lp cl tk tc F gv)) := by
  refine gs_M_push _ _ (gx_run 3 (And.intro ⟨_, rfl⟩ (gx_c1 (gx_le8 rfl) (m_hasFrame hf) (And.intro (fun _ => ?_) (fun c => absurd c (by decide))))))
  exact gx_run 7 (And.intro (fun c => absurd c (by rw [nI_add]; exact nI_ge hfull (by omega))) (fun _ => gx_run 3 (gx_c1 (gx_le8 rfl) m_f5 (And.intro rfl rfl))))
theorem m_push (v : Int32) {f : Nat} (hmk : ga_mk μ sp M) (htk : ga_tk tk M) (hn : n ≤ 1024) (hf : ga_top M = some f) (hfull : sp + 4 ≤ n) : gx_call LL xs (d + 4) z_M_push 0 0 [.ref 43, .int v] (gm_h pre n μ sp (ga_top M) pc lp cl tk (ga_tc M) F gv) (fun r h => r = some (.int (nI (ga_vc (ga_wr μ sp 4 v) (sp + 4) M))) ∧ h = (gm_h pre n (ga_wr μ sp 4 v) (sp + 4) (ga_top M) pc lp cl tk (ga_tc M) F gv)) := by
  have hlt := ga_top_lt hmk hf
  have hb := ga_base_le hmk
  have hvc := m_values (LL := LL) (xs := xs) (d := d) (pre := pre) (n := n) (pc := pc) (lp := lp) (cl := cl) (F := F) (gv := gv) (ga_mk_wr (v := v) (w := 4) (l2 := sp + 4) hmk (by omega) hb) htk (by omega) hf
  rw [hf] at hvc ⊢
  refine gs_M_push _ _ (gx_run 3 (And.intro ⟨_, rfl⟩ (gx_c1 (gx_le8 rfl) (m_hasFrame (by omega)) (And.intro (fun _ => ?_) (fun c => absurd c (by decide))))))
  refine gx_run 7 (And.intro (fun _ => ?_) (fun c => absurd (by rw [nI_add]; exact nI_le hfull (by omega)) c))
  exact gx_run 6 (And.intro ⟨_, rfl⟩ (gx_c1 (gx_le8 rfl) (m_pushes v (by omega)) (And.intro ⟨_, rfl⟩ (gx_c1 (gx_le8 rfl) hvc (And.intro rfl rfl)))))
theorem ga_e_n {x : Int32} (hx : ¬ x < 0) (hf : ga_top M = none) : ga_e μ sp M x = -(nI 16) := by
  unfold ga_e
  rw [if_neg hx, if_pos hf]
theorem ga_e_s {x : Int32} {f : Nat} (hx : ¬ x < 0) (hf : ga_top M = some f) : ga_e μ sp M x = if nI (ga_vc μ sp M) < x then -(nI 12) else nI 0 := by
  unfold ga_e
  rw [if_neg hx, if_neg (by rw [hf]; exact fun h => by cases h)]
theorem m_pop_e (hmk : ga_mk μ sp M) (htk : ga_tk tk M) (hs : sp ≤ 1024) {y : Int32} (hy : ga_e μ sp M (nI 1) = y) (h0 : ¬ y = 0) : gx_call LL xs (d + 4) z_M_pop 0 0 [.ref 43] (gm_h pre n μ sp (ga_top M) pc lp cl tk (ga_tc M) F gv) (fun r h => r = some (.int y) ∧ h = (gm_h pre n μ sp (ga_top M) pc lp cl tk (ga_tc M) F gv)) := by
  cases hf : ga_top M with
  | none =>
    rw [ga_e_n (by decide) hf] at hy
    subst hy
    exact gs_M_pop _ (gx_run 3 (And.intro ⟨_, rfl⟩ (gx_c1 (gx_le8 rfl) m_hasFrame_n (And.intro (fun c => absurd rfl c) (fun _ => gx_run 3 (gx_c1 (gx_le8 rfl) m_f6 (And.intro rfl rfl)))))))
  | some f =>
    have hlt := ga_top_lt hmk hf
    have hvl := ga_vc_le hmk
    rw [ga_e_s (by decide) hf] at hy
    have hvc := m_values (LL := LL) (xs := xs) (d := d) (pre := pre) (n := n) (pc := pc) (lp := lp) (cl := cl) (F := F) (gv := gv) hmk htk hs hf
    rw [hf] at hvc
    refine gs_M_pop _ (gx_run 3 (And.intro ⟨_, rfl⟩ (gx_c1 (gx_le8 rfl) (m_hasFrame (by omega)) (And.intro (fun _ => gx_run 3 (And.intro ⟨_, rfl⟩ (gx_c1 (gx_le8 rfl) hvc ?_))) (fun c => absurd c (by decide))))))
    by_cases c : nI (ga_vc μ sp M) < nI 1
    · rw [if_pos c] at hy
      subst hy
      have : ga_vc μ sp M = 0 := by
        rcases Nat.eq_zero_or_pos (ga_vc μ sp M) with h | h
        · exact h
        · exact absurd c (nI_nlt h (by omega))
      rw [this]
      exact And.intro (fun c => absurd rfl c) (fun _ => gx_run 3 (gx_c1 (gx_le8 rfl) m_f2 (And.intro rfl rfl)))
    · rw [if_neg c] at hy
      exact absurd hy.symm h0
theorem m_pop (hmk : ga_mk μ sp M) (htk : ga_tk tk M) (hs : sp ≤ 1024) (hy : ga_e μ sp M (nI 1) = nI 0) : gx_call LL xs (d + 4) z_M_pop 0 0 [.ref 43] (gm_h pre n μ sp (ga_top M) pc lp cl tk (ga_tc M) F gv) (fun r h => r = some (.int (nI (ga_vc μ (sp - 4) M))) ∧ h = (gm_h pre n μ (sp - 4) (ga_top M) pc (ga_rd μ (sp - 4) 4) cl tk (ga_tc M) F gv)) := by
  have hvl := ga_vc_le hmk
  obtain ⟨m, f, hm, hm2, hf⟩ := ga_e0 (by omega) hy
  have hlt := ga_top_lt hmk hf
  have hm1 : 1 ≤ ga_vc μ sp M := by
    rw [ga_e_s (by decide) hf] at hy
    rcases Nat.lt_or_ge (ga_vc μ sp M) 1 with c | c
    · rw [if_pos (nI_lt c (by decide))] at hy
      exact absurd hy (by decide)
    · exact c
  have hvc := m_values (LL := LL) (xs := xs) (d := d) (pre := pre) (n := n) (pc := pc) (lp := lp) (cl := cl) (F := F) (gv := gv) hmk htk hs hf
  have hmk2 : ga_mk μ (sp - 4) M := ga_mk_low hmk (by omega) fun _ _ => rfl
  have hvc2 := m_values (LL := LL) (xs := xs) (d := d) (pre := pre) (n := n) (pc := pc) (lp := ga_rd μ (sp - 4) 4) (cl := cl) (F := F) (gv := gv) hmk2 htk (by omega) hf
  have hrd := m_read (LL := LL) (xs := xs) (d := d + 2) (pre := pre) (n := n) (μ := μ) (sp := sp - 4) (fo := some f) (pc := pc) (lp := lp) (cl := cl) (tk := tk) (tc := ga_tc M) (F := F) (gv := gv) (a := sp - 4) (w := 4) (by omega)
  rw [← pk_sub (show 4 ≤ sp by omega)] at hrd
  rw [hf] at hvc hvc2 ⊢
  have e : ∀ l : Int32, (gm_h pre n μ (sp - 4) (some f) pc l cl tk (ga_tc M) F gv) = (gm_h pre n μ sp (some f) pc lp cl tk (ga_tc M) F gv).set 43 (.inr (.inr (3, [.int (nI n), .ref 44, .int (nI sp - nI 4), .int (ga_fp (some f)), .int pc, .ref 45, .ref 46, .ref 47, .ref 48, .ref 49, .ref 50, .ref 51, .int (nI (ga_tc M)), .int l, .ref 52]))) := fun l => by rw [pk_sub (show 4 ≤ sp by omega)]; rfl
  rw [e] at hrd hvc2
  rw [e]
  refine gs_M_pop _ (gx_run 3 (And.intro ⟨_, rfl⟩ (gx_c1 (gx_le8 rfl) (m_hasFrame (by omega)) (And.intro (fun _ => gx_run 3 (And.intro ⟨_, rfl⟩ (gx_c1 (gx_le8 rfl) hvc (And.intro (fun _ => ?_) (fun c => absurd c (nI_ne0 hm1 (by omega))))))) (fun c => absurd c (by decide))))))
  exact gx_run 16 (And.intro ⟨_, rfl⟩ (gx_c1 (gx_le8 rfl) hrd (And.intro ⟨_, rfl⟩ (gx_c1 (gx_le8 rfl) hvc2 (And.intro rfl rfl)))))
theorem m_peek_n (x : Int32) : gx_call LL xs (d + 2) z_M_peek 0 0 [.ref 43, .int x] (gm_h pre n μ sp none pc lp cl tk tc F gv) (fun r h => r = some (.int (-(nI 16))) ∧ h = (gm_h pre n μ sp none pc lp cl tk tc F gv)) :=
  gs_M_peek _ _ (gx_run 3 (And.intro ⟨_, rfl⟩ (gx_c1 (gx_le8 rfl) m_hasFrame_n (And.intro (fun c => absurd rfl c) (fun _ => gx_run 3 (gx_c1 (gx_le8 rfl) m_f6 (And.intro rfl rfl)))))))
theorem ga_inv1 {x : Int32} {v : Nat} (hv : v < 1073741824) : (lN 0 ≤ x.toInt64 ∧ x.toInt64 ≤ (nI v - nI 1).toInt64) ↔ ¬ x < 0 ∧ ¬ nI v ≤ x := by
  rw [ga_i64b, Int32.lt_iff_toInt_lt, Int32.lt_iff_toInt_lt, Int32.le_iff_toInt_le, nI_toInt (show v < 2147483648 by omega), pk_sub_toInt (by omega) (by omega)]
  omega
theorem m_peek_e (x : Int32) {f : Nat} (hmk : ga_mk μ sp M) (htk : ga_tk tk M) (hs : sp ≤ 1024) (hf : ga_top M = some f) (hx : x < 0 ∨ nI (ga_vc μ sp M) ≤ x) : gx_call LL xs (d + 4) z_M_peek 0 0 [.ref 43, .int x] (gm_h pre n μ sp (ga_top M) pc lp cl tk (ga_tc M) F gv) (fun r h => r = some (.int (-(nI 12))) ∧ h = (gm_h pre n μ sp (ga_top M) pc lp cl tk (ga_tc M) F gv)) := by
  have hlt := ga_top_lt hmk hf
  have hvl := ga_vc_le hmk
  have hvc := m_values (LL := LL) (xs := xs) (d := d) (pre := pre) (n := n) (pc := pc) (lp := lp) (cl := cl) (F := F) (gv := gv) hmk htk hs hf
  rw [hf] at hvc ⊢
  refine gs_M_peek _ _ (gx_run 3 (And.intro ⟨_, rfl⟩ (gx_c1 (gx_le8 rfl) (m_hasFrame (by omega)) (And.intro (fun _ => gx_run 10 (And.intro ⟨_, rfl⟩ (gx_c1 (gx_le8 rfl) hvc (And.intro (gx_le8 rfl) (And.intro (fun c => absurd ((ga_inv1 (by omega)).mp c) ?_) (fun c => And.intro (fun z => absurd rfl z) (fun _ => gx_run 3 (gx_c1 (gx_le8 rfl) m_f2 (And.intro rfl rfl))))))))) (fun c => absurd c (by decide))))))
  rintro ⟨h1, h2⟩
  rcases hx with h | h
  · exact h1 h
  · exact h2 h
theorem m_peek {f j : Nat} (hmk : ga_mk μ sp M) (htk : ga_tk tk M) (hs : sp ≤ 1024) (hf : ga_top M = some f) (hj : j < ga_vc μ sp M) : gx_call LL xs (d + 4) z_M_peek 0 0 [.ref 43, .int (nI j)] (gm_h pre n μ sp (ga_top M) pc lp cl tk (ga_tc M) F gv) (fun r h => r = some (.int (nI 1)) ∧ h = (gm_h pre n μ sp (ga_top M) pc (ga_rd μ (sp - 4 * (j + 1)) 4) cl tk (ga_tc M) F gv)) := by
  have hlt := ga_top_lt hmk hf
  have hvl := ga_vc_le hmk
  have hvc := m_values (LL := LL) (xs := xs) (d := d) (pre := pre) (n := n) (pc := pc) (lp := lp) (cl := cl) (F := F) (gv := gv) hmk htk hs hf
  have hrd := m_read (LL := LL) (xs := xs) (d := d + 2) (pre := pre) (n := n) (μ := μ) (sp := sp) (fo := some f) (pc := pc) (lp := lp) (cl := cl) (tk := tk) (tc := ga_tc M) (F := F) (gv := gv) (a := sp - 4 * (j + 1)) (w := 4) (by omega)
  rw [show nI (sp - 4 * (j + 1)) = nI sp - nI 4 - nI 4 * nI j by rw [pk_mul, pk_sub (show 4 ≤ sp by omega), pk_sub (by omega)]; congr 1; omega] at hrd
  rw [hf] at hvc ⊢
  refine gs_M_peek _ _ (gx_run 3 (And.intro ⟨_, rfl⟩ (gx_c1 (gx_le8 rfl) (m_hasFrame (by omega)) (And.intro (fun _ => gx_run 10 (And.intro ⟨_, rfl⟩ (gx_c1 (gx_le8 rfl) hvc (And.intro (gx_le8 rfl) (And.intro (fun c => And.intro (fun _ => ?_) (fun z => absurd z (by decide))) (fun c => absurd ((ga_inv1 (by omega)).mpr ⟨nI_pos (by omega), nI_ge hj (by omega)⟩) c)))))) (fun c => absurd c (by decide))))))
  exact gx_run 15 (And.intro ⟨_, rfl⟩ (gx_c1 (gx_le8 rfl) hrd (And.intro rfl rfl)))
theorem m_copy_e (x : Int32) (hmk : ga_mk μ sp M) (htk : ga_tk tk M) (hs : sp ≤ 1024) {y : Int32} (hy : ga_e μ sp M x = y) (h0 : ¬ y = 0) : gx_call LL xs (d + 4) z_M_copy 0 0 [.ref 43, .int x] (gm_h pre n μ sp (ga_top M) pc lp cl tk (ga_tc M) F gv) (fun r h => r = some (.int y) ∧ h = (gm_h pre n μ sp (ga_top M) pc lp cl tk (ga_tc M) F gv)) := by
  by_cases hx : x < 0
  · unfold ga_e at hy
    rw [if_pos hx] at hy
    subst hy
    exact gs_M_copy _ _ (gx_run 2 (And.intro (fun c => absurd hx (Int32.not_lt.mpr c)) (fun _ => gx_run 2 (And.intro rfl rfl))))
  · refine gs_M_copy _ _ (gx_run 2 (And.intro (fun _ => ?_) (fun c => absurd (Int32.not_lt.mp hx) c)))
    cases hf : ga_top M with
    | none =>
      rw [ga_e_n hx hf] at hy
      subst hy
      exact gx_run 3 (And.intro ⟨_, rfl⟩ (gx_c1 (gx_le8 rfl) m_hasFrame_n (And.intro (fun c => absurd rfl c) (fun _ => gx_run 3 (gx_c1 (gx_le8 rfl) m_f6 (And.intro rfl rfl))))))
    | some f =>
      have hlt := ga_top_lt hmk hf
      have hvl := ga_vc_le hmk
      rw [ga_e_s hx hf] at hy
      have hvc := m_values (LL := LL) (xs := xs) (d := d) (pre := pre) (n := n) (pc := pc) (lp := lp) (cl := cl) (F := F) (gv := gv) hmk htk hs hf
      rw [hf] at hvc
      refine gx_run 3 (And.intro ⟨_, rfl⟩ (gx_c1 (gx_le8 rfl) (m_hasFrame (by omega)) (And.intro (fun _ => gx_run 4 (And.intro ⟨_, rfl⟩ (gx_c1 (gx_le8 rfl) hvc ?_))) (fun c => absurd c (by decide)))))
      by_cases c : nI (ga_vc μ sp M) < x
      · rw [if_pos c] at hy
        subst hy
        exact And.intro (fun z => absurd c (Int32.not_lt.mpr z)) (fun _ => gx_run 3 (gx_c1 (gx_le8 rfl) m_f2 (And.intro rfl rfl)))
      · rw [if_neg c] at hy
        exact absurd hy.symm h0
/-- up to where the room is looked at -/
theorem m_copy_q {m f : Nat} {Q : gx_Q} (hmk : ga_mk μ sp M) (htk : ga_tk tk M) (hs : sp ≤ 1024) (hf : ga_top M = some f) (hm : m ≤ ga_vc μ sp M) (hO : gx_E LL xs (gx_call LL xs (d + 3)) cd_M_copy Q 17 [some (.ref 43), some (.int (nI m)), none, none] [] (gm_h pre n μ sp (ga_top M) pc lp cl tk (ga_tc M) F gv) 0 0) : gx_call LL xs (d + 4) z_M_copy 0 0 [.ref 43, .int (nI m)] (gm_h pre n μ sp (ga_top M) pc lp cl tk (ga_tc M) F gv) Q := by
  have hlt := ga_top_lt hmk hf
  have hvl := ga_vc_le hmk
  have hvc := m_values (LL := LL) (xs := xs) (d := d) (pre := pre) (n := n) (pc := pc) (lp := lp) (cl := cl) (F := F) (gv := gv) hmk htk hs hf
  rw [hf] at hvc hO ⊢
  exact gs_M_copy _ _ (gx_run 2 (And.intro (fun _ => gx_run 3 (And.intro ⟨_, rfl⟩ (gx_c1 (gx_le8 rfl) (m_hasFrame (by omega)) (And.intro (fun _ => gx_run 4 (And.intro ⟨_, rfl⟩ (gx_c1 (gx_le8 rfl) hvc (And.intro (fun _ => hO) (fun c => absurd (nI_le hm (by omega)) c))))) (fun c => absurd c (by decide)))))) (fun c => absurd (nI_pos' (by omega)) c)))
theorem m_copy_f {m f : Nat} (hmk : ga_mk μ sp M) (htk : ga_tk tk M) (hs : sp ≤ n) (hn : n ≤ 1024) (hf : ga_top M = some f) (hm : m ≤ ga_vc μ sp M) (hfull : n < sp + 4 * m) : gx_call LL xs (d + 4) z_M_copy 0 0 [.ref 43, .int (nI m)] (gm_h pre n μ sp (ga_top M) pc lp cl tk (ga_tc M) F gv) (fun r h => r = some (.int (-(nI 15))) ∧ h = (gm_h pre n μ sp (ga_top M) pc lp cl tk (ga_tc M) F gv)) := by
  have hvl := ga_vc_le hmk
  exact m_copy_q hmk htk (by omega) hf hm (gx_run 9 (And.intro (fun c => absurd c (by rw [pk_mul, nI_add]; exact nI_ge hfull (by omega))) (fun _ => gx_run 3 (gx_c1 (gx_le8 rfl) m_f5 (And.intro rfl rfl)))))
theorem m_copy_l {m f : Nat} (hmk : ga_mk μ sp M) (htk : ga_tk tk M) (hs : sp + 4 * m ≤ n) (hms : 4 * m ≤ sp) (hn : n ≤ 1024) (hf : ga_top M = some f) : ∀ (q i : Nat), i + q = m →
    gx_E LL xs (gx_call LL xs (d + 3)) cd_M_copy (fun r h => r = some (.int (nI (ga_vc (ga_cp μ sp m m) (sp + 4 * m) M))) ∧ h = (gm_h pre n (ga_cp μ sp m m) (sp + 4 * m) (ga_top M) pc lp cl tk (ga_tc M) F gv)) 38 [some (.ref 43), some (.int (nI m)), some (.int (nI (sp - 4 * m))), some (.int (nI i))] [] (gm_h pre n (ga_cp μ sp m i) (sp + 4 * i) (ga_top M) pc lp cl tk (ga_tc M) F gv) 0 0 := by
  intro q
  induction q with
  | zero =>
    intro i hq
    obtain rfl : i = m := by omega
    have hb := ga_base_le hmk
    have hmk2 : ga_mk (ga_cp μ sp i i) (sp + 4 * i) M := ga_mk_low hmk (by omega) fun j hj => (ga_cp_low (by omega)).symm
    exact gx_run 3 (And.intro (fun _ => gx_run 3 (And.intro ⟨_, rfl⟩ (gx_c1 (gx_le8 rfl) (m_values hmk2 htk (by omega) hf) (And.intro rfl rfl)))) (fun c => absurd (nI_le (Nat.le_refl i) (by omega)) c))
  | succ q ih =>
    intro i hq
    have hrd := m_read (LL := LL) (xs := xs) (d := d + 2) (pre := pre) (n := n) (μ := ga_cp μ sp m i) (sp := sp + 4 * i) (fo := ga_top M) (pc := pc) (lp := lp) (cl := cl) (tk := tk) (tc := ga_tc M) (F := F) (gv := gv) (a := sp + 4 * i - 4 * m) (w := 4) (by omega)
    rw [show nI (sp + 4 * i - 4 * m) = nI (sp - 4 * m) + nI 4 * nI i by rw [pk_mul, nI_add]; congr 1; omega] at hrd
    refine gx_run 3 (And.intro (fun c => absurd c (nI_ge (show i < m by omega) (by omega))) (fun _ => gx_run 12 (And.intro ⟨_, rfl⟩ (gx_c1 (gx_le8 rfl) hrd (And.intro ⟨_, rfl⟩ (gx_c1 (gx_le8 rfl) (m_pushes _ (show sp + 4 * i + 4 ≤ 1024 by omega)) ?_))))))
    have h9 := ih (i + 1) (by omega)
    rw [← nI_add i 1, show sp + 4 * (i + 1) = sp + 4 * i + 4 by omega] at h9
    exact h9
theorem m_copy {m f : Nat} (hmk : ga_mk μ sp M) (htk : ga_tk tk M) (hn : n ≤ 1024) (hf : ga_top M = some f) (hm : m ≤ ga_vc μ sp M) (hfull : sp + 4 * m ≤ n) : gx_call LL xs (d + 4) z_M_copy 0 0 [.ref 43, .int (nI m)] (gm_h pre n μ sp (ga_top M) pc lp cl tk (ga_tc M) F gv) (fun r h => r = some (.int (nI (ga_vc (ga_cp μ sp m m) (sp + 4 * m) M))) ∧ h = (gm_h pre n (ga_cp μ sp m m) (sp + 4 * m) (ga_top M) pc lp cl tk (ga_tc M) F gv)) := by
  have hvl := ga_vc_le hmk
  have h9 := m_copy_l (LL := LL) (xs := xs) (d := d) (pre := pre) (pc := pc) (lp := lp) (cl := cl) (F := F) (gv := gv) hmk htk hfull (by omega) hn hf m 0 (Nat.zero_add m)
  rw [← pk_sub (show 4 * m ≤ sp by omega), ← pk_mul] at h9
  exact m_copy_q hmk htk (by omega) hf hm (gx_run 9 (And.intro (fun _ => gx_run 9 h9) (fun c => absurd (by rw [pk_mul, nI_add]; exact nI_le hfull (by omega)) c)))
theorem m_roll_e (x b : Int32) (hmk : ga_mk μ sp M) (htk : ga_tk tk M) (hs : sp ≤ 1024) {y : Int32} (hy : ga_e μ sp M x = y) (h0 : ¬ y = 0) : gx_call LL xs (d + 4) z_M_roll 0 0 [.ref 43, .int x, .int b] (gm_h pre n μ sp (ga_top M) pc lp cl tk (ga_tc M) F gv) (fun r h => r = some (.int y) ∧ h = (gm_h pre n μ sp (ga_top M) pc lp cl tk (ga_tc M) F gv)) := by
  by_cases hx : x < 0
  · unfold ga_e at hy
    rw [if_pos hx] at hy
    subst hy
    exact gs_M_roll _ _ _ (gx_run 2 (And.intro (fun c => absurd hx (Int32.not_lt.mpr c)) (fun _ => gx_run 2 (And.intro rfl rfl))))
  · refine gs_M_roll _ _ _ (gx_run 2 (And.intro (fun _ => ?_) (fun c => absurd (Int32.not_lt.mp hx) c)))
    cases hf : ga_top M with
    | none =>
      rw [ga_e_n hx hf] at hy
      subst hy
      exact gx_run 3 (And.intro ⟨_, rfl⟩ (gx_c1 (gx_le8 rfl) m_hasFrame_n (And.intro (fun c => absurd rfl c) (fun _ => gx_run 3 (gx_c1 (gx_le8 rfl) m_f6 (And.intro rfl rfl))))))
    | some f =>
      have hlt := ga_top_lt hmk hf
      have hvl := ga_vc_le hmk
      rw [ga_e_s hx hf] at hy
      have hvc := m_values (LL := LL) (xs := xs) (d := d) (pre := pre) (n := n) (pc := pc) (lp := lp) (cl := cl) (F := F) (gv := gv) hmk htk hs hf
      rw [hf] at hvc
      refine gx_run 3 (And.intro ⟨_, rfl⟩ (gx_c1 (gx_le8 rfl) (m_hasFrame (by omega)) (And.intro (fun _ => gx_run 4 (And.intro ⟨_, rfl⟩ (gx_c1 (gx_le8 rfl) hvc ?_))) (fun c => absurd c (by decide)))))
      by_cases c : nI (ga_vc μ sp M) < x
      · rw [if_pos c] at hy
        subst hy
        exact And.intro (fun z => absurd c (Int32.not_lt.mpr z)) (fun _ => gx_run 3 (gx_c1 (gx_le8 rfl) m_f2 (And.intro rfl rfl)))
      · rw [if_neg c] at hy
        exact absurd hy.symm h0
theorem m_roll_q {m f : Nat} {b : Int32} {Q : gx_Q} (hmk : ga_mk μ sp M) (htk : ga_tk tk M) (hs : sp ≤ 1024) (hf : ga_top M = some f) (hm : m ≤ ga_vc μ sp M) (hO : gx_E LL xs (gx_call LL xs (d + 3)) cd_M_roll Q 17 [some (.ref 43), some (.int (nI m)), some (.int b), none, none, none] [] (gm_h pre n μ sp (ga_top M) pc lp cl tk (ga_tc M) F gv) 0 0) : gx_call LL xs (d + 4) z_M_roll 0 0 [.ref 43, .int (nI m), .int b] (gm_h pre n μ sp (ga_top M) pc lp cl tk (ga_tc M) F gv) Q := by
  have hlt := ga_top_lt hmk hf
  have hvl := ga_vc_le hmk
  have hvc := m_values (LL := LL) (xs := xs) (d := d) (pre := pre) (n := n) (pc := pc) (lp := lp) (cl := cl) (F := F) (gv := gv) hmk htk hs hf
  rw [hf] at hvc hO ⊢
  exact gs_M_roll _ _ _ (gx_run 2 (And.intro (fun _ => gx_run 3 (And.intro ⟨_, rfl⟩ (gx_c1 (gx_le8 rfl) (m_hasFrame (by omega)) (And.intro (fun _ => gx_run 4 (And.intro ⟨_, rfl⟩ (gx_c1 (gx_le8 rfl) hvc (And.intro (fun _ => hO) (fun c => absurd (nI_le hm (by omega)) c))))) (fun c => absurd c (by decide)))))) (fun c => absurd (nI_pos' (by omega)) c)))
theorem m_roll_0 {f : Nat} (b : Int32) (hmk : ga_mk μ sp M) (htk : ga_tk tk M) (hs : sp ≤ 1024) (hf : ga_top M = some f) : gx_call LL xs (d + 4) z_M_roll 0 0 [.ref 43, .int (nI 0), .int b] (gm_h pre n μ sp (ga_top M) pc lp cl tk (ga_tc M) F gv) (fun r h => r = some (.int (nI 1)) ∧ h = (gm_h pre n μ sp (ga_top M) pc lp cl tk (ga_tc M) F gv)) :=
  m_roll_q hmk htk hs hf (Nat.zero_le _) (gx_run 2 (And.intro (fun c => absurd rfl c) (fun _ => gx_run 2 (And.intro rfl rfl))))
def ga_ty (μ : Nat → Nat) (a m : Nat) (gv : Nat → Int32) : Nat → Int32 := fun i => if i < m then ga_rd μ (a + 4 * i) 4 else gv i
theorem ga_ty_s {a m : Nat} : upd (ga_ty μ a m gv) m (ga_rd μ (a + 4 * m) 4) = ga_ty μ a (m + 1) gv := by
  funext i
  unfold upd ga_ty
  by_cases h : i = m
  · subst h; simp
  · rw [if_neg h]
    by_cases h2 : i < m
    · rw [if_pos h2, if_pos (by omega)]
    · rw [if_neg h2, if_neg (by omega)]
theorem ga_ty_0 {a : Nat} : ga_ty μ a 0 gv = gv := by
  funext i
  unfold ga_ty
  rw [if_neg (Nat.not_lt_zero i)]
theorem m_roll_r {m a : Nat} {b : Int32} {Q : gx_Q} (hm : m ≤ 256) (ha : a + 4 * m ≤ 1024) (hO : ∀ (w : Option Value), gx_E LL xs (gx_call LL xs (d + 1)) cd_M_roll Q 47 [some (.ref 43), some (.int (nI m)), some (.int b), some (.int (nI a)), w, none] [] (gm_h pre n μ sp fo pc lp cl tk tc F (ga_ty μ a m gv)) 0 0) : ∀ (q i : Nat), i + q = m →
    gx_E LL xs (gx_call LL xs (d + 1)) cd_M_roll Q 30 [some (.ref 43), some (.int (nI m)), some (.int b), some (.int (nI a)), some (.int (nI i)), none] [] (gm_h pre n μ sp fo pc lp cl tk tc F (ga_ty μ a i gv)) 0 0 := by
  intro q
  induction q with
  | zero =>
    intro i hq
    obtain rfl : i = m := by omega
    exact gx_run 3 (And.intro (fun _ => hO _) (fun c => absurd (nI_le (Nat.le_refl i) (by omega)) c))
  | succ q ih =>
    intro i hq
    have hrd := m_read (LL := LL) (xs := xs) (d := d) (pre := pre) (n := n) (μ := μ) (sp := sp) (fo := fo) (pc := pc) (lp := lp) (cl := cl) (tk := tk) (tc := tc) (F := F) (gv := ga_ty μ a i gv) (a := a + 4 * i) (w := 4) (by omega)
    rw [← nI_add, ← pk_mul] at hrd
    refine gx_run 3 (And.intro (fun c => absurd c (nI_ge (show i < m by omega) (by omega))) (fun _ => gx_run 14 (And.intro ⟨_, rfl⟩ (gx_c1 (gx_le8 rfl) hrd (gx_ar i rfl (show i < 256 by omega) (by decide) ?_)))))
    have h9 := ih (i + 1) (by omega)
    rw [← nI_add i 1, ← ga_ty_s] at h9
    exact h9
theorem m_roll_w {m a u : Nat} {b : Int32} {V : Nat → Int32} (hm : m ≤ 256) (ha : a + 4 * m ≤ 1024) (hu : u < m) (hV : ∀ i, i < m → gv i = V i) : ∀ (q i : Nat), i + q = m →
    gx_E LL xs (gx_call LL xs (d + 1)) cd_M_roll (fun r h => r = some (.int (nI 1)) ∧ h = (gm_h pre n (ga_wq a m u V μ m) sp fo pc lp cl tk tc F gv)) 57 [some (.ref 43), some (.int (nI m)), some (.int b), some (.int (nI a)), some (.int (nI u)), some (.int (nI i))] [] (gm_h pre n (ga_wq a m u V μ i) sp fo pc lp cl tk tc F gv) 0 0 := by
  intro q
  induction q with
  | zero =>
    intro i hq
    obtain rfl : i = m := by omega
    exact gx_run 3 (And.intro (fun _ => gx_run 2 (And.intro rfl rfl)) (fun c => absurd (nI_le (Nat.le_refl i) (by omega)) c))
  | succ q ih =>
    intro i hq
    have hsg := ga_sg_lt (i := i) hu (by omega)
    have hwr := m_write (LL := LL) (xs := xs) (d := d) (pre := pre) (n := n) (μ := ga_wq a m u V μ i) (sp := sp) (fo := fo) (pc := pc) (lp := lp) (cl := cl) (tk := tk) (tc := tc) (F := F) (gv := gv) (a := a + 4 * ga_sg m u i) (w := 4) (gv i) (by omega)
    rw [← nI_add, ← pk_mul, ← ga_md hu (by omega), ← ga_rmn (show i + u < 2147483648 by omega) (by omega) (by omega), ← nI_add i u, ga_md hu (by omega)] at hwr
    refine gx_run 3 (And.intro (fun c => absurd c (nI_ge (show i < m by omega) (by omega))) (fun _ => gx_run 18 (And.intro (nI_ne0 (by omega) (by omega)) (gx_ar i rfl (show i < 256 by omega) (by decide) (And.intro ⟨_, rfl⟩ (gx_c1 (gx_le8 rfl) hwr ?_))))))
    have h9 := ih (i + 1) (by omega)
    rw [← nI_add i 1, ga_wq, ← hV i (by omega)] at h9
    exact h9
theorem m_roll {m f : Nat} (b : Int32) (h1 : 0 < m) (hmk : ga_mk μ sp M) (htk : ga_tk tk M) (hs : sp ≤ 1024) (hf : ga_top M = some f) (hm : m ≤ ga_vc μ sp M) : gx_call LL xs (d + 4) z_M_roll 0 0 [.ref 43, .int (nI m), .int b] (gm_h pre n μ sp (ga_top M) pc lp cl tk (ga_tc M) F gv) (fun r h => r = some (.int (nI 1)) ∧ h = (gm_h pre n (ga_ws (sp - 4 * m) (ga_rv μ sp m (ga_fm b m)) μ m) sp (ga_top M) pc lp cl tk (ga_tc M) F (ga_ty μ (sp - 4 * m) m gv))) := by
  have hvl := ga_vc_le hmk
  have hfm := ga_fm_lt b h1
  rw [← ga_wq_ws (by omega) hfm]
  have hw := m_roll_w (LL := LL) (xs := xs) (d := d + 2) (pre := pre) (n := n) (μ := μ) (sp := sp) (fo := ga_top M) (pc := pc) (lp := lp) (cl := cl) (tk := tk) (tc := ga_tc M) (F := F) (gv := ga_ty μ (sp - 4 * m) m gv) (b := b) (m := m) (a := sp - 4 * m) (u := ga_fm b m) (V := fun i => ga_rd μ (sp - 4 * m + 4 * i) 4) (by omega) (by omega) hfm (fun i hi => if_pos hi) m 0 (Nat.zero_add m)
  have hr := m_roll_r (LL := LL) (xs := xs) (d := d + 2) (pre := pre) (n := n) (μ := μ) (sp := sp) (fo := ga_top M) (pc := pc) (lp := lp) (cl := cl) (tk := tk) (tc := ga_tc M) (F := F) (gv := gv) (b := b) (m := m) (a := sp - 4 * m) (Q := fun r h => r = some (.int (nI 1)) ∧ h = (gm_h pre n (ga_wq (sp - 4 * m) m (ga_fm b m) (fun i => ga_rd μ (sp - 4 * m + 4 * i) 4) μ m) sp (ga_top M) pc lp cl tk (ga_tc M) F (ga_ty μ (sp - 4 * m) m gv))) (by omega) (by omega) (fun w => by
    rw [← ga_fm2 b h1 (by omega)] at hw
    exact gx_run 10 (And.intro (nI_ne0 h1 (by omega)) (And.intro (nI_ne0 h1 (by omega)) hw))) m 0 (Nat.zero_add m)
  rw [← pk_sub (show 4 * m ≤ sp by omega), ← pk_mul, ga_ty_0] at hr
  exact m_roll_q hmk htk hs hf hm (gx_run 2 (And.intro (fun _ => gx_run 9 hr) (fun c => absurd c (nI_ne0 h1 (by omega)))))
end GMD
end
section
/-! The reference: swap, locals, what can be seen. -/
section GME
variable {LL : Nat} {xs : Nat → Int32} {d : Nat} {pre : Nat → gx_A} {n : Nat} {μ : Nat → Nat} {sp : Nat} {fo : Option Nat} {pc lp : Int32} {cl : Nat → Int32} {tk : Nat → Nat} {tc : Nat} {F : Nat → ga_F} {gv : Nat → Int32} {k : Nat} {M : ga_M}
theorem m_swap_e (hmk : ga_mk μ sp M) (htk : ga_tk tk M) (hs : sp ≤ 1024) {y : Int32} (hy : ga_e μ sp M (nI 2) = y) (h0 : ¬ y = 0) : gx_call LL xs (d + 4) z_M_swap 0 0 [.ref 43] (gm_h pre n μ sp (ga_top M) pc lp cl tk (ga_tc M) F gv) (fun r h => r = some (.int y) ∧ h = (gm_h pre n μ sp (ga_top M) pc lp cl tk (ga_tc M) F gv)) := by
  cases hf : ga_top M with
  | none =>
    rw [ga_e_n (by decide) hf] at hy
    subst hy
    exact gs_M_swap _ (gx_run 3 (And.intro ⟨_, rfl⟩ (gx_c1 (gx_le8 rfl) m_hasFrame_n (And.intro (fun c => absurd rfl c) (fun _ => gx_run 3 (gx_c1 (gx_le8 rfl) m_f6 (And.intro rfl rfl)))))))
  | some f =>
    have hlt := ga_top_lt hmk hf
    have hvl := ga_vc_le hmk
    rw [ga_e_s (by decide) hf] at hy
    have hvc := m_values (LL := LL) (xs := xs) (d := d) (pre := pre) (n := n) (pc := pc) (lp := lp) (cl := cl) (F := F) (gv := gv) hmk htk hs hf
    rw [hf] at hvc
    refine gs_M_swap _ (gx_run 3 (And.intro ⟨_, rfl⟩ (gx_c1 (gx_le8 rfl) (m_hasFrame (by omega)) (And.intro (fun _ => gx_run 4 (And.intro ⟨_, rfl⟩ (gx_c1 (gx_le8 rfl) hvc ?_))) (fun c => absurd c (by decide))))))
    by_cases c : nI (ga_vc μ sp M) < nI 2
    · rw [if_pos c] at hy
      subst hy
      exact And.intro (fun z => absurd c (Int32.not_lt.mpr z)) (fun _ => gx_run 3 (gx_c1 (gx_le8 rfl) m_f2 (And.intro rfl rfl)))
    · rw [if_neg c] at hy
      exact absurd hy.symm h0
theorem m_swap {f : Nat} (hmk : ga_mk μ sp M) (htk : ga_tk tk M) (hs : sp ≤ 1024) (hf : ga_top M = some f) (hm : 2 ≤ ga_vc μ sp M) : gx_call LL xs (d + 4) z_M_swap 0 0 [.ref 43] (gm_h pre n μ sp (ga_top M) pc lp cl tk (ga_tc M) F gv) (fun r h => r = some (.int (nI 1)) ∧ h = (gm_h pre n (ga_ws (sp - 4 * 2) (ga_rv μ sp 2 1) μ 2) sp (ga_top M) pc lp cl tk (ga_tc M) F gv)) := by
  have hlt := ga_top_lt hmk hf
  have hvl := ga_vc_le hmk
  rw [← ga_wq_ws (by omega) (by decide)]
  have hvc := m_values (LL := LL) (xs := xs) (d := d) (pre := pre) (n := n) (pc := pc) (lp := lp) (cl := cl) (F := F) (gv := gv) hmk htk hs hf
  have r1 := m_read (LL := LL) (xs := xs) (d := d + 2) (pre := pre) (n := n) (μ := μ) (sp := sp) (fo := some f) (pc := pc) (lp := lp) (cl := cl) (tk := tk) (tc := ga_tc M) (F := F) (gv := gv) (a := sp - 4) (w := 4) (by omega)
  have r2 := m_read (LL := LL) (xs := xs) (d := d + 2) (pre := pre) (n := n) (μ := μ) (sp := sp) (fo := some f) (pc := pc) (lp := lp) (cl := cl) (tk := tk) (tc := ga_tc M) (F := F) (gv := gv) (a := sp - 8) (w := 4) (by omega)
  have w1 := m_write (LL := LL) (xs := xs) (d := d + 2) (pre := pre) (n := n) (μ := μ) (sp := sp) (fo := some f) (pc := pc) (lp := lp) (cl := cl) (tk := tk) (tc := ga_tc M) (F := F) (gv := gv) (a := sp - 4) (w := 4) (ga_rd μ (sp - 8) 4) (by omega)
  have w2 := m_write (LL := LL) (xs := xs) (d := d + 2) (pre := pre) (n := n) (μ := ga_wr μ (sp - 4) 4 (ga_rd μ (sp - 8) 4)) (sp := sp) (fo := some f) (pc := pc) (lp := lp) (cl := cl) (tk := tk) (tc := ga_tc M) (F := F) (gv := gv) (a := sp - 8) (w := 4) (ga_rd μ (sp - 4) 4) (by omega)
  have e : ga_wq (sp - 4 * 2) 2 1 (fun i => ga_rd μ (sp - 4 * 2 + 4 * i) 4) μ 2 = ga_wr (ga_wr μ (sp - 4) 4 (ga_rd μ (sp - 8) 4)) (sp - 8) 4 (ga_rd μ (sp - 4) 4) := by
    show ga_wr (ga_wr μ (sp - 8 + 4) 4 (ga_rd μ (sp - 8) 4)) (sp - 8) 4 (ga_rd μ (sp - 8 + 4) 4) = _
    rw [show sp - 8 + 4 = sp - 4 by omega]
  rw [← pk_sub (show 4 ≤ sp by omega)] at r1 w1
  rw [← pk_sub (show 8 ≤ sp by omega)] at r2 w2
  rw [e]
  rw [hf] at hvc ⊢
  refine gs_M_swap _ (gx_run 3 (And.intro ⟨_, rfl⟩ (gx_c1 (gx_le8 rfl) (m_hasFrame (by omega)) (And.intro (fun _ => gx_run 4 (And.intro ⟨_, rfl⟩ (gx_c1 (gx_le8 rfl) hvc (And.intro (fun _ => ?_) (fun c => absurd (nI_le hm (by omega)) c))))) (fun c => absurd c (by decide))))))
  exact gx_run 32 (And.intro ⟨_, rfl⟩ (gx_c1 (gx_le8 rfl) r1 (And.intro ⟨_, rfl⟩ (gx_c1 (gx_le8 rfl) r2 (And.intro ⟨_, rfl⟩ (gx_c1 (gx_le8 rfl) w1 (And.intro ⟨_, rfl⟩ (gx_c1 (gx_le8 rfl) w2 (And.intro rfl rfl)))))))))
theorem m_against (place w : Int32) (hmk : ga_mk μ sp M) (hs : sp ≤ 1024) : gx_call LL xs (d + 3) z_M_against 0 0 [.ref 43, .int place, .int w] (gm_h pre n μ sp (ga_top M) pc lp cl tk (ga_tc M) F gv) (fun r h => r = some (.int (ga_el μ M place w)) ∧ h = (gm_h pre n μ sp (ga_top M) pc lp cl tk (ga_tc M) F gv)) := by
  refine gs_M_against _ _ _ (gx_run 3 (gx_c1 (gx_le8 rfl) (m_isWidth w) ?_))
  by_cases hw : w = nI 1 ∨ w = nI 2 ∨ w = nI 4
  · rw [if_pos hw]
    refine And.intro (fun _ => ?_) (fun c => absurd c (by decide))
    have e : ga_el μ M place w = match ga_top M with
      | none => -(nI 16)
      | some f => if ga_il μ f place w = true then nI 0 else -(nI 13) := if_neg (fun h => h hw)
    rw [e]
    cases hf : ga_top M with
    | none => exact gx_run 3 (And.intro ⟨_, rfl⟩ (gx_c1 (gx_le8 rfl) m_hasFrame_n (And.intro (fun c => absurd rfl c) (fun _ => gx_run 3 (gx_c1 (gx_le8 rfl) m_f6 (And.intro rfl rfl))))))
    | some f =>
      have hlt := ga_mk_top hmk hf
      have hc := m_isPlace (LL := LL) (xs := xs) (d := d + 1) place (nI (ga_w μ f - ga_w μ (f + 4)) - w) (h := (gm_h pre n μ sp (some f) pc lp cl tk (ga_tc M) F gv))
      rw [← pk_sub hlt.2.2.1] at hc
      refine gx_run 3 (And.intro ⟨_, rfl⟩ (gx_c1 (gx_le8 rfl) (m_hasFrame (by omega)) (And.intro (fun _ => gx_run 14 (And.intro ⟨_, rfl⟩ (gx_c1 (gx_le8 rfl) (m_lengthAt (by omega)) (And.intro ⟨_, rfl⟩ (gx_c1 (gx_le8 rfl) (m_localsAt (by omega)) (gx_c1 (gx_le8 rfl) hc ?_)))))) (fun c => absurd c (by decide)))))
      rw [pk_sub hlt.2.2.1]
      show (ga_b (ga_il μ f place w) = 0 → _) ∧ (¬ ga_b (ga_il μ f place w) = 0 → _)
      cases hil : ga_il μ f place w with
      | true => exact And.intro (fun c => absurd c (by decide)) (fun _ => gx_run 3 (And.intro (by simp [hil]) rfl))
      | false => exact And.intro (fun _ => gx_run 3 (gx_c1 (gx_le8 rfl) m_f3 (And.intro (by simp [hil]) rfl))) (fun c => absurd rfl c)
  · rw [if_neg hw]
    refine And.intro (fun c => absurd rfl c) (fun _ => gx_run 2 (And.intro ?_ rfl))
    unfold ga_el
    rw [if_pos hw]
theorem m_load_e (place w : Int32) (hmk : ga_mk μ sp M) (hs : sp ≤ 1024) {y : Int32} (hy : ga_el μ M place w = y) (h0 : ¬ y = 0) : gx_call LL xs (d + 4) z_M_load 0 0 [.ref 43, .int place, .int w] (gm_h pre n μ sp (ga_top M) pc lp cl tk (ga_tc M) F gv) (fun r h => r = some (.int y) ∧ h = (gm_h pre n μ sp (ga_top M) pc lp cl tk (ga_tc M) F gv)) := by
  have hfl := m_against (LL := LL) (xs := xs) (d := d) (pre := pre) (n := n) (pc := pc) (lp := lp) (cl := cl) (tk := tk) (F := F) (gv := gv) place w hmk hs
  rw [hy] at hfl
  exact gs_M_load _ _ _ (gx_run 7 (And.intro ⟨_, rfl⟩ (gx_c1 (gx_le8 rfl) hfl (And.intro (fun c => absurd c h0) (fun _ => gx_run 2 (And.intro rfl rfl))))))
theorem m_load {f p v : Nat} (hmk : ga_mk μ sp M) (hs : sp ≤ 1024) (hy : ga_el μ M (nI p) (nI v) = nI 0) (hf : ga_top M = some f) (hv : v ≤ 4) (hp : p + v ≤ ga_w μ f - ga_w μ (f + 4)) : gx_call LL xs (d + 4) z_M_load 0 0 [.ref 43, .int (nI p), .int (nI v)] (gm_h pre n μ sp (ga_top M) pc lp cl tk (ga_tc M) F gv) (fun r h => r = some (.int (nI 1)) ∧ h = (gm_h pre n μ sp (ga_top M) pc (ga_rd μ (f + ga_w μ (f + 4) + p) v) cl tk (ga_tc M) F gv)) := by
  have hfl := m_against (LL := LL) (xs := xs) (d := d) (pre := pre) (n := n) (pc := pc) (lp := lp) (cl := cl) (tk := tk) (F := F) (gv := gv) (nI p) (nI v) hmk hs
  rw [hy] at hfl
  have hlt := ga_mk_top hmk hf
  have r1 := m_read (LL := LL) (xs := xs) (d := d + 2) (pre := pre) (n := n) (μ := μ) (sp := sp) (fo := some f) (pc := pc) (lp := lp) (cl := cl) (tk := tk) (tc := ga_tc M) (F := F) (gv := gv) (a := f + ga_w μ (f + 4) + p) (w := v) (by omega)
  rw [← nI_add, ← nI_add] at r1
  rw [hf] at hfl ⊢
  refine gs_M_load _ _ _ (gx_run 7 (And.intro ⟨_, rfl⟩ (gx_c1 (gx_le8 rfl) hfl (And.intro (fun _ => ?_) (fun c => absurd rfl c)))))
  exact gx_run 16 (And.intro ⟨_, rfl⟩ (gx_c1 (gx_le8 rfl) (m_localsAt (by omega)) (And.intro ⟨_, rfl⟩ (gx_c1 (gx_le8 rfl) r1 (And.intro rfl rfl)))))
theorem m_store_e (place w x : Int32) (hmk : ga_mk μ sp M) (hs : sp ≤ 1024) {y : Int32} (hy : ga_el μ M place w = y) (h0 : ¬ y = 0) : gx_call LL xs (d + 4) z_M_store 0 0 [.ref 43, .int place, .int w, .int x] (gm_h pre n μ sp (ga_top M) pc lp cl tk (ga_tc M) F gv) (fun r h => r = some (.int y) ∧ h = (gm_h pre n μ sp (ga_top M) pc lp cl tk (ga_tc M) F gv)) := by
  have hfl := m_against (LL := LL) (xs := xs) (d := d) (pre := pre) (n := n) (pc := pc) (lp := lp) (cl := cl) (tk := tk) (F := F) (gv := gv) place w hmk hs
  rw [hy] at hfl
  exact gs_M_store _ _ _ _ (gx_run 7 (And.intro ⟨_, rfl⟩ (gx_c1 (gx_le8 rfl) hfl (And.intro (fun c => absurd c h0) (fun _ => gx_run 2 (And.intro rfl rfl))))))
theorem m_store {f p v : Nat} (x : Int32) (hmk : ga_mk μ sp M) (hs : sp ≤ 1024) (hy : ga_el μ M (nI p) (nI v) = nI 0) (hf : ga_top M = some f) (hv : v ≤ 4) (hp : p + v ≤ ga_w μ f - ga_w μ (f + 4)) : gx_call LL xs (d + 4) z_M_store 0 0 [.ref 43, .int (nI p), .int (nI v), .int x] (gm_h pre n μ sp (ga_top M) pc lp cl tk (ga_tc M) F gv) (fun r h => r = some (.int (nI 1)) ∧ h = (gm_h pre n (ga_wr μ (f + ga_w μ (f + 4) + p) v x) sp (ga_top M) pc lp cl tk (ga_tc M) F gv)) := by
  have hfl := m_against (LL := LL) (xs := xs) (d := d) (pre := pre) (n := n) (pc := pc) (lp := lp) (cl := cl) (tk := tk) (F := F) (gv := gv) (nI p) (nI v) hmk hs
  rw [hy] at hfl
  have hlt := ga_mk_top hmk hf
  have w1 := m_write (LL := LL) (xs := xs) (d := d + 2) (pre := pre) (n := n) (μ := μ) (sp := sp) (fo := some f) (pc := pc) (lp := lp) (cl := cl) (tk := tk) (tc := ga_tc M) (F := F) (gv := gv) (a := f + ga_w μ (f + 4) + p) (w := v) x (by omega)
  rw [← nI_add (f + _) p, ← nI_add f] at w1
  rw [hf] at hfl ⊢
  refine gs_M_store _ _ _ _ (gx_run 7 (And.intro ⟨_, rfl⟩ (gx_c1 (gx_le8 rfl) hfl (And.intro (fun _ => ?_) (fun c => absurd rfl c)))))
  exact gx_run 15 (And.intro ⟨_, rfl⟩ (gx_c1 (gx_le8 rfl) (m_localsAt (by omega)) (And.intro ⟨_, rfl⟩ (gx_c1 (gx_le8 rfl) w1 (And.intro rfl rfl)))))
theorem m_byteAt_n (x : Int32) (hs : sp ≤ 1024) (hx : x < 0 ∨ nI sp ≤ x) : gx_call LL xs (d + 1) z_M_byteAt 0 0 [.ref 43, .int x] (gm_h pre n μ sp fo pc lp cl tk tc F gv) (fun r h => r = some (.int (-(nI 1))) ∧ h = (gm_h pre n μ sp fo pc lp cl tk tc F gv)) := by
  refine gs_M_byteAt _ _ (gx_run 10 (And.intro (gx_le8 rfl) (And.intro (fun c => absurd ((ga_inv1 (by omega)).mp c) ?_) (fun c => And.intro (fun _ => gx_run 2 (And.intro rfl rfl)) (fun z => absurd rfl z)))))
  rintro ⟨h1, h2⟩
  rcases hx with h | h
  · exact h1 h
  · exact h2 h
theorem m_byteAt {j : Nat} (hj : j < sp) (hs : sp ≤ 1024) : gx_call LL xs (d + 1) z_M_byteAt 0 0 [.ref 43, .int (nI j)] (gm_h pre n μ sp fo pc lp cl tk tc F gv) (fun r h => r = some (.int (nI (μ j))) ∧ h = (gm_h pre n μ sp fo pc lp cl tk tc F gv)) :=
  gs_M_byteAt _ _ (gx_run 10 (And.intro (gx_le8 rfl) (And.intro (fun c => And.intro (fun z => absurd z (by decide)) (fun _ => gx_run 6 (gx_ar j rfl (show j < 1024 by omega) (by decide) (And.intro rfl rfl)))) (fun c => absurd ((ga_inv1 (by omega)).mpr ⟨nI_pos (by omega), nI_ge hj (by omega)⟩) c))))
theorem m_cell_n (x : Int32) (hx : x < 0 ∨ nI 16 ≤ x) : gx_call LL xs (d + 1) z_M_cell 0 0 [.ref 43, .int x] (gm_h pre n μ sp fo pc lp cl tk tc F gv) (fun r h => r = some (.int (nI 0)) ∧ h = (gm_h pre n μ sp fo pc lp cl tk tc F gv)) := by
  refine gs_M_cell _ _ (gx_run 6 (And.intro (gx_le8 rfl) (And.intro (fun c => ?_) (fun c => And.intro (fun _ => gx_run 2 (And.intro rfl rfl)) (fun z => absurd rfl z)))))
  obtain ⟨j, hj, rfl⟩ := ga_in (by decide) c
  rcases hx with h | h
  · exact absurd h (nI_pos (by omega))
  · exact absurd h (nI_ge (by omega) (by decide))
theorem m_cell {j : Nat} (hj : j < 16) : gx_call LL xs (d + 1) z_M_cell 0 0 [.ref 43, .int (nI j)] (gm_h pre n μ sp fo pc lp cl tk tc F gv) (fun r h => r = some (.int (cl j)) ∧ h = (gm_h pre n μ sp fo pc lp cl tk tc F gv)) :=
  gs_M_cell _ _ (gx_run 6 (And.intro (gx_le8 rfl) (And.intro (fun c => And.intro (fun z => absurd z (by decide)) (fun _ => gx_run 6 (gx_ar j rfl hj (by decide) (And.intro rfl rfl)))) (fun c => absurd (ga_yx (by decide) (by omega)) c))))
theorem m_frames_l (hs : sp ≤ 1024) (M0 : ga_M) : ∀ (M : ga_M) (lim c : Nat), ga_mk μ lim M → lim ≤ sp → c + ga_fc M ≤ 1024 →
    gx_E LL xs (gx_call LL xs (d + 1)) cd_M_frames (fun r h => r = some (.int (nI (c + ga_fc M))) ∧ h = (gm_h pre n μ sp (ga_top M0) pc lp cl tk (ga_tc M0) F gv)) 5 [some (.ref 43), some (.int (nI c)), some (.int (ga_fp (ga_top M)))] [] (gm_h pre n μ sp (ga_top M0) pc lp cl tk (ga_tc M0) F gv) 0 0
  | [], lim, c, _, _, _ => gx_run 2 (And.intro (fun _ => gx_run 2 (And.intro rfl rfl)) (fun c => absurd (by decide) c))
  | (false, t) :: es, lim, c, ⟨h1, h2, h3, h4, h5⟩, hl, hc => m_frames_l hs M0 es (t - 16) c h5 (by omega) hc
  | (true, f) :: es, lim, c, ⟨h1, h2, h3, h4, h5, h6⟩, hl, hc => by
    have hc' : c + (ga_fc es + 1) ≤ 1024 := hc
    have r1 := m_read (LL := LL) (xs := xs) (d := d) (pre := pre) (n := n) (μ := μ) (sp := sp) (fo := ga_top M0) (pc := pc) (lp := lp) (cl := cl) (tk := tk) (tc := ga_tc M0) (F := F) (gv := gv) (a := f - 4) (w := 4) (by omega)
    rw [← pk_sub (show 4 ≤ f by omega), h5] at r1
    have h9 := m_frames_l hs M0 es (f - 16) (c + 1) h6 (by omega) (by omega)
    rw [← nI_add c 1, show c + 1 + ga_fc es = c + ga_fc ((true, f) :: es) from by show c + 1 + ga_fc es = c + (ga_fc es + 1); omega] at h9
    exact gx_run 2 (And.intro (fun z => absurd z (nI_pos (by omega))) (fun _ => gx_run 9 (And.intro ⟨_, rfl⟩ (gx_c1 (gx_le8 rfl) r1 h9))))
theorem m_frames (hmk : ga_mk μ sp M) (hs : sp ≤ 1024) : gx_call LL xs (d + 2) z_M_frames 0 0 [.ref 43] (gm_h pre n μ sp (ga_top M) pc lp cl tk (ga_tc M) F gv) (fun r h => r = some (.int (nI (ga_fc M))) ∧ h = (gm_h pre n μ sp (ga_top M) pc lp cl tk (ga_tc M) F gv)) := by
  have h9 := m_frames_l (LL := LL) (xs := xs) (d := d) (pre := pre) (n := n) (pc := pc) (lp := lp) (cl := cl) (tk := tk) (F := F) (gv := gv) hs M M sp 0 hmk (Nat.le_refl _) (by have := ga_tc_le hmk; omega)
  rw [Nat.zero_add] at h9
  exact gs_M_frames _ (gx_run 5 h9)
theorem m_count (x : Int32) (hmk : ga_mk μ sp M) (htk : ga_tk tk M) (hs : sp ≤ 1024) : gx_call LL xs (d + 4) z_M_count 0 0 [.ref 43, .int x] (gm_h pre n μ sp (ga_top M) pc lp cl tk (ga_tc M) F gv) (fun r h => r = some (.int (ga_ct n μ sp M pc tk x)) ∧ h = (gm_h pre n μ sp (ga_top M) pc lp cl tk (ga_tc M) F gv)) := by
  have hcnt := ga_tc_le hmk
  refine gs_M_count _ _ (gx_run 2 (And.intro (fun c => ?_) (And.intro (fun c => ?_) (And.intro (fun c => ?_) (And.intro (fun c => ?_) (And.intro (fun c => ?_) (And.intro (fun c => ?_) (And.intro (fun c => ?_) (And.intro (fun c => ?_) (And.intro (fun c => ?_) trivial))))))))))
  · refine gx_run 2 (And.intro ?_ rfl)
    have c0 : ¬ x = nI 0 := c 0 (by decide)
    have c1 : ¬ x = nI 1 := c 1 (by decide)
    have c2 : ¬ x = nI 2 := c 2 (by decide)
    have c3 : ¬ x = nI 3 := c 3 (by decide)
    have c4 : ¬ x = nI 4 := c 4 (by decide)
    have c5 : ¬ x = nI 5 := c 5 (by decide)
    have c6 : ¬ x = nI 6 := c 6 (by decide)
    have c7 : ¬ x = nI 7 := c 7 (by decide)
    simp only [ga_ct, if_neg c0, if_neg c1, if_neg c2, if_neg c3, if_neg c4, if_neg c5, if_neg c6, if_neg c7]
  · obtain rfl : x = nI 0 := c
    exact gx_run 3 (And.intro rfl rfl)
  · obtain rfl : x = nI 1 := c
    exact gx_run 3 (And.intro rfl rfl)
  · obtain rfl : x = nI 2 := c
    have e : ga_ct n μ sp M pc tk (nI 2) = match ga_top M with
      | none => -(nI 1)
      | some _ => nI (ga_vc μ sp M) := rfl
    rw [e]
    cases hf : ga_top M with
    | none => exact gx_run 3 (And.intro ⟨_, rfl⟩ (gx_c1 (gx_le8 rfl) m_hasFrame_n (And.intro (fun _ => gx_run 2 (And.intro rfl rfl)) (fun c => absurd rfl c))))
    | some f =>
      have hlt := ga_top_lt hmk hf
      have hvc := m_values (LL := LL) (xs := xs) (d := d) (pre := pre) (n := n) (pc := pc) (lp := lp) (cl := cl) (F := F) (gv := gv) hmk htk hs hf
      rw [hf] at hvc
      exact gx_run 3 (And.intro ⟨_, rfl⟩ (gx_c1 (gx_le8 rfl) (m_hasFrame (by omega)) (And.intro (fun c => absurd c (by decide)) (fun _ => gx_run 4 (And.intro ⟨_, rfl⟩ (gx_c1 (gx_le8 rfl) hvc (And.intro rfl rfl)))))))
  · obtain rfl : x = nI 3 := c
    exact gx_run 3 (And.intro rfl rfl)
  · obtain rfl : x = nI 4 := c
    exact gx_run 3 (And.intro rfl rfl)
  · obtain rfl : x = nI 5 := c
    exact gx_run 3 (And.intro rfl rfl)
  · obtain rfl : x = nI 6 := c
    show gx_E _ _ _ _ (fun r h => r = some (.int (ga_fp (ga_lt tk (ga_tc M)))) ∧ _) _ _ _ _ _ _
    cases htc : ga_tc M with
    | zero => exact gx_run 3 (And.intro (fun c => absurd rfl c) (fun _ => gx_run 3 (And.intro rfl rfl)))
    | succ c' => exact gx_run 3 (And.intro (fun _ => gx_run 8 (gx_ar c' (pk_sub (Nat.le_add_left 1 c')) (show c' < 64 by omega) (by decide) (And.intro rfl rfl))) (fun c => absurd c (nI_ne0 (by omega) (by omega))))
  · obtain rfl : x = nI 7 := c
    exact gx_run 3 (And.intro ⟨_, rfl⟩ (gx_c1 (gx_le8 rfl) (m_frames hmk hs) (And.intro rfl rfl)))
end GME
end
section
/-! The reference: frames entered and left. -/
section GMF
variable {LL : Nat} {xs : Nat → Int32} {d : Nat} {pre : Nat → gx_A} {n : Nat} {μ : Nat → Nat} {sp : Nat} {fo : Option Nat} {pc lp : Int32} {cl : Nat → Int32} {tk : Nat → Nat} {tc : Nat} {F : Nat → ga_F} {gv : Nat → Int32} {k : Nat} {M : ga_M}
theorem m_enter_z {m l b f : Nat} {Q : gx_Q} {w6 : Option Value} (hl : f + l ≤ 1024) (hO : ∀ w : Option Value, gx_E LL xs (gx_call LL xs d) cd_M_enter Q 27 [some (.ref 43), some (.int (nI k)), some (.int (nI m)), some (.int (nI l)), some (.int (nI b)), w, w6] [] (gm_h pre n (ga_z μ f l) sp (some f) pc lp cl tk tc F gv) 0 0) : ∀ (q i : Nat), i + q = l →
    gx_E LL xs (gx_call LL xs d) cd_M_enter Q 14 [some (.ref 43), some (.int (nI k)), some (.int (nI m)), some (.int (nI l)), some (.int (nI b)), some (.int (nI i)), w6] [] (gm_h pre n (ga_z μ f i) sp (some f) pc lp cl tk tc F gv) 0 0 := by
  intro q
  induction q with
  | zero =>
    intro i hq
    obtain rfl : i = l := by omega
    exact gx_run 3 (And.intro (fun _ => hO _) (fun c => absurd (nI_le (Nat.le_refl i) (by omega)) c))
  | succ q ih =>
    intro i hq
    have h9 := ih (i + 1) (by omega)
    have e2 : (gm_h pre n (va_up (ga_z μ f i) (f + i) 0) sp (some f) pc lp cl tk tc F gv) = (gm_h pre n (ga_z μ f i) sp (some f) pc lp cl tk tc F gv).set 44 (.inl (0, 1024, upd (fun j => nI (ga_z μ f i j)) (f + i) (nI 0))) := by
      rw [gm_byte]
      rfl
    rw [← nI_add i 1, ← ga_z_s, e2] at h9
    exact gx_run 3 (And.intro (fun c => absurd c (nI_ge (show i < l by omega) (by omega))) (fun _ => gx_run 10 (gx_ar (f + i) (nI_add f i) (by omega) (by decide) h9)))
theorem m_enter_p {m l b f : Nat} {Q : gx_Q} {w6 : Option Value} (hk : k < 12) (hw : ga_wf (F k)) (hl : f + 8 + 2 * (F k).2.2.1 ≤ 1024) (hO : ∀ w : Option Value, gx_E LL xs (gx_call LL xs d) cd_M_enter Q 89 [some (.ref 43), some (.int (nI k)), some (.int (nI m)), some (.int (nI l)), some (.int (nI b)), w, w6] [] (gm_h pre n (ga_pr (F k) (f + 8) μ (F k).2.2.1) sp (some f) pc lp cl tk tc F gv) 0 0) : ∀ (q p : Nat), p + q = (F k).2.2.1 →
    gx_E LL xs (gx_call LL xs d) cd_M_enter Q 43 [some (.ref 43), some (.int (nI k)), some (.int (nI m)), some (.int (nI l)), some (.int (nI b)), some (.int (nI p)), w6] [] (gm_h pre n (ga_pr (F k) (f + 8) μ p) sp (some f) pc lp cl tk tc F gv) 0 0 := by
  have h6 := hw.2.2.1
  intro q
  induction q with
  | zero =>
    intro p hq
    obtain rfl : p = (F k).2.2.1 := by omega
    exact gx_run 6 (gx_ar k rfl hk (by decide) (And.intro (fun _ => hO _) (fun c => absurd (nI_le (Nat.le_refl (F k).2.2.1) (by omega)) c)))
  | succ q ih =>
    intro p hq
    obtain ⟨e1, e2⟩ := ga_dm (f := k) (p := p) (by omega)
    have h9 := ih (p + 1) (by omega)
    have e3 : (gm_h pre n (ga_pr (F k) (f + 8) μ (p + 1)) sp (some f) pc lp cl tk tc F gv) = ((gm_h pre n (ga_pr (F k) (f + 8) μ p) sp (some f) pc lp cl tk tc F gv).set 44 (.inl (0, 1024, upd (fun j => nI (ga_pr (F k) (f + 8) μ p j)) (f + 8 + 2 * p) (nI ((F ((6 * k + p) / 6)).2.2.2.1 ((6 * k + p) % 6)))))).set 44 (.inl (0, 1024, upd (upd (fun j => nI (ga_pr (F k) (f + 8) μ p j)) (f + 8 + 2 * p) (nI ((F ((6 * k + p) / 6)).2.2.2.1 ((6 * k + p) % 6)))) (f + 8 + 2 * p + 1) (nI ((F ((6 * k + p) / 6)).2.2.2.2 ((6 * k + p) % 6))))) := by
      rw [e1, e2, gm_byte, gm_byte]
      rfl
    rw [← nI_add p 1, e3] at h9
    refine gx_run 6 (gx_ar k rfl hk (by decide) (And.intro (fun c => absurd c (nI_ge (show p < (F k).2.2.1 by omega) (by omega))) (fun _ => gx_run 40 ?_)))
    refine gx_ar (6 * k + p) (by rw [pk_mul, nI_add]) (by omega) (by decide) (gx_ar (f + 8 + 2 * p) (by show nI f + nI 8 + nI 2 * nI p = _; rw [nI_add, pk_mul, nI_add]) (by omega) (by decide) ?_)
    exact gx_ar (6 * k + p) (by rw [pk_mul, nI_add]) (by omega) (by decide) (gx_ar (f + 8 + 2 * p + 1) (by show nI f + nI 9 + nI 2 * nI p = _; rw [nI_add, pk_mul, nI_add]; congr 1; omega) (by omega) (by decide) h9)
theorem m_enter_l {m l b f : Nat} (hk : k < 12) (hw : ga_wf (F k)) (hl : f + ga_len (F k) ≤ 1024) (hm : m ≤ 256) : ∀ (q i : Nat), i + q = min m (ga_ls (F k)) →
    gx_E LL xs (gx_call LL xs (d + 3)) cd_M_enter (fun r h => r = none ∧ h = (gm_h pre n (ga_sl (F k) gv (f + ga_lb (F k)) μ (min m (ga_ls (F k)))) sp (some f) pc lp cl tk tc F gv)) 107 [some (.ref 43), some (.int (nI k)), some (.int (nI m)), some (.int (nI l)), some (.int (nI b)), some (.int (nI (ga_ls (F k)))), some (.int (nI i))] [] (gm_h pre n (ga_sl (F k) gv (f + ga_lb (F k)) μ i) sp (some f) pc lp cl tk tc F gv) 0 0 := by
  have hls := ga_ls_le hw
  intro q
  induction q with
  | zero =>
    intro i hq
    obtain rfl : i = min m (ga_ls (F k)) := by omega
    by_cases c : m ≤ ga_ls (F k)
    · exact gx_run 3 (And.intro (fun _ => gx_run 1 (And.intro rfl rfl)) (fun z => absurd (nI_le (show m ≤ min m (ga_ls (F k)) by omega) (by omega)) z))
    · exact gx_run 3 (And.intro (fun _ => gx_run 1 (And.intro rfl rfl)) (fun _ => gx_run 3 (And.intro (fun _ => gx_run 1 (And.intro rfl rfl)) (fun z => absurd (nI_le (show ga_ls (F k) ≤ min m (ga_ls (F k)) by omega) (by omega)) z))))
  | succ q ih =>
    intro i hq
    have hil : i < ga_ls (F k) := by omega
    have hin := (ga_pc_in hw hil).2
    have h9 := ih (i + 1) (by omega)
    rw [← nI_add i 1] at h9
    have c1 := m_placeOf (LL := LL) (xs := xs) (d := d) (pre := pre) (n := n) (μ := ga_sl (F k) gv (f + ga_lb (F k)) μ i) (sp := sp) (fo := some f) (pc := pc) (lp := lp) (cl := cl) (tk := tk) (tc := tc) (F := F) (gv := gv) hk hw (q := i) (by omega)
    rw [ga_po_in hw hil] at c1
    have c2 := m_widthOf (LL := LL) (xs := xs) (d := d + 2) (pre := pre) (n := n) (μ := ga_sl (F k) gv (f + ga_lb (F k)) μ i) (sp := sp) (fo := some f) (pc := pc) (lp := lp) (cl := cl) (tk := tk) (tc := tc) (F := F) (gv := gv) hk hw (q := i) (by omega)
    have c3 := m_write (LL := LL) (xs := xs) (d := d + 2) (pre := pre) (n := n) (μ := ga_sl (F k) gv (f + ga_lb (F k)) μ i) (sp := sp) (fo := some f) (pc := pc) (lp := lp) (cl := cl) (tk := tk) (tc := tc) (F := F) (gv := gv) (a := f + ga_lb (F k) + ga_pc (F k) i) (w := ga_wk (F k) i) (gv i) (by omega)
    rw [Nat.add_assoc f, ← nI_add f, ← Nat.add_assoc] at c3
    refine gx_run 3 (And.intro (fun c => absurd c (nI_ge (show i < m by omega) (by omega))) (fun _ => gx_run 3 (And.intro (fun c => absurd c (nI_ge hil (by omega))) (fun _ => gx_run 19 ?_))))
    exact And.intro ⟨_, rfl⟩ (gx_c1 (gx_le8 rfl) c1 (And.intro ⟨_, rfl⟩ (gx_c1 (gx_le8 rfl) c2 (gx_ar i rfl (show i < 256 by omega) (by decide) (And.intro ⟨_, rfl⟩ (gx_c1 (gx_le8 rfl) c3 h9))))))
theorem m_enter_s {m l b f : Nat} {w6 : Option Value} (hm : m ≤ 256) (hs : sp + 4 * (m + 1) ≤ 1024) : ∀ (q p : Nat), p + q = m →
    gx_E LL xs (gx_call LL xs (d + 2)) cd_M_enter (fun r h => r = none ∧ h = (gm_h pre n (ga_wr (ga_ws sp (fun p => gv (m - 1 - p)) μ m) (sp + 4 * m) 4 (nI m)) (sp + 4 * m + 4) (some f) pc lp cl tk tc F gv)) 137 [some (.ref 43), some (.int (nI k)), some (.int (nI m)), some (.int (nI l)), some (.int (nI b)), some (.int (nI q - nI 1)), w6] [] (gm_h pre n (ga_ws sp (fun p => gv (m - 1 - p)) μ p) (sp + 4 * p) (some f) pc lp cl tk tc F gv) 0 0 := by
  intro q
  induction q with
  | zero =>
    intro p hq
    obtain rfl : p = m := by omega
    exact gx_run 2 (And.intro (fun _ => gx_run 4 (And.intro ⟨_, rfl⟩ (gx_c1 (gx_le8 rfl) (m_pushes _ (by omega)) (And.intro rfl rfl)))) (fun c => absurd (by decide) c))
  | succ q ih =>
    intro p hq
    have h9 := ih (p + 1) (by omega)
    rw [show sp + 4 * (p + 1) = sp + 4 * p + 4 by omega] at h9
    have e : gv q = (fun p => gv (m - 1 - p)) p := by
      show gv q = gv (m - 1 - p)
      rw [show m - 1 - p = q by omega]
    have c1 := m_pushes (LL := LL) (xs := xs) (d := d) (pre := pre) (n := n) (μ := ga_ws sp (fun p => gv (m - 1 - p)) μ p) (sp := sp + 4 * p) (fo := some f) (pc := pc) (lp := lp) (cl := cl) (tk := tk) (tc := tc) (F := F) (gv := gv) (gv q) (by omega)
    rw [pk_sub (Nat.le_add_left 1 q)]
    refine gx_run 2 (And.intro (fun c => absurd c (nI_pos (by omega))) (fun _ => gx_run 8 (gx_ar q rfl (show q < 256 by omega) (by decide) (And.intro ⟨_, rfl⟩ (gx_c1 (gx_le8 rfl) c1 ?_)))))
    rw [e]
    exact h9
theorem m_enter {m : Nat} (hk : k < 12) (hw : ga_wf (F k)) (hh : (F k).1 = 192 ∨ (F k).1 = 193) (hfl : sp + ga_room (F k) m ≤ 1024) (hm : m ≤ 256) :
    gx_call LL xs (d + 5) z_M_enter 0 0 [.ref 43, .int (nI k), .int (nI m)] (gm_h pre n μ sp fo pc lp cl tk tc F gv) (fun r h => r = none ∧ h = (gm_h pre n (ga_en (F k) gv m μ sp) (sp + ga_room (F k) m) (some sp) pc lp cl tk tc F gv)) := by
  have h6 := hw.2.2.1
  have hrm : ga_len (F k) ≤ ga_room (F k) m := Nat.le_add_right _ _
  have hlb := ga_lb_ge (f := F k)
  have hle := ga_len_ge hw
  refine gs_M_enter _ _ _ (gx_run 14 (And.intro ⟨_, rfl⟩ (gx_c1 (gx_le8 rfl) (m_lengthOf hk hw) (And.intro ⟨_, rfl⟩ (gx_c1 (gx_le8 rfl) (m_begin hk h6) ?_)))))
  have hz := m_enter_z (LL := LL) (xs := xs) (d := d + 4) (pre := pre) (n := n) (μ := μ) (sp := sp) (pc := pc) (lp := lp) (cl := cl) (tk := tk) (tc := tc) (F := F) (gv := gv) (k := k) (m := m) (l := ga_len (F k)) (b := ga_lb (F k)) (f := sp) (w6 := none) (Q := fun r h => r = none ∧ h = (gm_h pre n (ga_en (F k) gv m μ sp) (sp + ga_room (F k) m) (some sp) pc lp cl tk tc F gv)) (by omega) (fun w => ?_) (ga_len (F k)) 0 (Nat.zero_add _)
  · rw [ga_z_0] at hz
    exact hz
  have c3 := m_write (LL := LL) (xs := xs) (d := d + 3) (pre := pre) (n := n) (μ := ga_wr (ga_z μ sp (ga_len (F k))) sp 4 (nI (ga_len (F k)))) (sp := sp) (fo := some sp) (pc := pc) (lp := lp) (cl := cl) (tk := tk) (tc := tc) (F := F) (gv := gv) (a := sp + 4) (w := 4) (nI (ga_lb (F k))) (by omega)
  rw [← nI_add] at c3
  refine gx_run 16 (And.intro ⟨_, rfl⟩ (gx_c1 (gx_le8 rfl) (m_write _ (by omega)) (And.intro ⟨_, rfl⟩ (gx_c1 (gx_le8 rfl) c3 ?_))))
  refine m_enter_p (f := sp) hk hw (by omega) (fun w => ?_) (F k).2.2.1 0 (Nat.zero_add _)
  refine gx_run 10 (gx_ar k rfl hk (by decide) ?_)
  have e0 : (gm_h pre n (ga_hd (F k) μ sp) (sp + ga_len (F k)) (some sp) pc lp cl tk tc F gv) = (gm_h pre n (ga_hd (F k) μ sp) sp (some sp) pc lp cl tk tc F gv).set 43 (.inr (.inr (3, [.int (nI n), .ref 44, .int (nI sp + nI (ga_len (F k))), .int (ga_fp (some sp)), .int pc, .ref 45, .ref 46, .ref 47, .ref 48, .ref 49, .ref 50, .ref 51, .int (nI tc), .int lp, .ref 52]))) := by
    rw [nI_add]
    rfl
  have h255 := hw.1
  by_cases h : (F k).1 = 192
  · have hr : ga_room (F k) m = ga_len (F k) + 4 * (m + 1) := by unfold ga_room; rw [if_pos h]
    have e : ga_en (F k) gv m μ sp = ga_wr (ga_ws (sp + ga_len (F k)) (fun p => gv (m - 1 - p)) (ga_hd (F k) μ sp) m) (sp + ga_len (F k) + 4 * m) 4 (nI m) := if_pos h
    have h9 := m_enter_s (LL := LL) (xs := xs) (d := d + 2) (pre := pre) (n := n) (μ := ga_hd (F k) μ sp) (sp := sp + ga_len (F k)) (pc := pc) (lp := lp) (cl := cl) (tk := tk) (tc := tc) (F := F) (gv := gv) (k := k) (m := m) (l := ga_len (F k)) (b := ga_lb (F k)) (f := sp) (w6 := none) hm (by omega) m 0 (Nat.zero_add m)
    rw [e, hr, show sp + (ga_len (F k) + 4 * (m + 1)) = sp + ga_len (F k) + 4 * m + 4 by omega]
    rw [show ga_ws (sp + ga_len (F k)) (fun p => gv (m - 1 - p)) (ga_hd (F k) μ sp) 0 = ga_hd (F k) μ sp from rfl, show sp + ga_len (F k) + 4 * 0 = sp + ga_len (F k) by omega, e0] at h9
    exact gx_run 2 (And.intro (fun _ => gx_run 4 h9) (fun c => absurd ((nI_eq (by omega) (by decide)).mp c) (by omega)))
  · have h193 : (F k).1 = 193 := hh.resolve_left h
    have hr : ga_room (F k) m = ga_len (F k) := by unfold ga_room; rw [if_neg h]; rfl
    have e : ga_en (F k) gv m μ sp = ga_sl (F k) gv (sp + ga_lb (F k)) (ga_hd (F k) μ sp) (min m (ga_ls (F k))) := if_neg h
    have h9 := m_enter_l (LL := LL) (xs := xs) (d := d + 1) (pre := pre) (n := n) (μ := ga_hd (F k) μ sp) (sp := sp + ga_len (F k)) (pc := pc) (lp := lp) (cl := cl) (tk := tk) (tc := tc) (F := F) (gv := gv) (k := k) (m := m) (l := ga_len (F k)) (b := ga_lb (F k)) (f := sp) hk hw (by omega) hm (min m (ga_ls (F k))) 0 (Nat.zero_add _)
    have c4 := m_locals (LL := LL) (xs := xs) (d := d + 3) (pre := pre) (n := n) (μ := ga_hd (F k) μ sp) (sp := sp + ga_len (F k)) (fo := some sp) (pc := pc) (lp := lp) (cl := cl) (tk := tk) (tc := tc) (F := F) (gv := gv) hk h6
    rw [e, hr]
    rw [show ga_sl (F k) gv (sp + ga_lb (F k)) (ga_hd (F k) μ sp) 0 = ga_hd (F k) μ sp from rfl, e0] at h9
    rw [e0] at c4
    exact gx_run 2 (And.intro (fun c => absurd (show nI (F k).1 = nI 193 by rw [h193]) c) (fun _ => gx_run 6 (And.intro ⟨_, rfl⟩ (gx_c1 (gx_le8 rfl) c4 h9))))
theorem m_hasHead (hk : k < 12) (hf : (F k).1 ≤ 255) : gx_call LL xs (d + 1) z_M_hasHead 0 0 [.ref 43, .int (nI k)] (gm_h pre n μ sp fo pc lp cl tk tc F gv) (fun r h => r = some (.int (if (F k).1 = 192 ∨ (F k).1 = 193 then nI 1 else nI 0)) ∧ h = (gm_h pre n μ sp fo pc lp cl tk tc F gv)) := by
  refine gs_M_hasHead _ _ (gx_run 6 (gx_ar k rfl hk (by decide) (And.intro (fun c => gx_run 3 (And.intro (Or.inr rfl) (And.intro ?_ rfl))) (fun c => gx_run 6 (gx_ar k rfl hk (by decide) (And.intro (fun c2 => gx_run 2 (And.intro (Or.inl rfl) (And.intro ?_ rfl))) (fun c2 => gx_run 3 (And.intro (Or.inr rfl) (And.intro ?_ rfl)))))))))
  · rw [if_pos (Or.inl ((nI_eq (by omega) (by decide)).mp c))]
  · have c1 : ¬ nI (F k).1 = nI 192 := c
    have c3 : ¬ nI (F k).1 = nI 193 := c2
    rw [if_neg]
    rintro (h | h)
    · exact c1 (by rw [h])
    · exact c3 (by rw [h])
  · rw [if_pos]
    refine Or.inr ((nI_eq (by omega) (by decide)).mp ?_)
    have c3 : nI (F k).1 = nI 193 := c2
    exact c3
theorem m_canLeave {f : Nat} {fp2 : Option Nat} (h16 : 16 ≤ f) (hf1 : f ≤ 1024) (hrd : ga_rd μ (f - 4) 4 = ga_fp fp2) (hf : ∀ g, fp2 = some g → g + 8 ≤ 1024 ∧ ga_w μ (g + 4) ≤ ga_w μ g) : gx_call LL xs (d + 4) z_M_canLeave 0 0 [.ref 43] (gm_h pre n μ sp (some f) pc lp cl tk tc F gv) (fun r h => r = some (.int (ga_b (ga_cg μ (ga_rd μ (f - 16) 4) (ga_rd μ (f - 12) 4) fp2))) ∧ h = (gm_h pre n μ sp (some f) pc lp cl tk tc F gv)) := by
  have r1 := m_read (LL := LL) (xs := xs) (d := d + 2) (pre := pre) (n := n) (μ := μ) (sp := sp) (fo := some f) (pc := pc) (lp := lp) (cl := cl) (tk := tk) (tc := tc) (F := F) (gv := gv) (a := f - 16) (w := 4) (by omega)
  have r2 := m_read (LL := LL) (xs := xs) (d := d + 2) (pre := pre) (n := n) (μ := μ) (sp := sp) (fo := some f) (pc := pc) (lp := lp) (cl := cl) (tk := tk) (tc := tc) (F := F) (gv := gv) (a := f - 12) (w := 4) (by omega)
  have r3 := m_read (LL := LL) (xs := xs) (d := d + 2) (pre := pre) (n := n) (μ := μ) (sp := sp) (fo := some f) (pc := pc) (lp := lp) (cl := cl) (tk := tk) (tc := tc) (F := F) (gv := gv) (a := f - 4) (w := 4) (by omega)
  rw [hrd] at r3
  rw [← pk_sub (by omega)] at r1 r2 r3
  exact gs_M_canLeave _ (gx_run 24 (And.intro ⟨_, rfl⟩ (gx_c1 (gx_le8 rfl) r1 (And.intro ⟨_, rfl⟩ (gx_c1 (gx_le8 rfl) r2 (And.intro ⟨_, rfl⟩ (gx_c1 (gx_le8 rfl) r3 (And.intro ⟨_, rfl⟩ (gx_c1 (gx_le8 rfl) (m_canGo _ _ hf) (by
    cases ga_cg μ (ga_rd μ (f - 16) 4) (ga_rd μ (f - 12) 4) fp2 with
    | true => exact And.intro (Or.inr rfl) (And.intro rfl rfl)
    | false => exact And.intro (Or.inl rfl) (And.intro rfl rfl)))))))))))
theorem m_leaves (v : Int32) {f c : Nat} {fp2 : Option Nat} (h16 : 16 ≤ f) (he : f ≤ sp) (hs : sp ≤ 1024) (hrd : ga_rd μ (f - 4) 4 = ga_fp fp2) (hf : ∀ g, fp2 = some g → g + 8 ≤ 1024 ∧ ga_w μ (g + 4) ≤ ga_w μ g ∧ g + ga_w μ g ≤ 1024) (hcg : ga_cg μ (ga_rd μ (f - 16) 4) (ga_rd μ (f - 12) 4) fp2 = true)
    (hlow : ∀ c', c = c' + 1 → tk c' < f) (hcc : c ≤ tc) (htc : tc ≤ 64) (hi : ∀ i, c ≤ i → i < tc → f ≤ tk i ∧ tk i < 2147483648) :
    gx_call LL xs (d + 4) z_M_leaves 0 0 [.ref 43, .int v] (gm_h pre n μ sp (some f) pc lp cl tk tc F gv) (fun r h => r = some (.int (ga_fp fp2)) ∧ h = (gm_h pre n (ga_g1 μ (f - 16) fp2 (ga_rd μ (f - 16) 4) (ga_rd μ (f - 12) 4) v) (ga_g2 (f - 16) (ga_rd μ (f - 16) 4)) fp2 (ga_rd μ (f - 8) 4) lp (ga_g3 cl (ga_rd μ (f - 16) 4) (ga_rd μ (f - 12) 4) v) tk c F gv)) := by
  refine gs_M_leaves _ _ (gx_run 5 ?_)
  show gx_E _ _ _ _ _ 5 [some (.ref 43), some (.int v), some (.int (nI f - nI 16))] [] (gm_h pre n μ sp (some f) pc lp cl tk tc F gv) _ _
  rw [pk_sub h16]
  have r0 := m_drop (LL := LL) (xs := xs) (d := d + 2) (pre := pre) (n := n) (μ := μ) (sp := sp) (fo := some f) (pc := pc) (lp := lp) (cl := cl) (tk := tk) (tc := tc) (F := F) (gv := gv) (p := f) (c := c) (by omega) hlow hcc htc hi
  have r1 := m_read (LL := LL) (xs := xs) (d := d + 2) (pre := pre) (n := n) (μ := μ) (sp := f - 16) (fo := some f) (pc := pc) (lp := lp) (cl := cl) (tk := tk) (tc := c) (F := F) (gv := gv) (a := f - 8) (w := 4) (by omega)
  have r2 := m_read (LL := LL) (xs := xs) (d := d + 2) (pre := pre) (n := n) (μ := μ) (sp := f - 16) (fo := some f) (pc := ga_rd μ (f - 8) 4) (lp := lp) (cl := cl) (tk := tk) (tc := c) (F := F) (gv := gv) (a := f - 4) (w := 4) (by omega)
  have r3 := m_read (LL := LL) (xs := xs) (d := d + 2) (pre := pre) (n := n) (μ := μ) (sp := f - 16) (fo := fp2) (pc := ga_rd μ (f - 8) 4) (lp := lp) (cl := cl) (tk := tk) (tc := c) (F := F) (gv := gv) (a := f - 16) (w := 4) (by omega)
  have r4 := m_read (LL := LL) (xs := xs) (d := d + 2) (pre := pre) (n := n) (μ := μ) (sp := f - 16) (fo := fp2) (pc := ga_rd μ (f - 8) 4) (lp := lp) (cl := cl) (tk := tk) (tc := c) (F := F) (gv := gv) (a := f - 12) (w := 4) (by omega)
  have r5 := m_go (LL := LL) (xs := xs) (d := d) (pre := pre) (n := n) (μ := μ) (sp := f - 16) (fo := fp2) (pc := ga_rd μ (f - 8) 4) (lp := lp) (cl := cl) (tk := tk) (tc := c) (F := F) (gv := gv) (ga_rd μ (f - 16) 4) (ga_rd μ (f - 12) 4) v (by omega) (fun g h => ⟨(hf g h).1, (hf g h).2.2⟩) hcg (fun _ => by omega)
  rw [show nI (f - 8) = nI (f - 16) + nI 8 by rw [nI_add]; congr 1; omega] at r1
  rw [show nI (f - 4) = nI (f - 16) + nI 12 by rw [nI_add]; congr 1; omega, hrd] at r2
  rw [show nI (f - 12) = nI (f - 16) + nI 4 by rw [nI_add]; congr 1; omega] at r4
  exact gx_run 39 (And.intro ⟨_, rfl⟩ (gx_c1 (gx_le8 rfl) r0 (And.intro ⟨_, rfl⟩ (gx_c1 (gx_le8 rfl) r1 (And.intro ⟨_, rfl⟩ (gx_c1 (gx_le8 rfl) r2 (And.intro ⟨_, rfl⟩ (gx_c1 (gx_le8 rfl) r3 (And.intro ⟨_, rfl⟩ (gx_c1 (gx_le8 rfl) r4 (And.intro ⟨_, rfl⟩ (gx_c1 (gx_le8 rfl) r5 (And.intro rfl rfl)))))))))))))
theorem m_leave_n (v : Int32) : gx_call LL xs (d + 2) z_M_leave 0 0 [.ref 43, .int v] (gm_h pre n μ sp none pc lp cl tk tc F gv) (fun r h => r = some (.int (-(nI 16))) ∧ h = (gm_h pre n μ sp none pc lp cl tk tc F gv)) :=
  gs_M_leave _ _ (gx_run 3 (And.intro ⟨_, rfl⟩ (gx_c1 (gx_le8 rfl) m_hasFrame_n (And.intro (fun c => absurd rfl c) (fun _ => gx_run 3 (gx_c1 (gx_le8 rfl) m_f6 (And.intro rfl rfl)))))))
theorem m_leave_e (v : Int32) {f : Nat} {fp2 : Option Nat} (h16 : 16 ≤ f) (hf1 : f ≤ 1024) (hrd : ga_rd μ (f - 4) 4 = ga_fp fp2) (hf : ∀ g, fp2 = some g → g + 8 ≤ 1024 ∧ ga_w μ (g + 4) ≤ ga_w μ g) (hcg : ga_cg μ (ga_rd μ (f - 16) 4) (ga_rd μ (f - 12) 4) fp2 = false) :
    gx_call LL xs (d + 5) z_M_leave 0 0 [.ref 43, .int v] (gm_h pre n μ sp (some f) pc lp cl tk tc F gv) (fun r h => r = some (.int (-(nI 13))) ∧ h = (gm_h pre n μ sp (some f) pc lp cl tk tc F gv)) := by
  have c1 := m_canLeave (LL := LL) (xs := xs) (d := d) (pre := pre) (n := n) (μ := μ) (sp := sp) (pc := pc) (lp := lp) (cl := cl) (tk := tk) (tc := tc) (F := F) (gv := gv) h16 hf1 hrd hf
  rw [hcg] at c1
  exact gs_M_leave _ _ (gx_run 3 (And.intro ⟨_, rfl⟩ (gx_c1 (gx_le8 rfl) (m_hasFrame (by omega)) (And.intro (fun _ => gx_run 3 (And.intro ⟨_, rfl⟩ (gx_c1 (gx_le8 rfl) c1 (And.intro (fun _ => gx_run 3 (gx_c1 (gx_le8 rfl) m_f3 (And.intro rfl rfl))) (fun c => absurd rfl c))))) (fun c => absurd c (by decide))))))
theorem m_leave (v : Int32) {f : Nat} {fp2 : Option Nat} (h16 : 16 ≤ f) (hf1 : f ≤ 1024) (hrd : ga_rd μ (f - 4) 4 = ga_fp fp2) (hf : ∀ g, fp2 = some g → g + 8 ≤ 1024 ∧ ga_w μ (g + 4) ≤ ga_w μ g) (hcg : ga_cg μ (ga_rd μ (f - 16) 4) (ga_rd μ (f - 12) 4) fp2 = true) {r0 : Int32} {h0 : gx_H}
    (hc : gx_call LL xs (d + 4) z_M_leaves 0 0 [.ref 43, .int v] (gm_h pre n μ sp (some f) pc lp cl tk tc F gv) (fun r h => r = some (.int r0) ∧ h = h0)) :
    gx_call LL xs (d + 5) z_M_leave 0 0 [.ref 43, .int v] (gm_h pre n μ sp (some f) pc lp cl tk tc F gv) (fun r h => r = some (.int r0) ∧ h = h0) := by
  have c1 := m_canLeave (LL := LL) (xs := xs) (d := d) (pre := pre) (n := n) (μ := μ) (sp := sp) (pc := pc) (lp := lp) (cl := cl) (tk := tk) (tc := tc) (F := F) (gv := gv) h16 hf1 hrd hf
  rw [hcg] at c1
  exact gs_M_leave _ _ (gx_run 3 (And.intro ⟨_, rfl⟩ (gx_c1 (gx_le8 rfl) (m_hasFrame (by omega)) (And.intro (fun _ => gx_run 3 (And.intro ⟨_, rfl⟩ (gx_c1 (gx_le8 rfl) c1 (And.intro (fun c => absurd c (by decide)) (fun _ => gx_run 5 (And.intro ⟨_, rfl⟩ (gx_c1 (gx_le8 rfl) hc (And.intro rfl rfl)))))))) (fun c => absurd c (by decide))))))
theorem m_caught_b (way addr p : Int32) (hw : way < 0 ∨ nI 3 < way) : gx_call LL xs (d + 1) z_M_caught 0 0 [.ref 43, .int way, .int addr, .int p] (gm_h pre n μ sp fo pc lp cl tk tc F gv) (fun r h => r = some (.int (-(nI 1))) ∧ h = (gm_h pre n μ sp fo pc lp cl tk tc F gv)) :=
  gs_M_caught _ _ _ _ (gx_run 6 (And.intro (gx_le8 rfl) (And.intro (fun c => absurd c (ga_nx (by decide) hw)) (fun c => And.intro (fun z => absurd rfl z) (fun _ => gx_run 2 (And.intro rfl rfl))))))
theorem ga_wy {way : Int32} (hw : ¬ (way < 0 ∨ nI 3 < way)) : lN 0 ≤ way.toInt64 ∧ way.toInt64 ≤ lN 3 := (ga_i64 _ 3 (by decide)).mpr ⟨fun h => hw (Or.inl h), fun h => hw (Or.inr h)⟩
theorem m_caught_n (way addr p : Int32) (hw : ¬ (way < 0 ∨ nI 3 < way)) : gx_call LL xs (d + 2) z_M_caught 0 0 [.ref 43, .int way, .int addr, .int p] (gm_h pre n μ sp none pc lp cl tk tc F gv) (fun r h => r = some (.int (-(nI 16))) ∧ h = (gm_h pre n μ sp none pc lp cl tk tc F gv)) :=
  gs_M_caught _ _ _ _ (gx_run 6 (And.intro (gx_le8 rfl) (And.intro (fun c => And.intro (fun _ => gx_run 3 (And.intro ⟨_, rfl⟩ (gx_c1 (gx_le8 rfl) m_hasFrame_n (And.intro (fun c => absurd rfl c) (fun _ => gx_run 3 (gx_c1 (gx_le8 rfl) m_f6 (And.intro rfl rfl))))))) (fun z => absurd z (by decide))) (fun c => absurd (ga_wy hw) c))))
theorem m_caught_w (way addr p : Int32) {f : Nat} (hw : ¬ (way < 0 ∨ nI 3 < way)) (hf : f + 8 ≤ 1024) (hl : ga_w μ (f + 4) ≤ ga_w μ f) (hcg : ga_cg μ way addr (some f) = false) : gx_call LL xs (d + 4) z_M_caught 0 0 [.ref 43, .int way, .int addr, .int p] (gm_h pre n μ sp (some f) pc lp cl tk tc F gv) (fun r h => r = some (.int (-(nI 13))) ∧ h = (gm_h pre n μ sp (some f) pc lp cl tk tc F gv)) := by
  have c4 := m_canGo (LL := LL) (xs := xs) (d := d) (pre := pre) (n := n) (μ := μ) (sp := sp) (fo := some f) (pc := pc) (lp := lp) (cl := cl) (tk := tk) (tc := tc) (F := F) (gv := gv) way addr (fp2 := some f) (fun g h => by cases h; exact ⟨hf, hl⟩)
  rw [hcg] at c4
  exact gs_M_caught _ _ _ _ (gx_run 6 (And.intro (gx_le8 rfl) (And.intro (fun c => And.intro (fun _ => gx_run 3 (And.intro ⟨_, rfl⟩ (gx_c1 (gx_le8 rfl) (m_hasFrame (by omega)) (And.intro (fun _ => gx_run 7 (And.intro ⟨_, rfl⟩ (gx_c1 (gx_le8 rfl) c4 (And.intro (fun c => absurd rfl c) (fun _ => gx_run 3 (gx_c1 (gx_le8 rfl) m_f3 (And.intro rfl rfl))))))) (fun c => absurd c (by decide)))))) (fun z => absurd z (by decide))) (fun c => absurd (ga_wy hw) c))))
theorem m_caught_q (way addr p : Int32) {f : Nat} {Q : gx_Q} (hw : ¬ (way < 0 ∨ nI 3 < way)) (hf : f + 8 ≤ 1024) (hl : ga_w μ (f + 4) ≤ ga_w μ f) (hcg : ga_cg μ way addr (some f) = true) (hO : gx_E LL xs (gx_call LL xs (d + 3)) cd_M_caught Q 34 [some (.ref 43), some (.int way), some (.int addr), some (.int p), none] [.int (nI (if way = nI 3 then 4 else 0)), .int (nI (sp + 16))] (gm_h pre n μ sp (some f) pc lp cl tk tc F gv) 0 0) : gx_call LL xs (d + 4) z_M_caught 0 0 [.ref 43, .int way, .int addr, .int p] (gm_h pre n μ sp (some f) pc lp cl tk tc F gv) Q := by
  have c4 := m_canGo (LL := LL) (xs := xs) (d := d) (pre := pre) (n := n) (μ := μ) (sp := sp) (fo := some f) (pc := pc) (lp := lp) (cl := cl) (tk := tk) (tc := tc) (F := F) (gv := gv) way addr (fp2 := some f) (fun g h => by cases h; exact ⟨hf, hl⟩)
  rw [hcg] at c4
  rw [← nI_add] at hO
  refine gs_M_caught _ _ _ _ (gx_run 6 (And.intro (gx_le8 rfl) (And.intro (fun c => And.intro (fun _ => gx_run 3 (And.intro ⟨_, rfl⟩ (gx_c1 (gx_le8 rfl) (m_hasFrame (by omega)) (And.intro (fun _ => gx_run 7 (And.intro ⟨_, rfl⟩ (gx_c1 (gx_le8 rfl) c4 (And.intro (fun _ => gx_run 7 ?_) (fun c => absurd c (by decide)))))) (fun c => absurd c (by decide)))))) (fun z => absurd z (by decide))) (fun c => absurd (ga_wy hw) c))))
  by_cases c : way = nI 3
  · rw [if_pos c] at hO
    exact And.intro (fun z => absurd c z) (fun _ => gx_run 2 hO)
  · rw [if_neg c] at hO
    exact And.intro (fun _ => gx_run 1 hO) (fun z => absurd z c)
theorem m_caught_f (way addr p : Int32) {f : Nat} (hw : ¬ (way < 0 ∨ nI 3 < way)) (hf : f + 8 ≤ 1024) (hl : ga_w μ (f + 4) ≤ ga_w μ f) (hs : sp ≤ n) (hn : n ≤ 1024) (hcg : ga_cg μ way addr (some f) = true) (hfull : n < sp + 16 + (if way = nI 3 then 4 else 0)) : gx_call LL xs (d + 4) z_M_caught 0 0 [.ref 43, .int way, .int addr, .int p] (gm_h pre n μ sp (some f) pc lp cl tk tc F gv) (fun r h => r = some (.int (-(nI 15))) ∧ h = (gm_h pre n μ sp (some f) pc lp cl tk tc F gv)) := by
  have hb : (if way = nI 3 then 4 else 0) ≤ 4 := by split <;> omega
  exact m_caught_q way addr p hw hf hl hcg (gx_run 4 (And.intro (fun c => absurd c (by rw [nI_add]; exact nI_ge hfull (by omega))) (fun _ => gx_run 3 (gx_c1 (gx_le8 rfl) m_f5 (And.intro rfl rfl)))))
theorem m_caught (way addr p : Int32) {f : Nat} (hw : ¬ (way < 0 ∨ nI 3 < way)) (hf : f + 8 ≤ sp) (hfn : f + ga_w μ f ≤ sp) (hl : ga_w μ (f + 4) ≤ ga_w μ f) (hn : n ≤ 1024) (hcg : ga_cg μ way addr (some f) = true) (hfull : sp + 16 + (if way = nI 3 then 4 else 0) ≤ n) (htc : tc < 64) : gx_call LL xs (d + 4) z_M_caught 0 0 [.ref 43, .int way, .int addr, .int p] (gm_h pre n μ sp (some f) pc lp cl tk tc F gv)
    (fun r h => r = some (.int (nI (sp + 16))) ∧ h = (gm_h pre n (ga_g1 (ga_st μ sp way addr p (nI f)) (sp + 16) (some f) way addr (nI (sp + 16))) (ga_g2 (sp + 16) way) (some f) pc lp (ga_g3 cl way addr (nI (sp + 16))) (va_up tk tc (sp + 16)) (tc + 1) F gv)) := by
  have hb : (if way = nI 3 then 4 else 0) ≤ 4 := by split <;> omega
  have hs16 : sp + 16 ≤ 1024 := by omega
  have hout : ∀ i, i < sp → ga_st μ sp way addr p (nI f) i = μ i := fun i hi => ga_st_out (Or.inl hi)
  have w1 : ga_w (ga_st μ sp way addr p (nI f)) f = ga_w μ f := ga_w_cong fun i h1 h2 => hout i (by omega)
  have w2 : ga_w (ga_st μ sp way addr p (nI f)) (f + 4) = ga_w μ (f + 4) := ga_w_cong fun i h1 h2 => hout i (by omega)
  have hcg2 : ga_cg (ga_st μ sp way addr p (nI f)) way addr (some f) = true := by
    rw [← hcg]
    exact ga_cg_cong fun g h => by cases h; exact ⟨w1, w2⟩
  have c5 := m_stub (LL := LL) (xs := xs) (d := d) (pre := pre) (n := n) (μ := μ) (sp := sp) (fo := some f) (pc := pc) (lp := lp) (cl := cl) (tk := tk) (tc := tc) (F := F) (gv := gv) way addr p hs16
  have c7 := m_go (LL := LL) (xs := xs) (d := d) (pre := pre) (n := n) (μ := ga_st μ sp way addr p (nI f)) (sp := sp + 16) (fo := some f) (pc := pc) (lp := lp) (cl := cl) (tk := va_up tk tc (sp + 16)) (tc := tc + 1) (F := F) (gv := gv) way addr (nI (sp + 16)) hs16 (fun g h => by cases h; rw [w1]; exact ⟨by omega, by omega⟩) hcg2 (fun h => by rw [if_pos h] at hfull; omega)
  have e : (gm_h pre n (ga_st μ sp way addr p (nI f)) (sp + 16) (some f) pc lp cl (va_up tk tc (sp + 16)) (tc + 1) F gv) = ((gm_h pre n (ga_st μ sp way addr p (nI f)) (sp + 16) (some f) pc lp cl tk tc F gv).set 51 (.inl (0, 64, upd (fun i => nI (tk i)) tc (nI (sp + 16))))).set 43 (.inr (.inr (3, [.int (nI n), .ref 44, .int (nI (sp + 16)), .int (ga_fp (some f)), .int pc, .ref 45, .ref 46, .ref 47, .ref 48, .ref 49, .ref 50, .ref 51, .int (nI tc + nI 1), .int lp, .ref 52]))) := by
    rw [gm_byte, nI_add]
    rfl
  rw [e] at c7
  refine m_caught_q way addr p hw (by omega) hl hcg (gx_run 4 (And.intro (fun _ => ?_) (fun c => absurd (by rw [nI_add]; exact nI_le hfull (by omega)) c)))
  exact gx_run 27 (And.intro ⟨_, rfl⟩ (gx_c1 (gx_le8 rfl) c5 (gx_ar tc rfl htc (by decide) (And.intro ⟨_, rfl⟩ (gx_c1 (gx_le8 rfl) c7 (And.intro rfl rfl))))))
end GMF
end
section
/-! The reference: throws, calls, tail calls. -/
theorem ga_gb_cong {acc : Nat} {V W : Nat → Int32} : ∀ {m : Nat}, (∀ i, i < m → V i = W i) → ga_gb acc V m = ga_gb acc W m
  | 0, _ => rfl
  | m + 1, h => by
    unfold ga_gb
    rw [ga_gb_cong fun i hi => h i (by omega), h m (by omega)]
section GMG
variable {LL : Nat} {xs : Nat → Int32} {d : Nat} {pre : Nat → gx_A} {n : Nat} {μ : Nat → Nat} {sp : Nat} {fo : Option Nat} {pc lp : Int32} {cl : Nat → Int32} {tk : Nat → Nat} {tc : Nat} {F : Nat → ga_F} {gv : Nat → Int32} {k : Nat} {M : ga_M}
theorem m_thrown_0 {x v : Int32} {Q : gx_Q} (hc : tc ≤ 64) (hx : ∀ j, j < tc → ¬ nI (tk j) = x) (hO : ∀ w : Option Value, gx_E LL xs (gx_call LL xs d) cd_M_thrown Q 22 [some (.ref 43), some (.int x), some (.int v), some (.int (nI 0)), w, none, none, none] [] (gm_h pre n μ sp fo pc lp cl tk tc F gv) 0 0) : ∀ (q i : Nat), i + q = tc →
    gx_E LL xs (gx_call LL xs d) cd_M_thrown Q 4 [some (.ref 43), some (.int x), some (.int v), some (.int (nI 0)), some (.int (nI i)), none, none, none] [] (gm_h pre n μ sp fo pc lp cl tk tc F gv) 0 0 := by
  intro q
  induction q with
  | zero =>
    intro i hq
    obtain rfl : i = tc := by omega
    exact gx_run 4 (And.intro (fun _ => hO _) (fun c => absurd (nI_le (Nat.le_refl i) (by omega)) c))
  | succ q ih =>
    intro i hq
    have h9 := ih (i + 1) (by omega)
    rw [← nI_add i 1] at h9
    exact gx_run 4 (And.intro (fun c => absurd c (nI_ge (show i < tc by omega) (by omega))) (fun _ => gx_run 2 (And.intro (fun c => absurd rfl c) (fun _ => gx_run 6 (gx_ar i rfl (show i < 64 by omega) (by decide) (And.intro (fun _ => gx_run 4 h9) (fun c => absurd c (hx i (by omega)))))))))
theorem m_thrown_1 {x v : Int32} {Q : gx_Q} (hc : tc ≤ 64) (hO : ∀ w : Option Value, gx_E LL xs (gx_call LL xs d) cd_M_thrown Q 22 [some (.ref 43), some (.int x), some (.int v), some (.int (nI 1)), w, none, none, none] [] (gm_h pre n μ sp fo pc lp cl tk tc F gv) 0 0) : ∀ (q i : Nat), i + q = tc →
    gx_E LL xs (gx_call LL xs d) cd_M_thrown Q 4 [some (.ref 43), some (.int x), some (.int v), some (.int (nI 1)), some (.int (nI i)), none, none, none] [] (gm_h pre n μ sp fo pc lp cl tk tc F gv) 0 0 := by
  intro q
  induction q with
  | zero =>
    intro i hq
    obtain rfl : i = tc := by omega
    exact gx_run 4 (And.intro (fun _ => hO _) (fun c => absurd (nI_le (Nat.le_refl i) (by omega)) c))
  | succ q ih =>
    intro i hq
    have h9 := ih (i + 1) (by omega)
    rw [← nI_add i 1] at h9
    exact gx_run 4 (And.intro (fun c => absurd c (nI_ge (show i < tc by omega) (by omega))) (fun _ => gx_run 2 (And.intro (fun _ => gx_run 5 h9) (fun c => absurd c (by decide)))))
theorem m_thrown_2 {x v : Int32} {Q : gx_Q} {j : Nat} (hc : tc ≤ 64) (hj : j < tc) (hx : nI (tk j) = x) (hO : ∀ w : Option Value, gx_E LL xs (gx_call LL xs d) cd_M_thrown Q 22 [some (.ref 43), some (.int x), some (.int v), some (.int (nI 1)), w, none, none, none] [] (gm_h pre n μ sp fo pc lp cl tk tc F gv) 0 0) : ∀ (q i : Nat), i + q = j →
    gx_E LL xs (gx_call LL xs d) cd_M_thrown Q 4 [some (.ref 43), some (.int x), some (.int v), some (.int (nI 0)), some (.int (nI i)), none, none, none] [] (gm_h pre n μ sp fo pc lp cl tk tc F gv) 0 0 := by
  intro q
  induction q with
  | zero =>
    intro i hq
    obtain rfl : i = j := by omega
    have h9 := m_thrown_1 (LL := LL) (xs := xs) (d := d) (pre := pre) (n := n) (μ := μ) (sp := sp) (fo := fo) (pc := pc) (lp := lp) (cl := cl) (tk := tk) (tc := tc) (F := F) (gv := gv) hc hO (tc - (i + 1)) (i + 1) (by omega)
    rw [← nI_add i 1] at h9
    exact gx_run 4 (And.intro (fun c => absurd c (nI_ge (show i < tc by omega) (by omega))) (fun _ => gx_run 2 (And.intro (fun c => absurd rfl c) (fun _ => gx_run 6 (gx_ar i rfl (show i < 64 by omega) (by decide) (And.intro (fun c => absurd hx c) (fun _ => gx_run 5 h9)))))))
  | succ q ih =>
    intro i hq
    have h9 := ih (i + 1) (by omega)
    rw [← nI_add i 1] at h9
    by_cases hxi : nI (tk i) = x
    · have h8 := m_thrown_1 (LL := LL) (xs := xs) (d := d) (pre := pre) (n := n) (μ := μ) (sp := sp) (fo := fo) (pc := pc) (lp := lp) (cl := cl) (tk := tk) (tc := tc) (F := F) (gv := gv) hc hO (tc - (i + 1)) (i + 1) (by omega)
      rw [← nI_add i 1] at h8
      exact gx_run 4 (And.intro (fun c => absurd c (nI_ge (show i < tc by omega) (by omega))) (fun _ => gx_run 2 (And.intro (fun c => absurd rfl c) (fun _ => gx_run 6 (gx_ar i rfl (show i < 64 by omega) (by decide) (And.intro (fun c => absurd hxi c) (fun _ => gx_run 5 h8)))))))
    · exact gx_run 4 (And.intro (fun c => absurd c (nI_ge (show i < tc by omega) (by omega))) (fun _ => gx_run 2 (And.intro (fun c => absurd rfl c) (fun _ => gx_run 6 (gx_ar i rfl (show i < 64 by omega) (by decide) (And.intro (fun _ => gx_run 4 h9) (fun c => absurd c hxi)))))))
theorem m_thrown_n (x v : Int32) (hc : tc ≤ 64) (hx : ∀ j, j < tc → ¬ nI (tk j) = x) : gx_call LL xs (d + 2) z_M_thrown 0 0 [.ref 43, .int x, .int v] (gm_h pre n μ sp fo pc lp cl tk tc F gv) (fun r h => r = some (.int (-(nI 14))) ∧ h = (gm_h pre n μ sp fo pc lp cl tk tc F gv)) := by
  refine gs_M_thrown _ _ _ (gx_run 4 (m_thrown_0 hc hx (fun w => ?_) tc 0 (Nat.zero_add _)))
  exact gx_run 2 (And.intro (fun c => absurd rfl c) (fun _ => gx_run 3 (gx_c1 (gx_le8 rfl) m_f4 (And.intro rfl rfl))))
theorem m_thrown_q {v : Int32} {j t : Nat} {fp2 : Option Nat} {Q : gx_Q} (hc : tc ≤ 64) (hj : j < tc) (ht : tk j = t) (h16 : 16 ≤ t) (ht2 : t ≤ 1024) (hrd : ga_rd μ (t - 4) 4 = ga_fp fp2) (hf : ∀ g, fp2 = some g → g + 8 ≤ 1024 ∧ ga_w μ (g + 4) ≤ ga_w μ g)
    (hO : gx_E LL xs (gx_call LL xs (d + 3)) cd_M_thrown Q 55 [some (.ref 43), some (.int (nI t)), some (.int v), some (.int (nI 1)), some (.int (nI (t - 16))), some (.int (ga_rd μ (t - 16) 4)), some (.int (ga_rd μ (t - 12) 4)), some (.int (ga_fp fp2))] [.int (ga_b (ga_cg μ (ga_rd μ (t - 16) 4) (ga_rd μ (t - 12) 4) fp2))] (gm_h pre n μ sp fo pc lp cl tk tc F gv) 0 0) :
    gx_call LL xs (d + 4) z_M_thrown 0 0 [.ref 43, .int (nI t), .int v] (gm_h pre n μ sp fo pc lp cl tk tc F gv) Q := by
  have r1 := m_read (LL := LL) (xs := xs) (d := d + 2) (pre := pre) (n := n) (μ := μ) (sp := sp) (fo := fo) (pc := pc) (lp := lp) (cl := cl) (tk := tk) (tc := tc) (F := F) (gv := gv) (a := t - 16) (w := 4) (by omega)
  have r2 := m_read (LL := LL) (xs := xs) (d := d + 2) (pre := pre) (n := n) (μ := μ) (sp := sp) (fo := fo) (pc := pc) (lp := lp) (cl := cl) (tk := tk) (tc := tc) (F := F) (gv := gv) (a := t - 12) (w := 4) (by omega)
  have r3 := m_read (LL := LL) (xs := xs) (d := d + 2) (pre := pre) (n := n) (μ := μ) (sp := sp) (fo := fo) (pc := pc) (lp := lp) (cl := cl) (tk := tk) (tc := tc) (F := F) (gv := gv) (a := t - 4) (w := 4) (by omega)
  rw [show nI (t - 12) = nI (t - 16) + nI 4 by rw [nI_add]; congr 1; omega] at r2
  rw [show nI (t - 4) = nI (t - 16) + nI 12 by rw [nI_add]; congr 1; omega, hrd] at r3
  refine gs_M_thrown _ _ _ (gx_run 4 (m_thrown_2 hc hj (by rw [ht]) (fun w => gx_run 2 (And.intro (fun _ => gx_run 4 ?_) (fun c => absurd c (by decide)))) j 0 (Nat.zero_add _)))
  show gx_E _ _ _ _ _ 31 [some (.ref 43), some (.int (nI t)), some (.int v), some (.int (nI 1)), some (.int (nI t - nI 16)), none, none, none] [] (gm_h pre n μ sp fo pc lp cl tk tc F gv) _ _
  rw [pk_sub h16]
  exact gx_run 24 (And.intro ⟨_, rfl⟩ (gx_c1 (gx_le8 rfl) r1 (And.intro ⟨_, rfl⟩ (gx_c1 (gx_le8 rfl) r2 (And.intro ⟨_, rfl⟩ (gx_c1 (gx_le8 rfl) r3 (And.intro ⟨_, rfl⟩ (gx_c1 (gx_le8 rfl) (m_canGo _ _ hf) hO))))))))
theorem m_thrown_e {v : Int32} {j t : Nat} {fp2 : Option Nat} (hc : tc ≤ 64) (hj : j < tc) (ht : tk j = t) (h16 : 16 ≤ t) (ht2 : t ≤ 1024) (hrd : ga_rd μ (t - 4) 4 = ga_fp fp2) (hf : ∀ g, fp2 = some g → g + 8 ≤ 1024 ∧ ga_w μ (g + 4) ≤ ga_w μ g) (hcg : ga_cg μ (ga_rd μ (t - 16) 4) (ga_rd μ (t - 12) 4) fp2 = false) :
    gx_call LL xs (d + 4) z_M_thrown 0 0 [.ref 43, .int (nI t), .int v] (gm_h pre n μ sp fo pc lp cl tk tc F gv) (fun r h => r = some (.int (-(nI 13))) ∧ h = (gm_h pre n μ sp fo pc lp cl tk tc F gv)) := by
  refine m_thrown_q hc hj ht h16 ht2 hrd hf ?_
  rw [hcg]
  exact gx_run 1 (And.intro (fun c => absurd rfl c) (fun _ => gx_run 3 (gx_c1 (gx_le8 rfl) m_f3 (And.intro rfl rfl))))
theorem m_thrown {v : Int32} {j t c : Nat} {fp2 : Option Nat} (hc : tc ≤ 64) (hj : j < tc) (ht : tk j = t) (h16 : 16 ≤ t) (ht2 : t ≤ sp) (hs : sp ≤ 1024) (hrd : ga_rd μ (t - 4) 4 = ga_fp fp2) (hf : ∀ g, fp2 = some g → g + 8 ≤ 1024 ∧ ga_w μ (g + 4) ≤ ga_w μ g ∧ g + ga_w μ g ≤ 1024) (hcg : ga_cg μ (ga_rd μ (t - 16) 4) (ga_rd μ (t - 12) 4) fp2 = true)
    (hlow : ∀ c', c = c' + 1 → tk c' < t) (hcc : c ≤ tc) (hi : ∀ i, c ≤ i → i < tc → t ≤ tk i ∧ tk i < 2147483648) :
    gx_call LL xs (d + 4) z_M_thrown 0 0 [.ref 43, .int (nI t), .int v] (gm_h pre n μ sp fo pc lp cl tk tc F gv) (fun r h => r = some (.int (ga_fp fp2)) ∧ h = (gm_h pre n (ga_g1 μ (t - 16) fp2 (ga_rd μ (t - 16) 4) (ga_rd μ (t - 12) 4) v) (ga_g2 (t - 16) (ga_rd μ (t - 16) 4)) fp2 (ga_rd μ (t - 8) 4) lp (ga_g3 cl (ga_rd μ (t - 16) 4) (ga_rd μ (t - 12) 4) v) tk c F gv)) := by
  refine m_thrown_q hc hj ht h16 (by omega) hrd (fun g h => ⟨(hf g h).1, (hf g h).2.1⟩) ?_
  rw [hcg]
  have r0 := m_drop (LL := LL) (xs := xs) (d := d + 2) (pre := pre) (n := n) (μ := μ) (sp := sp) (fo := fo) (pc := pc) (lp := lp) (cl := cl) (tk := tk) (tc := tc) (F := F) (gv := gv) (p := t) (c := c) (by omega) hlow hcc hc hi
  have r1 := m_read (LL := LL) (xs := xs) (d := d + 2) (pre := pre) (n := n) (μ := μ) (sp := t - 16) (fo := fo) (pc := pc) (lp := lp) (cl := cl) (tk := tk) (tc := c) (F := F) (gv := gv) (a := t - 8) (w := 4) (by omega)
  have r5 := m_go (LL := LL) (xs := xs) (d := d) (pre := pre) (n := n) (μ := μ) (sp := t - 16) (fo := fp2) (pc := ga_rd μ (t - 8) 4) (lp := lp) (cl := cl) (tk := tk) (tc := c) (F := F) (gv := gv) (ga_rd μ (t - 16) 4) (ga_rd μ (t - 12) 4) v (by omega) (fun g h => ⟨(hf g h).1, (hf g h).2.2⟩) hcg (fun _ => by omega)
  rw [show nI (t - 8) = nI (t - 16) + nI 8 by rw [nI_add]; congr 1; omega] at r1
  refine gx_run 1 (And.intro (fun _ => gx_run 25 ?_) (fun c => absurd c (by decide)))
  exact And.intro ⟨_, rfl⟩ (gx_c1 (gx_le8 rfl) r0 (And.intro ⟨_, rfl⟩ (gx_c1 (gx_le8 rfl) r1 (And.intro ⟨_, rfl⟩ (gx_c1 (gx_le8 rfl) r5 (And.intro rfl rfl))))))
/-! call -/
theorem m_call_b (x y way addr p : Int32) (hx : (x < 0 ∨ nI 12 ≤ x) ∨ y < 0 ∨ way < 0 ∨ nI 3 < way) : gx_call LL xs (d + 2) z_M_call 0 0 [.ref 43, .int x, .int y, .int way, .int addr, .int p] (gm_h pre n μ sp fo pc lp cl tk tc F gv) (fun r h => r = some (.int (-(nI 1))) ∧ h = (gm_h pre n μ sp fo pc lp cl tk tc F gv)) := by
  by_cases h : x < 0 ∨ nI 12 ≤ x
  · exact gs_M_call _ _ _ _ _ _ (gx_run 3 (gx_c1 (gx_le8 rfl) (m_isFunction_f h) (And.intro (fun _ => gx_run 2 (And.intro rfl rfl)) (fun c => absurd rfl c))))
  · have hx2 := hx.resolve_left h
    rcases pk_ix x (n := 12) (by decide) with c | c | ⟨k, hk, rfl⟩
    · exact absurd (Or.inl c) h
    · exact absurd (Or.inr c) h
    · refine gs_M_call _ _ _ _ _ _ (gx_run 3 (gx_c1 (gx_le8 rfl) (m_isFunction_t hk) (And.intro (fun c => absurd c (by decide)) (fun _ => gx_run 2 (And.intro (fun _ => gx_run 2 (And.intro rfl rfl)) (fun c1 => gx_run 6 (And.intro (gx_le8 rfl) (And.intro (fun c => absurd c (ga_nx (by decide) ?_)) (fun c => And.intro (fun z => absurd rfl z) (fun _ => gx_run 2 (And.intro rfl rfl)))))))))))
      rcases hx2 with h2 | h2 | h2
      · exact absurd h2 c1
      · exact Or.inl h2
      · exact Or.inr h2
theorem m_call_p {m : Nat} {Q : gx_Q} (way addr p : Int32) (hk : k < 12) (hm : m < 2147483648) (hw : ¬ (way < 0 ∨ nI 3 < way)) (hO : gx_E LL xs (gx_call LL xs (d + 1)) cd_M_call Q 13 [some (.ref 43), some (.int (nI k)), some (.int (nI m)), some (.int way), some (.int addr), some (.int p)] [] (gm_h pre n μ sp fo pc lp cl tk tc F gv) 0 0) :
    gx_call LL xs (d + 2) z_M_call 0 0 [.ref 43, .int (nI k), .int (nI m), .int way, .int addr, .int p] (gm_h pre n μ sp fo pc lp cl tk tc F gv) Q :=
  gs_M_call _ _ _ _ _ _ (gx_run 3 (gx_c1 (gx_le8 rfl) (m_isFunction_t hk) (And.intro (fun c => absurd c (by decide)) (fun _ => gx_run 2 (And.intro (fun c => absurd c (nI_pos hm)) (fun c1 => gx_run 6 (And.intro (gx_le8 rfl) (And.intro (fun c => And.intro (fun _ => hO) (fun z => absurd z (by decide))) (fun c => absurd (ga_wy hw) c)))))))))
theorem m_call_n {m : Nat} (way addr p : Int32) (hk : k < 12) (hm : m < 2147483648) (h1 : 0 < m) (hw : ¬ (way < 0 ∨ nI 3 < way)) : gx_call LL xs (d + 2) z_M_call 0 0 [.ref 43, .int (nI k), .int (nI m), .int way, .int addr, .int p] (gm_h pre n μ sp none pc lp cl tk tc F gv) (fun r h => r = some (.int (-(nI 16))) ∧ h = (gm_h pre n μ sp none pc lp cl tk tc F gv)) :=
  m_call_p way addr p hk hm hw (gx_run 2 (And.intro (fun c => absurd c (nI_nle h1 hm)) (fun _ => gx_run 3 (And.intro ⟨_, rfl⟩ (gx_c1 (gx_le8 rfl) m_hasFrame_n (And.intro (fun c => absurd rfl c) (fun _ => gx_run 3 (gx_c1 (gx_le8 rfl) m_f6 (And.intro rfl rfl)))))))))
theorem m_call_v {m f : Nat} {Q : gx_Q} (way addr p : Int32) (hmk : ga_mk μ sp M) (htk : ga_tk tk M) (hs : sp ≤ 1024) (hk : k < 12) (hm : m < 2147483648) (hw : ¬ (way < 0 ∨ nI 3 < way)) (h1 : 0 < m) (hf : ga_top M = some f)
    (hO : gx_E LL xs (gx_call LL xs (d + 3)) cd_M_call Q 26 [some (.ref 43), some (.int (nI k)), some (.int (nI m)), some (.int way), some (.int addr), some (.int p)] [.int (nI (ga_vc μ sp M)), .int (nI m)] (gm_h pre n μ sp (ga_top M) pc lp cl tk (ga_tc M) F gv) 0 0) :
    gx_call LL xs (d + 4) z_M_call 0 0 [.ref 43, .int (nI k), .int (nI m), .int way, .int addr, .int p] (gm_h pre n μ sp (ga_top M) pc lp cl tk (ga_tc M) F gv) Q := by
  have hlt := ga_top_lt hmk hf
  have hvc := m_values (LL := LL) (xs := xs) (d := d) (pre := pre) (n := n) (pc := pc) (lp := lp) (cl := cl) (F := F) (gv := gv) hmk htk hs hf
  rw [hf] at hvc hO ⊢
  exact m_call_p way addr p hk hm hw (gx_run 2 (And.intro (fun c => absurd c (nI_nle h1 hm)) (fun _ => gx_run 3 (And.intro ⟨_, rfl⟩ (gx_c1 (gx_le8 rfl) (m_hasFrame (by omega)) (And.intro (fun _ => gx_run 2 (And.intro (fun c => absurd c (nI_nle h1 hm)) (fun _ => gx_run 3 (And.intro ⟨_, rfl⟩ (gx_c1 (gx_le8 rfl) hvc hO))))) (fun c => absurd c (by decide))))))))
theorem m_call_q {m : Nat} {Q : gx_Q} (way addr p : Int32) (hmk : ga_mk μ sp M) (htk : ga_tk tk M) (hs : sp ≤ 1024) (hk : k < 12) (hw : ¬ (way < 0 ∨ nI 3 < way)) (hfr : m = 0 ∨ ga_top M ≠ none) (hu : m ≤ ga_vc μ sp M)
    (hO : gx_E LL xs (gx_call LL xs (d + 3)) cd_M_call Q 30 [some (.ref 43), some (.int (nI k)), some (.int (nI m)), some (.int way), some (.int addr), some (.int p)] [] (gm_h pre n μ sp (ga_top M) pc lp cl tk (ga_tc M) F gv) 0 0) :
    gx_call LL xs (d + 4) z_M_call 0 0 [.ref 43, .int (nI k), .int (nI m), .int way, .int addr, .int p] (gm_h pre n μ sp (ga_top M) pc lp cl tk (ga_tc M) F gv) Q := by
  have hvl := ga_vc_le hmk
  by_cases h0 : m = 0
  · subst h0
    exact m_call_p way addr p hk (by decide) hw (gx_run 2 (And.intro (fun _ => gx_run 2 (And.intro (fun _ => hO) (fun c => absurd (by decide) c))) (fun c => absurd (by decide) c)))
  · cases hf : ga_top M with
    | none => exact absurd hf (hfr.resolve_left h0)
    | some f =>
      rw [← hf]
      exact m_call_v way addr p hmk htk hs hk (by omega) hw (by omega) hf (gx_run 1 (And.intro (fun _ => hO) (fun c => absurd (nI_le hu (by omega)) c)))
theorem m_call_u {m : Nat} (way addr p : Int32) (hmk : ga_mk μ sp M) (htk : ga_tk tk M) (hs : sp ≤ 1024) (hk : k < 12) (hm : m < 2147483648) (hw : ¬ (way < 0 ∨ nI 3 < way)) (hfr : m = 0 ∨ ga_top M ≠ none) (hu : ga_vc μ sp M < m) :
    gx_call LL xs (d + 4) z_M_call 0 0 [.ref 43, .int (nI k), .int (nI m), .int way, .int addr, .int p] (gm_h pre n μ sp (ga_top M) pc lp cl tk (ga_tc M) F gv) (fun r h => r = some (.int (-(nI 12))) ∧ h = (gm_h pre n μ sp (ga_top M) pc lp cl tk (ga_tc M) F gv)) := by
  cases hf : ga_top M with
  | none => exact absurd hf (hfr.resolve_left (by omega))
  | some f =>
    rw [← hf]
    exact m_call_v way addr p hmk htk hs hk hm hw (by omega) hf (gx_run 1 (And.intro (fun c => absurd c (nI_ge hu hm)) (fun _ => gx_run 3 (gx_c1 (gx_le8 rfl) m_f2 (And.intro rfl rfl)))))
theorem m_call_w {m : Nat} (way addr p : Int32) (hmk : ga_mk μ sp M) (htk : ga_tk tk M) (hs : sp ≤ 1024) (hk : k < 12) (hw : ¬ (way < 0 ∨ nI 3 < way)) (hfr : m = 0 ∨ ga_top M ≠ none) (hu : m ≤ ga_vc μ sp M) (ha : (F k).2.1 = 1 ∨ (F k).2.1 = 2 ∨ (F k).2.1 = 3) (hf : ∀ f, ga_top M = some f → f + 8 ≤ 1024 ∧ ga_w μ (f + 4) ≤ ga_w μ f) (hcg : ga_cg μ way addr (ga_top M) = false) :
    gx_call LL xs (d + 4) z_M_call 0 0 [.ref 43, .int (nI k), .int (nI m), .int way, .int addr, .int p] (gm_h pre n μ sp (ga_top M) pc lp cl tk (ga_tc M) F gv) (fun r h => r = some (.int (-(nI 13))) ∧ h = (gm_h pre n μ sp (ga_top M) pc lp cl tk (ga_tc M) F gv)) := by
  have c4 := m_canGo (LL := LL) (xs := xs) (d := d) (pre := pre) (n := n) (μ := μ) (sp := sp) (fo := ga_top M) (pc := pc) (lp := lp) (cl := cl) (tk := tk) (tc := ga_tc M) (F := F) (gv := gv) way addr (fp2 := ga_top M) hf
  rw [hcg] at c4
  exact m_call_q way addr p hmk htk hs hk hw hfr hu (gx_run 5 (gx_ar k rfl hk (by decide) (And.intro (fun c => absurd c (nI_nle (by omega) (by omega))) (fun _ => gx_run 7 (And.intro ⟨_, rfl⟩ (gx_c1 (gx_le8 rfl) c4 (And.intro (fun c => absurd rfl c) (fun _ => gx_run 3 (gx_c1 (gx_le8 rfl) m_f3 (And.intro rfl rfl))))))))))
theorem m_call_g {m : Nat} {Q : gx_Q} (way addr p : Int32) (hmk : ga_mk μ sp M) (htk : ga_tk tk M) (hs : sp ≤ 1024) (hk : k < 12) (hw : ¬ (way < 0 ∨ nI 3 < way)) (hfr : m = 0 ∨ ga_top M ≠ none) (hu : m ≤ ga_vc μ sp M) (ha : (F k).2.1 = 1 ∨ (F k).2.1 = 2 ∨ (F k).2.1 = 3) (hf : ∀ f, ga_top M = some f → f + 8 ≤ 1024 ∧ ga_w μ (f + 4) ≤ ga_w μ f) (hcg : ga_cg μ way addr (ga_top M) = true)
    (hO : gx_E LL xs (gx_call LL xs (d + 3)) cd_M_call Q 45 [some (.ref 43), some (.int (nI k)), some (.int (nI m)), some (.int way), some (.int addr), some (.int p)] [] (gm_h pre n μ sp (ga_top M) pc lp cl tk (ga_tc M) F gv) 0 0) :
    gx_call LL xs (d + 4) z_M_call 0 0 [.ref 43, .int (nI k), .int (nI m), .int way, .int addr, .int p] (gm_h pre n μ sp (ga_top M) pc lp cl tk (ga_tc M) F gv) Q := by
  have c4 := m_canGo (LL := LL) (xs := xs) (d := d) (pre := pre) (n := n) (μ := μ) (sp := sp) (fo := ga_top M) (pc := pc) (lp := lp) (cl := cl) (tk := tk) (tc := ga_tc M) (F := F) (gv := gv) way addr (fp2 := ga_top M) hf
  rw [hcg] at c4
  exact m_call_q way addr p hmk htk hs hk hw hfr hu (gx_run 5 (gx_ar k rfl hk (by decide) (And.intro (fun c => absurd c (nI_nle (by omega) (by omega))) (fun _ => gx_run 7 (And.intro ⟨_, rfl⟩ (gx_c1 (gx_le8 rfl) c4 (And.intro (fun _ => hO) (fun c => absurd c (by decide)))))))))
theorem m_call_k {m : Nat} (addr p : Int32) (hmk : ga_mk μ sp M) (htk : ga_tk tk M) (hs : sp ≤ n) (hn : n ≤ 1024) (hk : k < 12) (hfr : m = 0 ∨ ga_top M ≠ none) (hu : m ≤ ga_vc μ sp M) (ha : (F k).2.1 = 1 ∨ (F k).2.1 = 2 ∨ (F k).2.1 = 3) (hf : ∀ f, ga_top M = some f → f + 8 ≤ 1024 ∧ ga_w μ (f + 4) ≤ ga_w μ f) (hcg : ga_cg μ (nI 3) addr (ga_top M) = true) (hfull : n < sp - 4 * m + 4) :
    gx_call LL xs (d + 4) z_M_call 0 0 [.ref 43, .int (nI k), .int (nI m), .int (nI 3), .int addr, .int p] (gm_h pre n μ sp (ga_top M) pc lp cl tk (ga_tc M) F gv) (fun r h => r = some (.int (-(nI 15))) ∧ h = (gm_h pre n μ sp (ga_top M) pc lp cl tk (ga_tc M) F gv)) := by
  have hvl := ga_vc_le hmk
  exact m_call_g (nI 3) addr p hmk htk (by omega) hk (by decide) hfr hu ha hf hcg (gx_run 3 (And.intro (fun c => absurd rfl c) (fun _ => gx_run 11 (And.intro (fun c => absurd c (by rw [pk_mul, pk_sub (show 4 * m ≤ sp by omega), nI_add]; exact nI_ge hfull (by omega))) (fun _ => gx_run 3 (gx_c1 (gx_le8 rfl) m_f5 (And.intro rfl rfl)))))))
theorem m_call_a {m : Nat} (way addr p : Int32) (hmk : ga_mk μ sp M) (htk : ga_tk tk M) (hs : sp ≤ n) (hn : n ≤ 1024) (hk : k < 12) (hw : ¬ (way < 0 ∨ nI 3 < way)) (hfr : m = 0 ∨ ga_top M ≠ none) (hu : m ≤ ga_vc μ sp M) (ha : (F k).2.1 = 1 ∨ (F k).2.1 = 2 ∨ (F k).2.1 = 3) (hf : ∀ f, ga_top M = some f → f + 8 ≤ 1024 ∧ ga_w μ (f + 4) ≤ ga_w μ f ∧ f + ga_w μ f ≤ 1024) (hcg : ga_cg μ way addr (ga_top M) = true) (hfull : way = nI 3 → sp - 4 * m + 4 ≤ n) :
    gx_call LL xs (d + 4) z_M_call 0 0 [.ref 43, .int (nI k), .int (nI m), .int way, .int addr, .int p] (gm_h pre n μ sp (ga_top M) pc lp cl tk (ga_tc M) F gv) (fun r h => r = some (.int (nI 1)) ∧ h = (gm_h pre n (ga_g1 μ (sp - 4 * m) (ga_top M) way addr (ga_gb (F k).2.1 (ga_va μ sp) m)) (ga_g2 (sp - 4 * m) way) (ga_top M) pc lp (ga_g3 cl way addr (ga_gb (F k).2.1 (ga_va μ sp) m)) tk (ga_tc M) F (ga_tv μ sp m gv))) := by
  have hvl := ga_vc_le hmk
  have c1 := m_take (LL := LL) (xs := xs) (d := d + 1) (pre := pre) (n := n) (μ := μ) (sp := sp) (fo := ga_top M) (pc := pc) (lp := lp) (cl := cl) (tk := tk) (tc := ga_tc M) (F := F) (gv := gv) (m := m) (by omega) (by omega)
  have c2 := m_result (LL := LL) (xs := xs) (d := d + 2) (pre := pre) (n := n) (μ := μ) (sp := sp - 4 * m) (fo := ga_top M) (pc := pc) (lp := lp) (cl := cl) (tk := tk) (tc := ga_tc M) (F := F) (gv := ga_tv μ sp m gv) (m := m) (by omega) ha
  rw [ga_gb_cong (ga_tv_va (μ := μ) (sp := sp) (m := m) (tn := gv))] at c2
  have c3 := m_go (LL := LL) (xs := xs) (d := d) (pre := pre) (n := n) (μ := μ) (sp := sp - 4 * m) (fo := ga_top M) (pc := pc) (lp := lp) (cl := cl) (tk := tk) (tc := ga_tc M) (F := F) (gv := ga_tv μ sp m gv) way addr (ga_gb (F k).2.1 (ga_va μ sp) m) (by omega) (fun f h => ⟨(hf f h).1, (hf f h).2.2⟩) hcg (fun h => by have := hfull h; omega)
  have e : (gm_h pre n μ (sp - 4 * m) (ga_top M) pc lp cl tk (ga_tc M) F (ga_tv μ sp m gv)) = (gm_h pre n μ sp (ga_top M) pc lp cl tk (ga_tc M) F (ga_tv μ sp m gv)).set 43 (.inr (.inr (3, [.int (nI n), .ref 44, .int (nI sp - nI 4 * nI m), .int (ga_fp (ga_top M)), .int pc, .ref 45, .ref 46, .ref 47, .ref 48, .ref 49, .ref 50, .ref 51, .int (nI (ga_tc M)), .int lp, .ref 52]))) := by
    rw [pk_mul, pk_sub (by omega)]
    rfl
  have hO : gx_E LL xs (gx_call LL xs (d + 3)) cd_M_call (fun r h => r = some (.int (nI 1)) ∧ h = (gm_h pre n (ga_g1 μ (sp - 4 * m) (ga_top M) way addr (ga_gb (F k).2.1 (ga_va μ sp) m)) (ga_g2 (sp - 4 * m) way) (ga_top M) pc lp (ga_g3 cl way addr (ga_gb (F k).2.1 (ga_va μ sp) m)) tk (ga_tc M) F (ga_tv μ sp m gv))) 62 [some (.ref 43), some (.int (nI k)), some (.int (nI m)), some (.int way), some (.int addr), some (.int p)] [] (gm_h pre n μ sp (ga_top M) pc lp cl tk (ga_tc M) F gv) 0 0 := by
    have h9 : gx_E LL xs (gx_call LL xs (d + 3)) cd_M_call (fun r h => r = some (.int (nI 1)) ∧ h = (gm_h pre n (ga_g1 μ (sp - 4 * m) (ga_top M) way addr (ga_gb (F k).2.1 (ga_va μ sp) m)) (ga_g2 (sp - 4 * m) way) (ga_top M) pc lp (ga_g3 cl way addr (ga_gb (F k).2.1 (ga_va μ sp) m)) tk (ga_tc M) F (ga_tv μ sp m gv))) 73 [some (.ref 43), some (.int (nI k)), some (.int (nI m)), some (.int way), some (.int addr), some (.int p)] [] (gm_h pre n μ (sp - 4 * m) (ga_top M) pc lp cl tk (ga_tc M) F (ga_tv μ sp m gv)) 0 0 :=
      gx_run 13 (gx_ar k rfl hk (by decide) (And.intro ⟨_, rfl⟩ (gx_c1 (gx_le8 rfl) c2 (And.intro ⟨_, rfl⟩ (gx_c1 (gx_le8 rfl) c3 (And.intro rfl rfl))))))
    rw [e] at h9
    exact gx_run 11 (And.intro ⟨_, rfl⟩ (gx_c1 (gx_le8 rfl) c1 h9))
  refine m_call_g way addr p hmk htk (by omega) hk hw hfr hu ha (fun f h => ⟨(hf f h).1, (hf f h).2.1⟩) hcg (gx_run 3 (And.intro (fun _ => hO) (fun c => gx_run 11 (And.intro (fun _ => hO) (fun z => absurd ?_ z)))))
  rw [pk_mul, pk_sub (show 4 * m ≤ sp by omega), nI_add]
  exact nI_le (hfull c) (by omega)
theorem m_call_h {m : Nat} (way addr p : Int32) (hmk : ga_mk μ sp M) (htk : ga_tk tk M) (hs : sp ≤ 1024) (hk : k < 12) (hwf : ga_wf (F k)) (hw : ¬ (way < 0 ∨ nI 3 < way)) (hfr : m = 0 ∨ ga_top M ≠ none) (hu : m ≤ ga_vc μ sp M) (ha : (F k).2.1 = 0) (hh : ¬ ((F k).1 = 192 ∨ (F k).1 = 193)) :
    gx_call LL xs (d + 4) z_M_call 0 0 [.ref 43, .int (nI k), .int (nI m), .int way, .int addr, .int p] (gm_h pre n μ sp (ga_top M) pc lp cl tk (ga_tc M) F gv) (fun r h => r = some (.int (-(nI 11))) ∧ h = (gm_h pre n μ sp (ga_top M) pc lp cl tk (ga_tc M) F gv)) := by
  have c2 := m_hasHead (LL := LL) (xs := xs) (d := d + 2) (pre := pre) (n := n) (μ := μ) (sp := sp) (fo := ga_top M) (pc := pc) (lp := lp) (cl := cl) (tk := tk) (tc := ga_tc M) (F := F) (gv := gv) hk hwf.1
  rw [if_neg hh] at c2
  refine m_call_q way addr p hmk htk hs hk hw hfr hu (gx_run 5 (gx_ar k rfl hk (by decide) (And.intro (fun _ => ?_) (fun c => absurd (by show nI (F k).2.1 ≤ 0; rw [ha]; decide) c))))
  exact gx_run 4 (And.intro ⟨_, rfl⟩ (gx_c1 (gx_le8 rfl) c2 (And.intro (fun c => absurd rfl c) (fun _ => gx_run 3 (gx_c1 (gx_le8 rfl) m_f1 (And.intro rfl rfl))))))
theorem m_call_r {m : Nat} {Q : gx_Q} (way addr p : Int32) (hmk : ga_mk μ sp M) (htk : ga_tk tk M) (hs : sp ≤ 1024) (hk : k < 12) (hwf : ga_wf (F k)) (hw : ¬ (way < 0 ∨ nI 3 < way)) (hfr : m = 0 ∨ ga_top M ≠ none) (hu : m ≤ ga_vc μ sp M) (ha : (F k).2.1 = 0) (hh : (F k).1 = 192 ∨ (F k).1 = 193)
    (hO : gx_E LL xs (gx_call LL xs (d + 5)) cd_M_call Q 105 [some (.ref 43), some (.int (nI k)), some (.int (nI m)), some (.int way), some (.int addr), some (.int p)] [.int (nI (ga_room (F k) m)), .int (nI (sp - 4 * m + 16))] (gm_h pre n μ sp (ga_top M) pc lp cl tk (ga_tc M) F gv) 0 0) :
    gx_call LL xs (d + 6) z_M_call 0 0 [.ref 43, .int (nI k), .int (nI m), .int way, .int addr, .int p] (gm_h pre n μ sp (ga_top M) pc lp cl tk (ga_tc M) F gv) Q := by
  have hvl := ga_vc_le hmk
  have c2 := m_hasHead (LL := LL) (xs := xs) (d := d + 4) (pre := pre) (n := n) (μ := μ) (sp := sp) (fo := ga_top M) (pc := pc) (lp := lp) (cl := cl) (tk := tk) (tc := ga_tc M) (F := F) (gv := gv) hk hwf.1
  rw [if_pos hh] at c2
  rw [← nI_add, ← pk_sub (show 4 * m ≤ sp by omega), ← pk_mul] at hO
  refine m_call_q way addr p hmk htk hs hk hw hfr hu (gx_run 5 (gx_ar k rfl hk (by decide) (And.intro (fun _ => ?_) (fun c => absurd (by show nI (F k).2.1 ≤ 0; rw [ha]; decide) c))))
  exact gx_run 4 (And.intro ⟨_, rfl⟩ (gx_c1 (gx_le8 rfl) c2 (And.intro (fun _ => gx_run 12 (And.intro ⟨_, rfl⟩ (gx_c1 (gx_le8 rfl) (m_room hk hwf) hO))) (fun c => absurd c (by decide)))))
theorem m_call_f {m : Nat} (way addr p : Int32) (hmk : ga_mk μ sp M) (htk : ga_tk tk M) (hs : sp ≤ n) (hn : n ≤ 1024) (hk : k < 12) (hwf : ga_wf (F k)) (hw : ¬ (way < 0 ∨ nI 3 < way)) (hfr : m = 0 ∨ ga_top M ≠ none) (hu : m ≤ ga_vc μ sp M) (ha : (F k).2.1 = 0) (hh : (F k).1 = 192 ∨ (F k).1 = 193) (hfull : n < sp - 4 * m + 16 + ga_room (F k) m) :
    gx_call LL xs (d + 6) z_M_call 0 0 [.ref 43, .int (nI k), .int (nI m), .int way, .int addr, .int p] (gm_h pre n μ sp (ga_top M) pc lp cl tk (ga_tc M) F gv) (fun r h => r = some (.int (-(nI 15))) ∧ h = (gm_h pre n μ sp (ga_top M) pc lp cl tk (ga_tc M) F gv)) := by
  have hvl := ga_vc_le hmk
  have hrl := ga_room_le hwf (m := m)
  exact m_call_r way addr p hmk htk (by omega) hk hwf hw hfr hu ha hh (gx_run 4 (And.intro (fun c => absurd c (by rw [nI_add]; exact nI_ge hfull (by omega))) (fun _ => gx_run 3 (gx_c1 (gx_le8 rfl) m_f5 (And.intro rfl rfl)))))
theorem m_call {m : Nat} (way addr p : Int32) (hmk : ga_mk μ sp M) (htk : ga_tk tk M) (hn : n ≤ 1024) (hs : sp ≤ n) (hk : k < 12) (hwf : ga_wf (F k)) (hw : ¬ (way < 0 ∨ nI 3 < way)) (hfr : m = 0 ∨ ga_top M ≠ none) (hu : m ≤ ga_vc μ sp M) (ha : (F k).2.1 = 0) (hh : (F k).1 = 192 ∨ (F k).1 = 193) (hfull : sp - 4 * m + 16 + ga_room (F k) m ≤ n) :
    gx_call LL xs (d + 6) z_M_call 0 0 [.ref 43, .int (nI k), .int (nI m), .int way, .int addr, .int p] (gm_h pre n μ sp (ga_top M) pc lp cl tk (ga_tc M) F gv) (fun r h => r = some (.int (nI (sp - 4 * m + 16))) ∧ h = (gm_h pre n (ga_en (F k) (ga_va μ sp) m (ga_st μ (sp - 4 * m) way addr p (ga_fp (ga_top M))) (sp - 4 * m + 16)) (sp - 4 * m + 16 + ga_room (F k) m) (some (sp - 4 * m + 16)) pc lp cl tk (ga_tc M) F (ga_tv μ sp m gv))) := by
  have hvl := ga_vc_le hmk
  rw [← ga_en_cong (ga_tv_va (μ := μ) (sp := sp) (m := m) (tn := gv))]
  have c1 := m_take (LL := LL) (xs := xs) (d := d + 3) (pre := pre) (n := n) (μ := μ) (sp := sp) (fo := ga_top M) (pc := pc) (lp := lp) (cl := cl) (tk := tk) (tc := ga_tc M) (F := F) (gv := gv) (m := m) (by omega) (by omega)
  have c2 := m_stub (LL := LL) (xs := xs) (d := d + 2) (pre := pre) (n := n) (μ := μ) (sp := sp - 4 * m) (fo := ga_top M) (pc := pc) (lp := lp) (cl := cl) (tk := tk) (tc := ga_tc M) (F := F) (gv := ga_tv μ sp m gv) way addr p (by omega)
  have c3 := m_enter (LL := LL) (xs := xs) (d := d) (pre := pre) (n := n) (μ := ga_st μ (sp - 4 * m) way addr p (ga_fp (ga_top M))) (sp := sp - 4 * m + 16) (fo := ga_top M) (pc := pc) (lp := lp) (cl := cl) (tk := tk) (tc := ga_tc M) (F := F) (gv := ga_tv μ sp m gv) (m := m) hk hwf hh (by omega) (by omega)
  have e : (gm_h pre n μ (sp - 4 * m) (ga_top M) pc lp cl tk (ga_tc M) F (ga_tv μ sp m gv)) = (gm_h pre n μ sp (ga_top M) pc lp cl tk (ga_tc M) F (ga_tv μ sp m gv)).set 43 (.inr (.inr (3, [.int (nI n), .ref 44, .int (nI sp - nI 4 * nI m), .int (ga_fp (ga_top M)), .int pc, .ref 45, .ref 46, .ref 47, .ref 48, .ref 49, .ref 50, .ref 51, .int (nI (ga_tc M)), .int lp, .ref 52]))) := by
    rw [pk_mul, pk_sub (by omega)]
    rfl
  rw [e] at c2
  refine m_call_r way addr p hmk htk (by omega) hk hwf hw hfr hu ha hh (gx_run 4 (And.intro (fun _ => ?_) (fun c => absurd (by rw [nI_add]; exact nI_le hfull (by omega)) c)))
  exact gx_run 23 (And.intro ⟨_, rfl⟩ (gx_c1 (gx_le8 rfl) c1 (And.intro ⟨_, rfl⟩ (gx_c1 (gx_le8 rfl) c2 (And.intro ⟨_, rfl⟩ (gx_c1 (gx_le8 rfl) c3 (And.intro rfl rfl)))))))
/-! tail -/
theorem m_tail_b (x y : Int32) (hx : (x < 0 ∨ nI 12 ≤ x) ∨ y < 0) : gx_call LL xs (d + 2) z_M_tail 0 0 [.ref 43, .int x, .int y] (gm_h pre n μ sp fo pc lp cl tk tc F gv) (fun r h => r = some (.int (-(nI 1))) ∧ h = (gm_h pre n μ sp fo pc lp cl tk tc F gv)) := by
  by_cases h : x < 0 ∨ nI 12 ≤ x
  · exact gs_M_tail _ _ _ (gx_run 3 (gx_c1 (gx_le8 rfl) (m_isFunction_f h) (And.intro (fun _ => gx_run 2 (And.intro rfl rfl)) (fun c => absurd rfl c))))
  · rcases pk_ix x (n := 12) (by decide) with c | c | ⟨k, hk, rfl⟩
    · exact absurd (Or.inl c) h
    · exact absurd (Or.inr c) h
    · exact gs_M_tail _ _ _ (gx_run 3 (gx_c1 (gx_le8 rfl) (m_isFunction_t hk) (And.intro (fun c => absurd c (by decide)) (fun _ => gx_run 2 (And.intro (fun c1 => absurd (hx.resolve_left h) (Int32.not_lt.mpr c1)) (fun _ => gx_run 2 (And.intro rfl rfl)))))))
theorem m_tail_n {m : Nat} (hk : k < 12) (hm : m < 2147483648) : gx_call LL xs (d + 2) z_M_tail 0 0 [.ref 43, .int (nI k), .int (nI m)] (gm_h pre n μ sp none pc lp cl tk tc F gv) (fun r h => r = some (.int (-(nI 16))) ∧ h = (gm_h pre n μ sp none pc lp cl tk tc F gv)) :=
  gs_M_tail _ _ _ (gx_run 3 (gx_c1 (gx_le8 rfl) (m_isFunction_t hk) (And.intro (fun c => absurd c (by decide)) (fun _ => gx_run 2 (And.intro (fun _ => gx_run 3 (And.intro ⟨_, rfl⟩ (gx_c1 (gx_le8 rfl) m_hasFrame_n (And.intro (fun c => absurd rfl c) (fun _ => gx_run 3 (gx_c1 (gx_le8 rfl) m_f6 (And.intro rfl rfl))))))) (fun c => absurd (nI_pos' (by omega)) c))))))
theorem m_tail_v {m f : Nat} {Q : gx_Q} (hmk : ga_mk μ sp M) (htk : ga_tk tk M) (hs : sp ≤ 1024) (hk : k < 12) (hm : m < 2147483648) (hf : ga_top M = some f)
    (hO : gx_E LL xs (gx_call LL xs (d + 3)) cd_M_tail Q 16 [some (.ref 43), some (.int (nI k)), some (.int (nI m))] [.int (nI (ga_vc μ sp M)), .int (nI m)] (gm_h pre n μ sp (ga_top M) pc lp cl tk (ga_tc M) F gv) 0 0) :
    gx_call LL xs (d + 4) z_M_tail 0 0 [.ref 43, .int (nI k), .int (nI m)] (gm_h pre n μ sp (ga_top M) pc lp cl tk (ga_tc M) F gv) Q := by
  have hlt := ga_top_lt hmk hf
  have hvc := m_values (LL := LL) (xs := xs) (d := d) (pre := pre) (n := n) (pc := pc) (lp := lp) (cl := cl) (F := F) (gv := gv) hmk htk hs hf
  rw [hf] at hvc hO ⊢
  exact gs_M_tail _ _ _ (gx_run 3 (gx_c1 (gx_le8 rfl) (m_isFunction_t hk) (And.intro (fun c => absurd c (by decide)) (fun _ => gx_run 2 (And.intro (fun _ => gx_run 3 (And.intro ⟨_, rfl⟩ (gx_c1 (gx_le8 rfl) (m_hasFrame (by omega)) (And.intro (fun _ => gx_run 3 (And.intro ⟨_, rfl⟩ (gx_c1 (gx_le8 rfl) hvc hO))) (fun c => absurd c (by decide)))))) (fun c => absurd (nI_pos' (by omega)) c))))))
theorem m_tail_u {m f : Nat} (hmk : ga_mk μ sp M) (htk : ga_tk tk M) (hs : sp ≤ 1024) (hk : k < 12) (hm : m < 2147483648) (hf : ga_top M = some f) (hu : ga_vc μ sp M < m) :
    gx_call LL xs (d + 4) z_M_tail 0 0 [.ref 43, .int (nI k), .int (nI m)] (gm_h pre n μ sp (ga_top M) pc lp cl tk (ga_tc M) F gv) (fun r h => r = some (.int (-(nI 12))) ∧ h = (gm_h pre n μ sp (ga_top M) pc lp cl tk (ga_tc M) F gv)) :=
  m_tail_v hmk htk hs hk hm hf (gx_run 1 (And.intro (fun c => absurd c (nI_ge hu hm)) (fun _ => gx_run 3 (gx_c1 (gx_le8 rfl) m_f2 (And.intro rfl rfl)))))
theorem m_tail_w {m f : Nat} {fp2 : Option Nat} (hmk : ga_mk μ sp M) (htk : ga_tk tk M) (hs : sp ≤ 1024) (hk : k < 12) (hf : ga_top M = some f) (hu : m ≤ ga_vc μ sp M) (ha : (F k).2.1 = 1 ∨ (F k).2.1 = 2 ∨ (F k).2.1 = 3) (hrd : ga_rd μ (f - 4) 4 = ga_fp fp2) (hf2 : ∀ g, fp2 = some g → g + 8 ≤ 1024 ∧ ga_w μ (g + 4) ≤ ga_w μ g) (hcg : ga_cg μ (ga_rd μ (f - 16) 4) (ga_rd μ (f - 12) 4) fp2 = false) :
    gx_call LL xs (d + 5) z_M_tail 0 0 [.ref 43, .int (nI k), .int (nI m)] (gm_h pre n μ sp (ga_top M) pc lp cl tk (ga_tc M) F gv) (fun r h => r = some (.int (-(nI 13))) ∧ h = (gm_h pre n μ sp (ga_top M) pc lp cl tk (ga_tc M) F gv)) := by
  have hvl := ga_vc_le hmk
  have hlt := ga_mk_top hmk hf
  have c1 := m_canLeave (LL := LL) (xs := xs) (d := d) (pre := pre) (n := n) (μ := μ) (sp := sp) (pc := pc) (lp := lp) (cl := cl) (tk := tk) (tc := ga_tc M) (F := F) (gv := gv) hlt.1 (by omega) hrd hf2
  rw [hcg] at c1
  refine m_tail_v hmk htk hs hk (by omega) hf (gx_run 1 (And.intro (fun _ => ?_) (fun c => absurd (nI_le hu (by omega)) c)))
  rw [hf]
  exact gx_run 5 (gx_ar k rfl hk (by decide) (And.intro (fun c => absurd c (nI_nle (by omega) (by omega))) (fun _ => gx_run 3 (And.intro ⟨_, rfl⟩ (gx_c1 (gx_le8 rfl) c1 (And.intro (fun c => absurd rfl c) (fun _ => gx_run 3 (gx_c1 (gx_le8 rfl) m_f3 (And.intro rfl rfl)))))))))
theorem m_tail_a {m f : Nat} {fp2 : Option Nat} (hmk : ga_mk μ sp M) (htk : ga_tk tk M) (hs : sp ≤ 1024) (hk : k < 12) (hf : ga_top M = some f) (hu : m ≤ ga_vc μ sp M) (ha : (F k).2.1 = 1 ∨ (F k).2.1 = 2 ∨ (F k).2.1 = 3) (hrd : ga_rd μ (f - 4) 4 = ga_fp fp2) (hf2 : ∀ g, fp2 = some g → g + 8 ≤ 1024 ∧ ga_w μ (g + 4) ≤ ga_w μ g) (hcg : ga_cg μ (ga_rd μ (f - 16) 4) (ga_rd μ (f - 12) 4) fp2 = true) {r0 : Int32} {h0 : gx_H}
    (hc : gx_call LL xs (d + 4) z_M_leaves 0 0 [.ref 43, .int (ga_gb (F k).2.1 (ga_va μ sp) m)] (gm_h pre n μ sp (ga_top M) pc lp cl tk (ga_tc M) F (ga_tv μ sp m gv)) (fun r h => r = some (.int r0) ∧ h = h0)) :
    gx_call LL xs (d + 5) z_M_tail 0 0 [.ref 43, .int (nI k), .int (nI m)] (gm_h pre n μ sp (ga_top M) pc lp cl tk (ga_tc M) F gv) (fun r h => r = some (.int r0) ∧ h = h0) := by
  have hvl := ga_vc_le hmk
  have hlt := ga_mk_top hmk hf
  have c1 := m_canLeave (LL := LL) (xs := xs) (d := d) (pre := pre) (n := n) (μ := μ) (sp := sp) (pc := pc) (lp := lp) (cl := cl) (tk := tk) (tc := ga_tc M) (F := F) (gv := gv) hlt.1 (by omega) hrd hf2
  rw [hcg] at c1
  have c2 := m_take (LL := LL) (xs := xs) (d := d + 2) (pre := pre) (n := n) (μ := μ) (sp := sp) (fo := some f) (pc := pc) (lp := lp) (cl := cl) (tk := tk) (tc := ga_tc M) (F := F) (gv := gv) (m := m) (by omega) (by omega)
  have c3 := m_result (LL := LL) (xs := xs) (d := d + 3) (pre := pre) (n := n) (μ := μ) (sp := sp) (fo := some f) (pc := pc) (lp := lp) (cl := cl) (tk := tk) (tc := ga_tc M) (F := F) (gv := ga_tv μ sp m gv) (m := m) (by omega) ha
  rw [ga_gb_cong (ga_tv_va (μ := μ) (sp := sp) (m := m) (tn := gv))] at c3
  refine m_tail_v hmk htk hs hk (by omega) hf (gx_run 1 (And.intro (fun _ => ?_) (fun c => absurd (nI_le hu (by omega)) c)))
  rw [hf] at hc ⊢
  refine gx_run 5 (gx_ar k rfl hk (by decide) (And.intro (fun c => absurd c (nI_nle (by omega) (by omega))) (fun _ => gx_run 3 (And.intro ⟨_, rfl⟩ (gx_c1 (gx_le8 rfl) c1 (And.intro (fun _ => ?_) (fun c => absurd c (by decide))))))))
  exact gx_run 13 (And.intro ⟨_, rfl⟩ (gx_c1 (gx_le8 rfl) c2 (gx_ar k rfl hk (by decide) (And.intro ⟨_, rfl⟩ (gx_c1 (gx_le8 rfl) c3 (And.intro ⟨_, rfl⟩ (gx_c1 (gx_le8 rfl) hc (And.intro rfl rfl))))))))
theorem m_tail_h {m f : Nat} (hmk : ga_mk μ sp M) (htk : ga_tk tk M) (hs : sp ≤ 1024) (hk : k < 12) (hwf : ga_wf (F k)) (hf : ga_top M = some f) (hu : m ≤ ga_vc μ sp M) (ha : (F k).2.1 = 0) (hh : ¬ ((F k).1 = 192 ∨ (F k).1 = 193)) :
    gx_call LL xs (d + 4) z_M_tail 0 0 [.ref 43, .int (nI k), .int (nI m)] (gm_h pre n μ sp (ga_top M) pc lp cl tk (ga_tc M) F gv) (fun r h => r = some (.int (-(nI 11))) ∧ h = (gm_h pre n μ sp (ga_top M) pc lp cl tk (ga_tc M) F gv)) := by
  have hvl := ga_vc_le hmk
  have c2 := m_hasHead (LL := LL) (xs := xs) (d := d + 2) (pre := pre) (n := n) (μ := μ) (sp := sp) (fo := ga_top M) (pc := pc) (lp := lp) (cl := cl) (tk := tk) (tc := ga_tc M) (F := F) (gv := gv) hk hwf.1
  rw [if_neg hh] at c2
  refine m_tail_v hmk htk hs hk (by omega) hf (gx_run 1 (And.intro (fun _ => ?_) (fun c => absurd (nI_le hu (by omega)) c)))
  exact gx_run 5 (gx_ar k rfl hk (by decide) (And.intro (fun _ => gx_run 4 (And.intro ⟨_, rfl⟩ (gx_c1 (gx_le8 rfl) c2 (And.intro (fun c => absurd rfl c) (fun _ => gx_run 3 (gx_c1 (gx_le8 rfl) m_f1 (And.intro rfl rfl))))))) (fun c => absurd (by show nI (F k).2.1 ≤ 0; rw [ha]; decide) c)))
theorem m_tail_r {m f : Nat} {Q : gx_Q} (hmk : ga_mk μ sp M) (htk : ga_tk tk M) (hs : sp ≤ 1024) (hk : k < 12) (hwf : ga_wf (F k)) (hf : ga_top M = some f) (hu : m ≤ ga_vc μ sp M) (ha : (F k).2.1 = 0) (hh : (F k).1 = 192 ∨ (F k).1 = 193)
    (hO : gx_E LL xs (gx_call LL xs (d + 5)) cd_M_tail Q 57 [some (.ref 43), some (.int (nI k)), some (.int (nI m))] [.int (nI (ga_room (F k) m)), .int (nI f)] (gm_h pre n μ sp (ga_top M) pc lp cl tk (ga_tc M) F gv) 0 0) :
    gx_call LL xs (d + 6) z_M_tail 0 0 [.ref 43, .int (nI k), .int (nI m)] (gm_h pre n μ sp (ga_top M) pc lp cl tk (ga_tc M) F gv) Q := by
  have hvl := ga_vc_le hmk
  have c2 := m_hasHead (LL := LL) (xs := xs) (d := d + 4) (pre := pre) (n := n) (μ := μ) (sp := sp) (fo := ga_top M) (pc := pc) (lp := lp) (cl := cl) (tk := tk) (tc := ga_tc M) (F := F) (gv := gv) hk hwf.1
  rw [if_pos hh] at c2
  refine m_tail_v hmk htk hs hk (by omega) hf (gx_run 1 (And.intro (fun _ => ?_) (fun c => absurd (nI_le hu (by omega)) c)))
  rw [hf] at c2 hO ⊢
  exact gx_run 5 (gx_ar k rfl hk (by decide) (And.intro (fun _ => gx_run 4 (And.intro ⟨_, rfl⟩ (gx_c1 (gx_le8 rfl) c2 (And.intro (fun _ => gx_run 6 (And.intro ⟨_, rfl⟩ (gx_c1 (gx_le8 rfl) (m_room hk hwf) hO))) (fun c => absurd c (by decide)))))) (fun c => absurd (by show nI (F k).2.1 ≤ 0; rw [ha]; decide) c)))
theorem m_tail_f {m f : Nat} (hmk : ga_mk μ sp M) (htk : ga_tk tk M) (hs : sp ≤ n) (hn : n ≤ 1024) (hk : k < 12) (hwf : ga_wf (F k)) (hf : ga_top M = some f) (hu : m ≤ ga_vc μ sp M) (ha : (F k).2.1 = 0) (hh : (F k).1 = 192 ∨ (F k).1 = 193) (hfull : n < f + ga_room (F k) m) :
    gx_call LL xs (d + 6) z_M_tail 0 0 [.ref 43, .int (nI k), .int (nI m)] (gm_h pre n μ sp (ga_top M) pc lp cl tk (ga_tc M) F gv) (fun r h => r = some (.int (-(nI 15))) ∧ h = (gm_h pre n μ sp (ga_top M) pc lp cl tk (ga_tc M) F gv)) := by
  have hvl := ga_vc_le hmk
  have hlt := ga_top_lt hmk hf
  have hrl := ga_room_le hwf (m := m)
  exact m_tail_r hmk htk (by omega) hk hwf hf hu ha hh (gx_run 4 (And.intro (fun c => absurd c (by rw [nI_add]; exact nI_ge hfull (by omega))) (fun _ => gx_run 3 (gx_c1 (gx_le8 rfl) m_f5 (And.intro rfl rfl)))))
theorem m_tail {m f c : Nat} (hmk : ga_mk μ sp M) (htk : ga_tk tk M) (hs : sp ≤ n) (hn : n ≤ 1024) (hk : k < 12) (hwf : ga_wf (F k)) (hf : ga_top M = some f) (hu : m ≤ ga_vc μ sp M) (ha : (F k).2.1 = 0) (hh : (F k).1 = 192 ∨ (F k).1 = 193) (hfull : f + ga_room (F k) m ≤ n)
    (hlow : ∀ c', c = c' + 1 → tk c' < f) (hcc : c ≤ ga_tc M) (hi : ∀ i, c ≤ i → i < ga_tc M → f ≤ tk i ∧ tk i < 2147483648) :
    gx_call LL xs (d + 6) z_M_tail 0 0 [.ref 43, .int (nI k), .int (nI m)] (gm_h pre n μ sp (ga_top M) pc lp cl tk (ga_tc M) F gv) (fun r h => r = some (.int (nI f)) ∧ h = (gm_h pre n (ga_en (F k) (ga_va μ sp) m μ f) (f + ga_room (F k) m) (some f) pc lp cl tk c F (ga_tv μ sp m gv))) := by
  have hvl := ga_vc_le hmk
  have hlt := ga_top_lt hmk hf
  have hcnt := ga_tc_le hmk
  rw [← ga_en_cong (ga_tv_va (μ := μ) (sp := sp) (m := m) (tn := gv))]
  refine m_tail_r hmk htk (by omega) hk hwf hf hu ha hh (gx_run 4 (And.intro (fun _ => ?_) (fun c => absurd (by rw [nI_add]; exact nI_le hfull (by omega)) c)))
  have c1 := m_take (LL := LL) (xs := xs) (d := d + 3) (pre := pre) (n := n) (μ := μ) (sp := sp) (fo := some f) (pc := pc) (lp := lp) (cl := cl) (tk := tk) (tc := ga_tc M) (F := F) (gv := gv) (m := m) (by omega) (by omega)
  have c2 := m_drop (LL := LL) (xs := xs) (d := d + 4) (pre := pre) (n := n) (μ := μ) (sp := sp) (fo := some f) (pc := pc) (lp := lp) (cl := cl) (tk := tk) (tc := ga_tc M) (F := F) (gv := ga_tv μ sp m gv) (p := f) (c := c) (by omega) hlow hcc (by omega) hi
  have c3 := m_enter (LL := LL) (xs := xs) (d := d) (pre := pre) (n := n) (μ := μ) (sp := f) (fo := some f) (pc := pc) (lp := lp) (cl := cl) (tk := tk) (tc := c) (F := F) (gv := ga_tv μ sp m gv) (m := m) hk hwf hh (by omega) (by omega)
  rw [hf]
  exact gx_run 18 (And.intro ⟨_, rfl⟩ (gx_c1 (gx_le8 rfl) c1 (And.intro ⟨_, rfl⟩ (gx_c1 (gx_le8 rfl) c2 (And.intro ⟨_, rfl⟩ (gx_c1 (gx_le8 rfl) c3 (And.intro rfl rfl)))))))
end GMG
end
section
/-! Each method of both: the same answer, and states that go on together. -/
def ga_I (n : Nat) (μ : Nat → Nat) (sp : Nat) (M : ga_M) (tk : Nat → Nat) (F : Nat → ga_F) : Prop := 64 ≤ n ∧ n ≤ 1024 ∧ sp ≤ n ∧ (∀ i, μ i < 256) ∧ ga_mk μ sp M ∧ ga_tk tk M ∧ ∀ k, k < 12 → ga_wf (F k)
def ga_S (LL : Nat) (xs : Nat → Int32) (zG zM : Nat) (av : List Value) (n : Nat) (μ : Nat → Nat) (sp : Nat) (M : ga_M) (pc lp : Int32) (cl : Nat → Int32) (tk : Nat → Nat) (F : Nat → ga_F) (tn gv : Nat → Int32) : Prop :=
  ∃ (r : Int32) (μ' : Nat → Nat) (sp' : Nat) (M' : ga_M) (pc' lp' : Int32) (cl' : Nat → Int32) (tk' : Nat → Nat) (F' : Nat → ga_F) (tn' gv' : Nat → Int32), ga_I n μ' sp' M' tk' F' ∧
    (∀ tl, gx_call LL xs 8 zG 0 0 (.ref 0 :: av) (gc_h n μ sp (ga_top M) pc lp cl tk (ga_tc M) F tn tl) (fun r' h => r' = some (.int r) ∧ h = (gc_h n μ' sp' (ga_top M') pc' lp' cl' tk' (ga_tc M') F' tn' tl))) ∧
    (∀ pre, gx_call LL xs 8 zM 0 0 (.ref 43 :: av) (gm_h pre n μ sp (ga_top M) pc lp cl tk (ga_tc M) F gv) (fun r' h => r' = some (.int r) ∧ h = (gm_h pre n μ' sp' (ga_top M') pc' lp' cl' tk' (ga_tc M') F' gv')))
theorem ga_k12 {x : Int32} (h : ¬ (x < 0 ∨ nI 12 ≤ x)) : ∃ k, k < 12 ∧ x = nI k := by
  rcases pk_ix x (n := 12) (by decide) with c | c | c
  · exact absurd (Or.inl c) h
  · exact absurd (Or.inr c) h
  · exact c
theorem ga_jc {x : Int32} {c : Nat} (hc : c < 2147483647) (h : ¬ (x < 0 ∨ nI c < x)) : ∃ j, j ≤ c ∧ x = nI j :=
  ga_in hc ((ga_i64 x c (by omega)).mpr ⟨fun z => h (Or.inl z), fun z => h (Or.inr z)⟩)
theorem ga_up_wf {F : Nat → ga_F} {k : Nat} {f0 : ga_F} (hF : ∀ k, k < 12 → ga_wf (F k)) (h : ga_wf f0) : ∀ j, j < 12 → ga_wf (va_up F k f0 j) := fun j hj => by
  unfold va_up
  split
  · exact h
  · exact hF j hj
theorem ga_split_top {μ tk : Nat → Nat} : ∀ {M : ga_M} {lim f : Nat}, ga_mk μ lim M → ga_tk tk M → ga_top M = some f → ∃ es : ga_M, ga_rd μ (f - 4) 4 = ga_fp (ga_top es) ∧ ga_mk μ (f - 16) es ∧ ga_tk tk es ∧ ga_tc es ≤ ga_tc M ∧ ∀ i, ga_tc es ≤ i → i < ga_tc M → f ≤ tk i
  | (true, g) :: es, lim, f, ⟨a, b, c, d, e, h⟩, ht, hf => by
    cases hf
    exact ⟨es, e, h, ht, Nat.le_refl _, fun i h1 h2 => absurd h2 (Nat.not_lt.mpr h1)⟩
  | (false, t) :: es, lim, f, ⟨a, b, c, d, e⟩, ⟨t1, t2⟩, hf => by
    have hlt := ga_mk_top e (show ga_top es = some f from hf)
    obtain ⟨es', h1, h2, h3, h4, h5⟩ := ga_split_top e t2 (show ga_top es = some f from hf)
    refine ⟨es', h1, h2, h3, Nat.le_succ_of_le h4, fun i hi1 hi2 => ?_⟩
    have hi2 : i < ga_tc es + 1 := hi2
    by_cases hi : i = ga_tc es
    · rw [hi, t1]; omega
    · exact h5 i hi1 (by omega)
theorem ga_split_tok {μ tk : Nat → Nat} : ∀ {M : ga_M} {lim j : Nat}, ga_mk μ lim M → ga_tk tk M → j < ga_tc M → ∃ es : ga_M, ga_tc es = j ∧ 16 ≤ tk j ∧ tk j ≤ lim ∧ ga_rd μ (tk j - 4) 4 = ga_fp (ga_top es) ∧ ga_mk μ (tk j - 16) es ∧ ga_tk tk es ∧ ∀ i, j ≤ i → i < ga_tc M → tk j ≤ tk i
  | (true, g) :: es, lim, j, ⟨a, b, c, d, e, h⟩, ht, hj => by
    obtain ⟨es', h0, h1, h2, h3, h4, h5, h6⟩ := ga_split_tok h ht hj
    exact ⟨es', h0, h1, by omega, h3, h4, h5, h6⟩
  | (false, t) :: es, lim, j, ⟨a, b, c, d, e⟩, ⟨t1, t2⟩, hj => by
    have hj : j < ga_tc es + 1 := hj
    by_cases hi : j = ga_tc es
    · subst hi
      rw [t1]
      refine ⟨es, rfl, a, b, d, e, t2, fun i h1 h2 => ?_⟩
      have h2 : i < ga_tc es + 1 := h2
      rw [show i = ga_tc es by omega, t1]
      exact Nat.le_refl _
    · obtain ⟨es', h0, h1, h2, h3, h4, h5, h6⟩ := ga_split_tok e t2 (show j < ga_tc es by omega)
      refine ⟨es', h0, h1, by omega, h3, h4, h5, fun i hi1 hi2 => ?_⟩
      have hi2 : i < ga_tc es + 1 := hi2
      by_cases hi : i = ga_tc es
      · rw [hi, t1]; omega
      · exact h6 i hi1 (by omega)
/-- a write within the locals of the frame leaves the marks -/
theorem ga_mk_loc {μ ν : Nat → Nat} : ∀ {M : ga_M} {lim f : Nat}, ga_mk μ lim M → ga_top M = some f → (∀ i, (i < f + 8 ∨ f + ga_w μ f ≤ i) → μ i = ν i) → ga_mk ν lim M
  | (true, g) :: es, lim, f, ⟨a, b, c, d, e, h⟩, hf, hc => by
    obtain rfl : g = f := Option.some.inj hf
    have h1 : ga_w μ g = ga_w ν g := ga_w_cong fun i h1 h2 => hc i (by omega)
    have h2 : ga_w μ (g + 4) = ga_w ν (g + 4) := ga_w_cong fun i h1 h2 => hc i (by omega)
    have h3 : ga_rd μ (g - 4) 4 = ga_rd ν (g - 4) 4 := ga_rd_cong fun i h1 h2 => hc i (by omega)
    exact ⟨a, by rw [← h2]; exact b, by rw [← h1, ← h2]; exact c, by rw [← h1]; exact d, by rw [← h3]; exact e, ga_mk_cong h fun i hi => hc i (by omega)⟩
  | (false, t) :: es, lim, f, ⟨a, b, c, d, e⟩, hf, hc => by
    have hlt := ga_mk_top e (show ga_top es = some f from hf)
    have h3 : ga_rd μ (t - 4) 4 = ga_rd ν (t - 4) 4 := ga_rd_cong fun i h1 h2 => hc i (by omega)
    exact ⟨a, b, c, by rw [← h3]; exact d, ga_mk_loc e hf hc⟩
theorem ga_base_ge {μ : Nat → Nat} {M : ga_M} {lim f : Nat} (h : ga_mk μ lim M) (hf : ga_top M = some f) : f + ga_w μ f ≤ ga_base μ M := (ga_mk_top (ga_mk_base h) hf).2.2.2
theorem ga_g1_lt {μ : Nat → Nat} {sp : Nat} {fo : Option Nat} {way addr v : Int32} (h : ∀ i, μ i < 256) : ∀ i, ga_g1 μ sp fo way addr v i < 256 := by
  unfold ga_g1
  split
  · split
    · exact h
    · exact ga_wr_lt h
  · split
    · exact ga_wr_lt h
    · exact h
/-- a value goes: the marks stay -/
theorem ga_g_mk {μ : Nat → Nat} {lim sp : Nat} {M : ga_M} {way addr v : Int32} (h : ga_mk μ lim M) (hl : lim ≤ 1024) (hb : ga_base μ M ≤ sp) (hcg : ga_cg μ way addr (ga_top M) = true) : ga_mk (ga_g1 μ sp (ga_top M) way addr v) (ga_g2 sp way) M := by
  unfold ga_g1 ga_g2
  by_cases h2 : way = nI 2
  · subst h2
    rw [if_pos rfl, if_neg (by decide)]
    cases hf : ga_top M with
    | none => exact ga_mk_low h hb fun _ _ => rfl
    | some f =>
      have hlt := ga_mk_top h hf
      rw [hf] at hcg
      obtain ⟨p, rfl, hp⟩ := ga_il_of (w := 4) (by omega) (by omega) (show ga_il μ f addr (nI 4) = true from hcg)
      dsimp only
      rw [nI_clamp (by omega)]
      have hm2 : ga_mk μ sp M := ga_mk_low h hb fun _ _ => rfl
      exact ga_mk_loc hm2 hf fun i hi => (ga_wr_out (by omega)).symm
  · rw [if_neg h2]
    by_cases h3 : way = nI 3
    · rw [if_pos h3, if_pos h3]
      exact ga_mk_wr h (by omega) hb
    · rw [if_neg h3, if_neg h3]
      exact ga_mk_low h hb fun _ _ => rfl
theorem ga_z_out {μ : Nat → Nat} {a m i : Nat} (h : i < a) : ga_z μ a m i = μ i := by
  unfold ga_z
  rw [if_neg (by omega)]
theorem ga_hd_out {f : ga_F} {μ : Nat → Nat} {sp i : Nat} (h : i < sp) : ga_hd f μ sp i = μ i := by
  unfold ga_hd
  rw [ga_pr_out (by omega), ga_wr_out (by omega), ga_wr_out (by omega), ga_z_out h]
theorem ga_en_low {f : ga_F} {A : Nat → Int32} {m : Nat} {μ : Nat → Nat} {sp i : Nat} (hw : ga_wf f) (h : i < sp + 8) : ga_en f A m μ sp i = ga_hd f μ sp i := by
  have h1 := ga_len_ge hw
  have h2 := ga_lb_ge (f := f)
  unfold ga_en
  split
  · rw [ga_wr_out (by omega), ga_ws_out (by omega)]
  · exact ga_sl_low (by omega)
theorem ga_en_lt {f : ga_F} {A : Nat → Int32} {m : Nat} {μ : Nat → Nat} {sp : Nat} (hw : ga_wf f) (h : ∀ i, μ i < 256) : ∀ i, ga_en f A m μ sp i < 256 := by
  unfold ga_en
  split
  · exact ga_wr_lt (ga_ws_lt (ga_hd_lt hw h) _)
  · exact ga_sl_lt (ga_hd_lt hw h) _
/-- a frame entered is a mark -/
theorem ga_en_mk {f : ga_F} {A : Nat → Int32} {m : Nat} {μ : Nat → Nat} {sp : Nat} {M : ga_M} (hw : ga_wf f) (h16 : 16 ≤ sp) (hrd : ga_rd μ (sp - 4) 4 = ga_fp (ga_top M)) (h : ga_mk μ (sp - 16) M) : ga_mk (ga_en f A m μ sp) (sp + ga_room f m) ((true, sp) :: M) := by
  have h1 := ga_len_ge hw
  have h2 := ga_lb_ge (f := f)
  have h4 := ga_lb4 f
  have hr : ga_len f ≤ ga_room f m := Nat.le_add_right _ _
  have w1 : ga_w (ga_en f A m μ sp) sp = ga_len f := by rw [← (ga_hd_w (μ := μ) (sp := sp) hw).1]; exact ga_w_cong fun i a b => ga_en_low hw (by omega)
  have w2 : ga_w (ga_en f A m μ sp) (sp + 4) = ga_lb f := by rw [← (ga_hd_w (μ := μ) (sp := sp) hw).2]; exact ga_w_cong fun i a b => ga_en_low hw (by omega)
  have hlow : ∀ i, i < sp → ga_en f A m μ sp i = μ i := fun i hi => by rw [ga_en_low hw (by omega), ga_hd_out hi]
  refine ⟨h16, by rw [w2]; omega, by rw [w1, w2]; exact h1, by rw [w1]; omega, ?_, ga_mk_cong h fun i hi => (hlow i (by omega)).symm⟩
  rw [← hrd]
  exact ga_rd_cong fun i a b => hlow i (by omega)
theorem ga_st_fp {μ : Nat → Nat} {sp : Nat} {way addr p fp : Int32} : ga_rd (ga_st μ sp way addr p fp) (sp + 12) 4 = fp := ga_rd_wr _ _ _
theorem ga_tk_cong {tk tk' : Nat → Nat} : ∀ {M : ga_M}, ga_tk tk M → (∀ i, i < ga_tc M → tk i = tk' i) → ga_tk tk' M
  | [], _, _ => trivial
  | (true, _) :: es, h, hc => ga_tk_cong (M := es) h hc
  | (false, t) :: es, ⟨a, b⟩, hc => ⟨by rw [← hc _ (Nat.lt_succ_self _)]; exact a, ga_tk_cong b fun i hi => hc i (Nat.lt_succ_of_lt hi)⟩
section GSM
variable {LL : Nat} {xs : Nat → Int32} {n : Nat} {μ : Nat → Nat} {sp : Nat} {pc lp : Int32} {cl : Nat → Int32} {tk : Nat → Nat} {F : Nat → ga_F} {tn gv : Nat → Int32} {M : ga_M} {zG zM : Nat} {av : List Value}
theorem ga_same {r : Int32} (hI : ga_I n μ sp M tk F) (hG : ∀ tl, gx_call LL xs 8 zG 0 0 (.ref 0 :: av) (gc_h n μ sp (ga_top M) pc lp cl tk (ga_tc M) F tn tl) (fun r' h => r' = some (.int r) ∧ h = (gc_h n μ sp (ga_top M) pc lp cl tk (ga_tc M) F tn tl))) (hM : ∀ pre, gx_call LL xs 8 zM 0 0 (.ref 43 :: av) (gm_h pre n μ sp (ga_top M) pc lp cl tk (ga_tc M) F gv) (fun r' h => r' = some (.int r) ∧ h = (gm_h pre n μ sp (ga_top M) pc lp cl tk (ga_tc M) F gv))) : ga_S LL xs zG zM av n μ sp M pc lp cl tk F tn gv :=
  ⟨r, μ, sp, M, pc, lp, cl, tk, F, tn, gv, hI, hG, hM⟩
theorem s_function (hI : ga_I n μ sp M tk F) (x hd : Int32) : ga_S LL xs z_G_function z_M_function [.int x, .int hd] n μ sp M pc lp cl tk F tn gv := by
  by_cases h : (x < 0 ∨ nI 12 ≤ x) ∨ hd < 0 ∨ nI 255 < hd
  · exact ga_same hI (fun tl => k_G_function_n x hd h) (fun pre => m_function_n x hd h)
  · obtain ⟨k, hk, rfl⟩ := ga_k12 (fun z => h (Or.inl z))
    obtain ⟨j, hj, rfl⟩ := ga_jc (by decide) (fun z => h (Or.inr z))
    obtain ⟨i1, i2, i3, i4, i5, i6, i7⟩ := hI
    have hwk := i7 k hk
    exact ⟨_, _, _, _, _, _, _, _, va_up F k (j, (F k).2.1, 0, (F k).2.2.2.1, (F k).2.2.2.2), _, _, ⟨i1, i2, i3, i4, i5, i6, ga_up_wf i7 ⟨hj, hwk.2.1, Nat.zero_le _, fun i hi => absurd hi (Nat.not_lt_zero i)⟩⟩, fun tl => k_G_function hk hj, fun pre => m_function hk hj⟩
theorem s_format (hI : ga_I n μ sp M tk F) (x w c : Int32) : ga_S LL xs z_G_format z_M_format [.int x, .int w, .int c] n μ sp M pc lp cl tk F tn gv := by
  by_cases h : (x < 0 ∨ nI 12 ≤ x) ∨ ¬ (w = nI 1 ∨ w = nI 2 ∨ w = nI 4) ∨ c < nI 1 ∨ nI 255 < c
  · exact ga_same hI (fun tl => k_G_format_n x w c h) (fun pre => m_format_n x w c h)
  · obtain ⟨k, hk, rfl⟩ := ga_k12 (fun z => h (Or.inl z))
    have hw : w = nI 1 ∨ w = nI 2 ∨ w = nI 4 := Classical.byContradiction fun z => h (Or.inr (Or.inl z))
    obtain ⟨v, rfl, hv⟩ : ∃ v, w = nI v ∧ (v = 1 ∨ v = 2 ∨ v = 4) := by
      rcases hw with rfl | rfl | rfl
      · exact ⟨1, rfl, by omega⟩
      · exact ⟨2, rfl, by omega⟩
      · exact ⟨4, rfl, by omega⟩
    have hc1 : ¬ c < nI 1 := fun z => h (Or.inr (Or.inr (Or.inl z)))
    obtain ⟨j, hj, rfl⟩ := ga_jc (x := c) (c := 255) (by decide) (by
      rintro (z | z)
      · refine hc1 ?_
        rw [Int32.lt_iff_toInt_lt, Int32.toInt_zero] at z
        rw [Int32.lt_iff_toInt_lt, nI_toInt (by decide)]
        omega
      · exact h (Or.inr (Or.inr (Or.inr z))))
    have hj1 : 1 ≤ j := by
      rcases Nat.lt_or_ge j 1 with z | z
      · exact absurd (nI_lt z (by decide)) hc1
      · exact z
    obtain ⟨i1, i2, i3, i4, i5, i6, i7⟩ := hI
    have hwk := i7 k hk
    refine ⟨_, _, _, _, _, _, _, _, _, _, _, ⟨i1, i2, i3, i4, i5, i6, ?_⟩, fun tl => k_G_format hk hv hj1 hj hwk.2.2.1, fun pre => m_format hk hv hj1 hj hwk.2.2.1⟩
    by_cases h6 : (F k).2.2.1 < 6
    · rw [if_pos h6]
      refine ga_up_wf i7 ⟨hwk.1, hwk.2.1, h6, fun i hi => ?_⟩
      dsimp only at hi ⊢
      unfold va_up
      by_cases e : i = (F k).2.2.1
      · rw [if_pos e, if_pos e]
        exact ⟨hv, hj1, hj⟩
      · rw [if_neg e, if_neg e]
        exact hwk.2.2.2 i (by omega)
    · rw [if_neg h6]
      exact i7
theorem s_accelerate (hI : ga_I n μ sp M tk F) (x c : Int32) : ga_S LL xs z_G_accelerate z_M_accelerate [.int x, .int c] n μ sp M pc lp cl tk F tn gv := by
  by_cases h : (x < 0 ∨ nI 12 ≤ x) ∨ c < 0 ∨ nI 3 < c
  · exact ga_same hI (fun tl => k_G_accelerate_n x c h) (fun pre => m_accelerate_n x c h)
  · obtain ⟨k, hk, rfl⟩ := ga_k12 (fun z => h (Or.inl z))
    obtain ⟨j, hj, rfl⟩ := ga_jc (by decide) (fun z => h (Or.inr z))
    obtain ⟨i1, i2, i3, i4, i5, i6, i7⟩ := hI
    have hwk := i7 k hk
    exact ⟨_, _, _, _, _, _, _, _, va_up F k ((F k).1, j, (F k).2.2.1, (F k).2.2.2.1, (F k).2.2.2.2), _, _, ⟨i1, i2, i3, i4, i5, i6, ga_up_wf i7 ⟨hwk.1, hj, hwk.2.2⟩⟩, fun tl => k_G_accelerate hk hj, fun pre => m_accelerate hk hj⟩
theorem s_told (hI : ga_I n μ sp M tk F) (x w : Int32) : ga_S LL xs z_G_told z_M_told [.int x, .int w] n μ sp M pc lp cl tk F tn gv := by
  by_cases h : x < 0 ∨ nI 12 ≤ x
  · exact ga_same hI (fun tl => k_G_told_n x w h) (fun pre => m_told_n x w h)
  · obtain ⟨k, hk, rfl⟩ := ga_k12 h
    have hwk := hI.2.2.2.2.2.2 k hk
    exact ga_same hI (fun tl => k_G_told w hk hwk) (fun pre => m_told w hk hwk)
theorem s_local (hI : ga_I n μ sp M tk F) (x q : Int32) : ga_S LL xs z_G_local z_M_local [.int x, .int q] n μ sp M pc lp cl tk F tn gv := by
  by_cases h : x < 0 ∨ nI 12 ≤ x
  · exact ga_same hI (fun tl => k_G_local_n x q h) (fun pre => m_local_n x q h)
  · obtain ⟨k, hk, rfl⟩ := ga_k12 h
    have hwk := hI.2.2.2.2.2.2 k hk
    by_cases hq : q < 0
    · exact ga_same hI (fun tl => k_G_local_m q hk hq) (fun pre => m_local_m q hk hwk hq)
    · obtain ⟨j, hj, rfl⟩ := nI_of hq
      exact ga_same hI (fun tl => k_G_local hk hwk hj) (fun pre => m_local hk hwk hj)
theorem s_popped (hI : ga_I n μ sp M tk F) : ga_S LL xs z_G_popped z_M_popped [] n μ sp M pc lp cl tk F tn gv :=
  ga_same hI (fun tl => k_G_popped) (fun pre => m_popped)
theorem s_count (hI : ga_I n μ sp M tk F) (x : Int32) : ga_S LL xs z_G_count z_M_count [.int x] n μ sp M pc lp cl tk F tn gv := by
  obtain ⟨i1, i2, i3, i4, i5, i6, i7⟩ := hI
  exact ga_same ⟨i1, i2, i3, i4, i5, i6, i7⟩ (fun tl => k_G_count x i5 i6 i3 i2 i4) (fun pre => m_count x i5 i6 (by omega))
theorem s_cell (hI : ga_I n μ sp M tk F) (x : Int32) : ga_S LL xs z_G_cell z_M_cell [.int x] n μ sp M pc lp cl tk F tn gv := by
  rcases pk_ix x (n := 16) (by decide) with c | c | ⟨j, hj, rfl⟩
  · exact ga_same hI (fun tl => k_G_cell_n x (Or.inl c)) (fun pre => m_cell_n x (Or.inl c))
  · exact ga_same hI (fun tl => k_G_cell_n x (Or.inr c)) (fun pre => m_cell_n x (Or.inr c))
  · exact ga_same hI (fun tl => k_G_cell hj) (fun pre => m_cell hj)
theorem s_byteAt (hI : ga_I n μ sp M tk F) (x : Int32) : ga_S LL xs z_G_byteAt z_M_byteAt [.int x] n μ sp M pc lp cl tk F tn gv := by
  obtain ⟨i1, i2, i3, i4, i5, i6, i7⟩ := hI
  have hI : ga_I n μ sp M tk F := ⟨i1, i2, i3, i4, i5, i6, i7⟩
  rcases pk_ix x (n := sp) (by omega) with c | c | ⟨j, hj, rfl⟩
  · exact ga_same hI (fun tl => k_G_byteAt_n x (Or.inl c)) (fun pre => m_byteAt_n x (by omega) (Or.inl c))
  · exact ga_same hI (fun tl => k_G_byteAt_n x (Or.inr c)) (fun pre => m_byteAt_n x (by omega) (Or.inr c))
  · exact ga_same hI (fun tl => k_G_byteAt hj i3 i2 i4) (fun pre => m_byteAt hj (by omega))
theorem s_push (hI : ga_I n μ sp M tk F) (v : Int32) : ga_S LL xs z_G_push z_M_push [.int v] n μ sp M pc lp cl tk F tn gv := by
  obtain ⟨i1, i2, i3, i4, i5, i6, i7⟩ := hI
  have hI : ga_I n μ sp M tk F := ⟨i1, i2, i3, i4, i5, i6, i7⟩
  cases hf : ga_top M with
  | none => exact ga_same hI (fun tl => by rw [hf]; exact k_G_push_n v) (fun pre => by rw [hf]; exact m_push_n v)
  | some f =>
    have hlt := ga_top_lt i5 hf
    by_cases h : n < sp + 4
    · exact ga_same hI (fun tl => by rw [hf]; exact k_G_push_f v (by omega) i3 i2 h) (fun pre => by rw [hf]; exact m_push_f v (by omega) i3 i2 h)
    · exact ⟨_, _, _, M, _, _, _, _, _, _, _, ⟨i1, i2, by omega, ga_wr_lt i4, ga_mk_wr i5 (by have := ga_base_le i5; omega) (ga_base_le i5), i6, i7⟩, fun tl => k_G_push v i5 i6 i2 i4 hf (by omega), fun pre => m_push v i5 i6 i2 hf (by omega)⟩
theorem s_pop (hI : ga_I n μ sp M tk F) : ga_S LL xs z_G_pop z_M_pop [] n μ sp M pc lp cl tk F tn gv := by
  obtain ⟨i1, i2, i3, i4, i5, i6, i7⟩ := hI
  have hI : ga_I n μ sp M tk F := ⟨i1, i2, i3, i4, i5, i6, i7⟩
  by_cases h0 : ga_e μ sp M (nI 1) = nI 0
  · have hvl := ga_vc_le i5
    obtain ⟨m, f, hm, hm2, hf⟩ := ga_e0 (by omega) h0
    have hm1 : 1 ≤ ga_vc μ sp M := by
      have hy := h0
      rw [ga_e_s (by decide) hf] at hy
      rcases Nat.lt_or_ge (ga_vc μ sp M) 1 with c | c
      · rw [if_pos (nI_lt c (by decide))] at hy
        exact absurd hy (by decide)
      · exact c
    exact ⟨_, _, _, M, _, _, _, _, _, _, _, ⟨i1, i2, by omega, i4, ga_mk_low i5 (by omega) fun _ _ => rfl, i6, i7⟩, fun tl => k_G_pop i5 i6 i3 i2 i4 h0, fun pre => m_pop i5 i6 (by omega) h0⟩
  · exact ga_same hI (fun tl => k_G_pop_e i5 i6 i3 i2 i4 rfl h0) (fun pre => m_pop_e i5 i6 (by omega) rfl h0)
theorem s_peek (hI : ga_I n μ sp M tk F) (x : Int32) : ga_S LL xs z_G_peek z_M_peek [.int x] n μ sp M pc lp cl tk F tn gv := by
  obtain ⟨i1, i2, i3, i4, i5, i6, i7⟩ := hI
  have hI : ga_I n μ sp M tk F := ⟨i1, i2, i3, i4, i5, i6, i7⟩
  have hvl := ga_vc_le i5
  cases hf : ga_top M with
  | none => exact ga_same hI (fun tl => by rw [hf]; exact k_G_peek_n x) (fun pre => by rw [hf]; exact m_peek_n x)
  | some f =>
    rcases pk_ix x (n := ga_vc μ sp M) (by omega) with c | c | ⟨j, hj, rfl⟩
    · exact ga_same hI (fun tl => k_G_peek_e x i5 i6 i3 i2 i4 hf (Or.inl c)) (fun pre => m_peek_e x i5 i6 (by omega) hf (Or.inl c))
    · exact ga_same hI (fun tl => k_G_peek_e x i5 i6 i3 i2 i4 hf (Or.inr c)) (fun pre => m_peek_e x i5 i6 (by omega) hf (Or.inr c))
    · exact ⟨_, _, _, M, _, _, _, _, _, _, _, hI, fun tl => k_G_peek i5 i6 i3 i2 i4 hf hj, fun pre => m_peek i5 i6 (by omega) hf hj⟩
theorem s_copy (hI : ga_I n μ sp M tk F) (x : Int32) : ga_S LL xs z_G_copy z_M_copy [.int x] n μ sp M pc lp cl tk F tn gv := by
  obtain ⟨i1, i2, i3, i4, i5, i6, i7⟩ := hI
  have hI : ga_I n μ sp M tk F := ⟨i1, i2, i3, i4, i5, i6, i7⟩
  by_cases h0 : ga_e μ sp M x = nI 0
  · have hvl := ga_vc_le i5
    have hb := ga_base_le i5
    obtain ⟨m, f, rfl, hm2, hf⟩ := ga_e0 (by omega) h0
    by_cases h : n < sp + 4 * m
    · exact ga_same hI (fun tl => k_G_copy_f i5 i6 i3 i2 i4 h0 hm2 h) (fun pre => m_copy_f i5 i6 i3 i2 hf hm2 h)
    · exact ⟨_, _, _, M, _, _, _, _, _, _, _, ⟨i1, i2, by omega, ga_cp_lt i4 m, ga_mk_low i5 (by omega) fun j hj => (ga_cp_low (by omega)).symm, i6, i7⟩, fun tl => k_G_copy i5 i6 i2 i4 h0 hm2 (by omega), fun pre => m_copy i5 i6 i2 hf hm2 (by omega)⟩
  · exact ga_same hI (fun tl => k_G_copy_e x i5 i6 i3 i2 i4 rfl h0) (fun pre => m_copy_e x i5 i6 (by omega) rfl h0)
theorem s_roll (hI : ga_I n μ sp M tk F) (x b : Int32) : ga_S LL xs z_G_roll z_M_roll [.int x, .int b] n μ sp M pc lp cl tk F tn gv := by
  obtain ⟨i1, i2, i3, i4, i5, i6, i7⟩ := hI
  have hI : ga_I n μ sp M tk F := ⟨i1, i2, i3, i4, i5, i6, i7⟩
  by_cases h0 : ga_e μ sp M x = nI 0
  · have hvl := ga_vc_le i5
    have hb := ga_base_le i5
    obtain ⟨m, f, rfl, hm2, hf⟩ := ga_e0 (by omega) h0
    by_cases h : m = 0
    · subst h
      exact ga_same hI (fun tl => k_G_roll_0 b i5 i6 i3 i2 i4 h0) (fun pre => m_roll_0 b i5 i6 (by omega) hf)
    · exact ⟨_, _, _, M, _, _, _, _, _, _, _, ⟨i1, i2, by omega, ga_ws_lt i4 m, ga_mk_low i5 (by omega) fun j hj => (ga_ws_out (by omega)).symm, i6, i7⟩, fun tl => k_G_roll b (by omega) i5 i6 i3 i2 i4 hm2 h0, fun pre => m_roll b (by omega) i5 i6 (by omega) hf hm2⟩
  · exact ga_same hI (fun tl => k_G_roll_e x b i5 i6 i3 i2 i4 rfl h0) (fun pre => m_roll_e x b i5 i6 (by omega) rfl h0)
theorem s_swap (hI : ga_I n μ sp M tk F) : ga_S LL xs z_G_swap z_M_swap [] n μ sp M pc lp cl tk F tn gv := by
  obtain ⟨i1, i2, i3, i4, i5, i6, i7⟩ := hI
  have hI : ga_I n μ sp M tk F := ⟨i1, i2, i3, i4, i5, i6, i7⟩
  by_cases h0 : ga_e μ sp M (nI 2) = nI 0
  · have hvl := ga_vc_le i5
    have hb := ga_base_le i5
    obtain ⟨m, f, hm, hm2, hf⟩ := ga_e0 (by omega) h0
    have hm1 : 2 ≤ ga_vc μ sp M := by
      have hy := h0
      rw [ga_e_s (by decide) hf] at hy
      rcases Nat.lt_or_ge (ga_vc μ sp M) 2 with c | c
      · rw [if_pos (nI_lt c (by decide))] at hy
        exact absurd hy (by decide)
      · exact c
    exact ⟨_, _, _, M, _, _, _, _, _, _, _, ⟨i1, i2, by omega, ga_ws_lt i4 2, ga_mk_low i5 (by omega) fun j hj => (ga_ws_out (by omega)).symm, i6, i7⟩, fun tl => k_G_swap i5 i6 i3 i2 i4 hm1 h0, fun pre => m_swap i5 i6 (by omega) hf hm1⟩
  · exact ga_same hI (fun tl => k_G_swap_e i5 i6 i3 i2 i4 rfl h0) (fun pre => m_swap_e i5 i6 (by omega) rfl h0)
theorem s_load (hI : ga_I n μ sp M tk F) (x w : Int32) : ga_S LL xs z_G_load z_M_load [.int x, .int w] n μ sp M pc lp cl tk F tn gv := by
  obtain ⟨i1, i2, i3, i4, i5, i6, i7⟩ := hI
  have hI : ga_I n μ sp M tk F := ⟨i1, i2, i3, i4, i5, i6, i7⟩
  by_cases h0 : ga_el μ M x w = nI 0
  · obtain ⟨f, p, v, hf, rfl, rfl, hv, hp⟩ := ga_el0 (fun f hf => by have := ga_mk_top i5 hf; omega) h0
    exact ⟨_, _, _, M, _, _, _, _, _, _, _, hI, fun tl => k_G_load i5 i3 i2 i4 h0 hf (by omega) hp, fun pre => m_load i5 (by omega) h0 hf (by omega) hp⟩
  · exact ga_same hI (fun tl => k_G_load_e x w i5 i3 i2 i4 rfl h0) (fun pre => m_load_e x w i5 (by omega) rfl h0)
theorem s_store (hI : ga_I n μ sp M tk F) (x w y : Int32) : ga_S LL xs z_G_store z_M_store [.int x, .int w, .int y] n μ sp M pc lp cl tk F tn gv := by
  obtain ⟨i1, i2, i3, i4, i5, i6, i7⟩ := hI
  have hI : ga_I n μ sp M tk F := ⟨i1, i2, i3, i4, i5, i6, i7⟩
  by_cases h0 : ga_el μ M x w = nI 0
  · obtain ⟨f, p, v, hf, rfl, rfl, hv, hp⟩ := ga_el0 (fun f hf => by have := ga_mk_top i5 hf; omega) h0
    have hlt := ga_mk_top i5 hf
    exact ⟨_, _, _, M, _, _, _, _, _, _, _, ⟨i1, i2, i3, ga_wr_lt i4, ga_mk_loc i5 hf fun i hi => (ga_wr_out (by omega)).symm, i6, i7⟩, fun tl => k_G_store y i5 i3 i2 i4 h0 hf (by omega) hp, fun pre => m_store y i5 (by omega) h0 hf (by omega) hp⟩
  · exact ga_same hI (fun tl => k_G_store_e x w y i5 i3 i2 i4 rfl h0) (fun pre => m_store_e x w y i5 (by omega) rfl h0)
end GSM
end
section
/-! Both: returns, catches, throws, calls. -/
section GSN
variable {LL : Nat} {xs : Nat → Int32} {n : Nat} {μ : Nat → Nat} {sp : Nat} {pc lp : Int32} {cl : Nat → Int32} {tk : Nat → Nat} {F : Nat → ga_F} {tn gv : Nat → Int32} {M : ga_M}
theorem ga_fits {es : ga_M} {lim : Nat} (h : ga_mk μ lim es) (hl : lim ≤ n) : ∀ g, ga_top es = some g → g + 8 ≤ n ∧ ga_w μ (g + 4) ≤ ga_w μ g ∧ g + ga_w μ g ≤ n := fun g hg => by
  have := ga_mk_top h hg
  omega
theorem ga_lows {es : ga_M} {lim e : Nat} (h : ga_mk μ lim es) (ht : ga_tk tk es) (hl : lim < e) : ∀ c', ga_tc es = c' + 1 → tk c' < e := fun c' hc => by
  have := ga_tk_le h ht c' (by omega)
  omega
theorem s_leave (hI : ga_I n μ sp M tk F) (v : Int32) : ga_S LL xs z_G_leave z_M_leave [.int v] n μ sp M pc lp cl tk F tn gv := by
  obtain ⟨i1, i2, i3, i4, i5, i6, i7⟩ := hI
  have hI : ga_I n μ sp M tk F := ⟨i1, i2, i3, i4, i5, i6, i7⟩
  cases hf : ga_top M with
  | none => exact ga_same hI (fun tl => by rw [hf]; exact k_G_leave_n v) (fun pre => by rw [hf]; exact m_leave_n v)
  | some f =>
    have hlt := ga_mk_top i5 hf
    have hcnt := ga_tc_le i5
    have htl := ga_tk_le i5 i6
    obtain ⟨es, h1, h2, h3, h4, h5⟩ := ga_split_top i5 i6 hf
    have hn := ga_fits (n := n) h2 (by omega)
    have hm := ga_fits (n := 1024) h2 (by omega)
    by_cases hcg : ga_cg μ (ga_rd μ (f - 16) 4) (ga_rd μ (f - 12) 4) (ga_top es) = true
    · refine ⟨ga_fp (ga_top es), ga_g1 μ (f - 16) (ga_top es) (ga_rd μ (f - 16) 4) (ga_rd μ (f - 12) 4) v, ga_g2 (f - 16) (ga_rd μ (f - 16) 4), es, ga_rd μ (f - 8) 4, lp, ga_g3 cl (ga_rd μ (f - 16) 4) (ga_rd μ (f - 12) 4) v, tk, F, tn, gv, ⟨i1, i2, ga_g2_le (by omega) (fun _ => by omega), ga_g1_lt i4, ga_g_mk h2 (by omega) (ga_base_le h2) hcg, h3, i7⟩, fun tl => ?_, fun pre => ?_⟩
      · rw [hf]
        exact k_G_leave v (by omega) (k_G_goBack v (fp2 := ga_top es) (c := ga_tc es) hlt.1 (by omega) i3 i2 i4 h1 hn hcg (ga_lows h2 h3 (by omega)) h4 (by omega) (fun i a b => ⟨h5 i a b, by have := htl i b; omega⟩))
      · rw [hf]
        exact m_leave v hlt.1 (by omega) h1 (fun g hg => ⟨(hm g hg).1, (hm g hg).2.1⟩) hcg (m_leaves v (fp2 := ga_top es) (c := ga_tc es) hlt.1 (by omega) (by omega) h1 hm hcg (ga_lows h2 h3 (by omega)) h4 (by omega) (fun i a b => ⟨h5 i a b, by have := htl i b; omega⟩))
    · have hcg : ga_cg μ (ga_rd μ (f - 16) 4) (ga_rd μ (f - 12) 4) (ga_top es) = false := Bool.eq_false_iff.mpr hcg
      exact ga_same hI (fun tl => by rw [hf]; exact k_G_leave v (by omega) (k_G_goBack_e v hlt.1 (by omega) i2 i4 h1 (fun g hg => ⟨(hn g hg).1, (hn g hg).2.1⟩) hcg)) (fun pre => by rw [hf]; exact m_leave_e v hlt.1 (by omega) h1 (fun g hg => ⟨(hm g hg).1, (hm g hg).2.1⟩) hcg)
theorem s_thrown (hI : ga_I n μ sp M tk F) (x v : Int32) : ga_S LL xs z_G_thrown z_M_thrown [.int x, .int v] n μ sp M pc lp cl tk F tn gv := by
  obtain ⟨i1, i2, i3, i4, i5, i6, i7⟩ := hI
  have hI : ga_I n μ sp M tk F := ⟨i1, i2, i3, i4, i5, i6, i7⟩
  have hcnt := ga_tc_le i5
  have htl := ga_tk_le i5 i6
  by_cases hx : ∃ j, j < ga_tc M ∧ nI (tk j) = x
  · obtain ⟨j, hj, rfl⟩ := hx
    obtain ⟨es, h0, h1, h2, h3, h4, h5, h6⟩ := ga_split_tok i5 i6 hj
    have hn := ga_fits (n := n) h4 (by omega)
    have hm := ga_fits (n := 1024) h4 (by omega)
    by_cases hcg : ga_cg μ (ga_rd μ (tk j - 16) 4) (ga_rd μ (tk j - 12) 4) (ga_top es) = true
    · refine ⟨ga_fp (ga_top es), ga_g1 μ (tk j - 16) (ga_top es) (ga_rd μ (tk j - 16) 4) (ga_rd μ (tk j - 12) 4) v, ga_g2 (tk j - 16) (ga_rd μ (tk j - 16) 4), es, ga_rd μ (tk j - 8) 4, lp, ga_g3 cl (ga_rd μ (tk j - 16) 4) (ga_rd μ (tk j - 12) 4) v, tk, F, tn, gv, ⟨i1, i2, ga_g2_le (by omega) (fun _ => by omega), ga_g1_lt i4, ga_g_mk h4 (by omega) (ga_base_le h4) hcg, h5, i7⟩, fun tl => ?_, fun pre => ?_⟩
      · exact k_G_thrown v (by omega) (by omega) hj (k_G_goBack v (fp2 := ga_top es) (c := ga_tc es) h1 h2 i3 i2 i4 h3 hn hcg (ga_lows h4 h5 (by omega)) (by omega) (by omega) (fun i a b => ⟨h6 i (by omega) b, by have := htl i b; omega⟩))
      · exact m_thrown (fp2 := ga_top es) (c := ga_tc es) (by omega) hj rfl h1 h2 (by omega) h3 hm hcg (ga_lows h4 h5 (by omega)) (by omega) (fun i a b => ⟨h6 i (by omega) b, by have := htl i b; omega⟩)
    · have hcg : ga_cg μ (ga_rd μ (tk j - 16) 4) (ga_rd μ (tk j - 12) 4) (ga_top es) = false := Bool.eq_false_iff.mpr hcg
      exact ga_same hI (fun tl => k_G_thrown v (by omega) (by omega) hj (k_G_goBack_e v h1 (by omega) i2 i4 h3 (fun g hg => ⟨(hn g hg).1, (hn g hg).2.1⟩) hcg)) (fun pre => m_thrown_e (by omega) hj rfl h1 (by omega) h3 (fun g hg => ⟨(hm g hg).1, (hm g hg).2.1⟩) hcg)
  · have hx2 : ∀ j, j < ga_tc M → ¬ nI (tk j) = x := fun j hj e => hx ⟨j, hj, e⟩
    exact ga_same hI (fun tl => k_G_thrown_n x v (by omega) (by omega) hx2) (fun pre => m_thrown_n x v (by omega) hx2)
theorem s_caught (hI : ga_I n μ sp M tk F) (way addr p : Int32) : ga_S LL xs z_G_caught z_M_caught [.int way, .int addr, .int p] n μ sp M pc lp cl tk F tn gv := by
  obtain ⟨i1, i2, i3, i4, i5, i6, i7⟩ := hI
  have hI : ga_I n μ sp M tk F := ⟨i1, i2, i3, i4, i5, i6, i7⟩
  have hcnt := ga_tc_le i5
  by_cases hw : way < 0 ∨ nI 3 < way
  · exact ga_same hI (fun tl => k_G_caught_b way addr p hw) (fun pre => m_caught_b way addr p hw)
  · cases hf : ga_top M with
    | none => exact ga_same hI (fun tl => by rw [hf]; exact k_G_caught_n way addr p hw) (fun pre => by rw [hf]; exact m_caught_n way addr p hw)
    | some f =>
      have hlt := ga_mk_top i5 hf
      by_cases hcg : ga_cg μ way addr (some f) = true
      · by_cases hfull : n < sp + 16 + (if way = nI 3 then 4 else 0)
        · exact ga_same hI (fun tl => by rw [hf]; exact k_G_caught_f way addr p hw (by omega) hlt.2.2.1 i3 i2 i4 hcg hfull) (fun pre => by rw [hf]; exact m_caught_f way addr p hw (by omega) hlt.2.2.1 i3 i2 hcg hfull)
        · have hs16 : sp + 16 ≤ n := by omega
          have hout : ∀ i, i < sp → ga_st μ sp way addr p (nI f) i = μ i := fun i hi => ga_st_out (Or.inl hi)
          have w1 : ga_w (ga_st μ sp way addr p (nI f)) f = ga_w μ f := ga_w_cong fun i h1 h2 => hout i (by omega)
          have w2 : ga_w (ga_st μ sp way addr p (nI f)) (f + 4) = ga_w μ (f + 4) := ga_w_cong fun i h1 h2 => hout i (by omega)
          have hcg2 : ga_cg (ga_st μ sp way addr p (nI f)) way addr (ga_top ((false, sp + 16) :: M)) = true := by
            show ga_cg (ga_st μ sp way addr p (nI f)) way addr (ga_top M) = true
            rw [hf, ← hcg]
            exact ga_cg_cong fun g h => by cases h; exact ⟨w1, w2⟩
          have hmk2 : ga_mk (ga_st μ sp way addr p (nI f)) (sp + 16) ((false, sp + 16) :: M) := by
            refine ⟨by omega, Nat.le_refl _, (by rw [hf]; exact fun h => by cases h), ?_, ?_⟩
            · rw [show sp + 16 - 4 = sp + 12 by omega, ga_st_fp, hf]
              rfl
            · rw [show sp + 16 - 16 = sp by omega]
              exact ga_mk_cong i5 fun i hi => (hout i hi).symm
          have hG := fun tl => k_G_caught (LL := LL) (xs := xs) (d := 2) (n := n) (μ := μ) (sp := sp) (f := f) (pc := pc) (lp := lp) (cl := cl) (tk := tk) (tc := ga_tc M) (F := F) (tn := tn) (tl := tl) way addr p hw (by omega) (by omega) hlt.2.2.1 i2 i4 hcg (by omega) (by omega)
          have hM := fun pre => m_caught (LL := LL) (xs := xs) (d := 4) (pre := pre) (n := n) (μ := μ) (sp := sp) (f := f) (pc := pc) (lp := lp) (cl := cl) (tk := tk) (tc := ga_tc M) (F := F) (gv := gv) way addr p hw (by omega) (by omega) hlt.2.2.1 i2 hcg (by omega) (by omega)
          refine ⟨nI (sp + 16), ga_g1 (ga_st μ sp way addr p (nI f)) (sp + 16) (ga_top ((false, sp + 16) :: M)) way addr (nI (sp + 16)), ga_g2 (sp + 16) way, (false, sp + 16) :: M, pc, lp, ga_g3 cl way addr (nI (sp + 16)), va_up tk (ga_tc M) (sp + 16), F, tn, gv, ⟨i1, i2, ga_g2_le hs16 (fun h => by rw [if_pos h] at hfull; omega), ga_g1_lt (ga_st_lt i4), ga_g_mk hmk2 (by omega) (Nat.le_refl _) hcg2, ⟨va_up_self _ _ _, ga_tk_cong i6 fun i hi => (va_up_ne _ _ (by omega)).symm⟩, i7⟩, fun tl => ?_, fun pre => ?_⟩
          · have h := hG tl
            rw [← hf] at h
            exact h
          · have h := hM pre
            rw [← hf] at h
            exact h
      · have hcg : ga_cg μ way addr (some f) = false := Bool.eq_false_iff.mpr hcg
        exact ga_same hI (fun tl => by rw [hf]; exact k_G_caught_w way addr p hw (by omega) hlt.2.2.1 i2 i4 hcg) (fun pre => by rw [hf]; exact m_caught_w way addr p hw (by omega) hlt.2.2.1 hcg)
theorem ga_acc {f : ga_F} (hw : ga_wf f) (h : ¬ f.2.1 = 0) : f.2.1 = 1 ∨ f.2.1 = 2 ∨ f.2.1 = 3 := by
  have := hw.2.1
  omega
theorem s_call (hI : ga_I n μ sp M tk F) (x y way addr p : Int32) : ga_S LL xs z_G_call z_M_call [.int x, .int y, .int way, .int addr, .int p] n μ sp M pc lp cl tk F tn gv := by
  obtain ⟨i1, i2, i3, i4, i5, i6, i7⟩ := hI
  have hI : ga_I n μ sp M tk F := ⟨i1, i2, i3, i4, i5, i6, i7⟩
  have hvl := ga_vc_le i5
  by_cases hx : (x < 0 ∨ nI 12 ≤ x) ∨ y < 0 ∨ way < 0 ∨ nI 3 < way
  · exact ga_same hI (fun tl => k_G_call_b x y way addr p hx) (fun pre => m_call_b x y way addr p hx)
  · obtain ⟨k, hk, rfl⟩ := ga_k12 (fun z => hx (Or.inl z))
    obtain ⟨m, hm, rfl⟩ := nI_of (x := y) (fun z => hx (Or.inr (Or.inl z)))
    have hw : ¬ (way < 0 ∨ nI 3 < way) := fun z => hx (Or.inr (Or.inr z))
    have hwf := i7 k hk
    by_cases hfr : m = 0 ∨ ga_top M ≠ none
    · by_cases hu : ga_vc μ sp M < m
      · exact ga_same hI (fun tl => k_G_call_u way addr p i5 i6 i3 i2 i4 hk hm hw hfr hu) (fun pre => m_call_u way addr p i5 i6 (by omega) hk hm hw hfr hu)
      · have hu : m ≤ ga_vc μ sp M := by omega
        have hn := ga_fits (n := n) i5 i3
        have hm1 := ga_fits (n := 1024) i5 (by omega)
        by_cases ha : (F k).2.1 = 0
        · by_cases hh : (F k).1 = 192 ∨ (F k).1 = 193
          · by_cases hfull : n < sp - 4 * m + 16 + ga_room (F k) m
            · exact ga_same hI (fun tl => k_G_call_f way addr p i5 i6 i3 i2 i4 hk hwf hw hfr hu ha hh hfull) (fun pre => m_call_f way addr p i5 i6 i3 i2 hk hwf hw hfr hu ha hh hfull)
            · have hrd : ga_rd (ga_st μ (sp - 4 * m) way addr p (ga_fp (ga_top M))) (sp - 4 * m + 16 - 4) 4 = ga_fp (ga_top M) := by
                rw [show sp - 4 * m + 16 - 4 = sp - 4 * m + 12 by omega, ga_st_fp]
              have hmk2 : ga_mk (ga_st μ (sp - 4 * m) way addr p (ga_fp (ga_top M))) (sp - 4 * m + 16 - 16) M := ga_mk_low i5 (by omega) fun i hi => (ga_st_out (Or.inl (by omega))).symm
              exact ⟨nI (sp - 4 * m + 16), ga_en (F k) (ga_va μ sp) m (ga_st μ (sp - 4 * m) way addr p (ga_fp (ga_top M))) (sp - 4 * m + 16), sp - 4 * m + 16 + ga_room (F k) m, (true, sp - 4 * m + 16) :: M, pc, lp, cl, tk, F, ga_tv μ sp m tn, ga_tv μ sp m gv, ⟨i1, i2, by omega, ga_en_lt hwf (ga_st_lt i4), ga_en_mk hwf (by omega) hrd hmk2, i6, i7⟩, fun tl => k_G_call way addr p i5 i6 i3 i2 i4 hk hwf hw hfr hu ha hh (by omega), fun pre => m_call way addr p i5 i6 i2 i3 hk hwf hw hfr hu ha hh (by omega)⟩
          · exact ga_same hI (fun tl => k_G_call_h way addr p i5 i6 i3 i2 i4 hk hwf hw hfr hu ha hh) (fun pre => m_call_h way addr p i5 i6 (by omega) hk hwf hw hfr hu ha hh)
        · have ha := ga_acc hwf ha
          by_cases hcg : ga_cg μ way addr (ga_top M) = true
          · by_cases hfull : way = nI 3 ∧ n < sp - 4 * m + 4
            · obtain ⟨rfl, hfull⟩ := hfull
              exact ga_same hI (fun tl => k_G_call_a (nI 3) addr p i5 i6 i3 i2 i4 hk hw hfr hu ha (k_G_callAcc_f addr i2 i3 i4 (fun f h => ⟨(hn f h).1, (hn f h).2.1⟩) hcg (by omega) hfull)) (fun pre => m_call_k addr p i5 i6 i3 i2 hk hfr hu ha (fun f h => ⟨(hm1 f h).1, (hm1 f h).2.1⟩) hcg hfull)
            · have hfull : way = nI 3 → sp - 4 * m + 4 ≤ n := fun h => Nat.le_of_not_lt fun z => hfull ⟨h, z⟩
              exact ⟨nI 1, ga_g1 μ (sp - 4 * m) (ga_top M) way addr (ga_gb (F k).2.1 (ga_va μ sp) m), ga_g2 (sp - 4 * m) way, M, pc, lp, ga_g3 cl way addr (ga_gb (F k).2.1 (ga_va μ sp) m), tk, F, tn, ga_tv μ sp m gv, ⟨i1, i2, ga_g2_le (by omega) hfull, ga_g1_lt i4, ga_g_mk i5 (by omega) (by omega) hcg, i6, i7⟩, fun tl => k_G_call_a way addr p i5 i6 i3 i2 i4 hk hw hfr hu ha (k_G_callAcc way addr hk ha i2 i3 i4 hn hcg (by omega) hfull), fun pre => m_call_a way addr p i5 i6 i3 i2 hk hw hfr hu ha hm1 hcg hfull⟩
          · have hcg : ga_cg μ way addr (ga_top M) = false := Bool.eq_false_iff.mpr hcg
            exact ga_same hI (fun tl => k_G_call_a way addr p i5 i6 i3 i2 i4 hk hw hfr hu ha (k_G_callAcc_w way addr i2 i4 (fun f h => ⟨(hn f h).1, (hn f h).2.1⟩) hcg)) (fun pre => m_call_w way addr p i5 i6 (by omega) hk hw hfr hu ha (fun f h => ⟨(hm1 f h).1, (hm1 f h).2.1⟩) hcg)
    · have hf : ga_top M = none := Classical.byContradiction fun z => hfr (Or.inr z)
      have h1 : 0 < m := Nat.pos_of_ne_zero fun z => hfr (Or.inl z)
      exact ga_same hI (fun tl => by rw [hf]; exact k_G_call_n way addr p hk hm h1 hw) (fun pre => by rw [hf]; exact m_call_n way addr p hk hm h1 hw)
theorem s_tail (hI : ga_I n μ sp M tk F) (x y : Int32) : ga_S LL xs z_G_tail z_M_tail [.int x, .int y] n μ sp M pc lp cl tk F tn gv := by
  obtain ⟨i1, i2, i3, i4, i5, i6, i7⟩ := hI
  have hI : ga_I n μ sp M tk F := ⟨i1, i2, i3, i4, i5, i6, i7⟩
  have hvl := ga_vc_le i5
  by_cases hx : (x < 0 ∨ nI 12 ≤ x) ∨ y < 0
  · exact ga_same hI (fun tl => k_G_tail_b x y hx) (fun pre => m_tail_b x y hx)
  · obtain ⟨k, hk, rfl⟩ := ga_k12 (fun z => hx (Or.inl z))
    obtain ⟨m, hm, rfl⟩ := nI_of (x := y) (fun z => hx (Or.inr z))
    have hwf := i7 k hk
    cases hf : ga_top M with
    | none => exact ga_same hI (fun tl => by rw [hf]; exact k_G_tail_n hk hm) (fun pre => by rw [hf]; exact m_tail_n hk hm)
    | some f =>
      by_cases hu : ga_vc μ sp M < m
      · exact ga_same hI (fun tl => k_G_tail_u i5 i6 i3 i2 i4 hk hm hf hu) (fun pre => m_tail_u i5 i6 (by omega) hk hm hf hu)
      · have hu : m ≤ ga_vc μ sp M := by omega
        have hlt := ga_mk_top i5 hf
        have hbg := ga_base_ge i5 hf
        have hcnt := ga_tc_le i5
        have htl := ga_tk_le i5 i6
        obtain ⟨es, h1, h2, h3, h4, h5⟩ := ga_split_top i5 i6 hf
        have hn := ga_fits (n := n) h2 (by omega)
        have hm1 := ga_fits (n := 1024) h2 (by omega)
        by_cases ha : (F k).2.1 = 0
        · by_cases hh : (F k).1 = 192 ∨ (F k).1 = 193
          · by_cases hfull : n < f + ga_room (F k) m
            · exact ga_same hI (fun tl => k_G_tail_f i5 i6 i3 i2 i4 hk hwf hf hu ha hh hfull) (fun pre => m_tail_f i5 i6 i3 i2 hk hwf hf hu ha hh hfull)
            · exact ⟨nI f, ga_en (F k) (ga_va μ sp) m μ f, f + ga_room (F k) m, (true, f) :: es, pc, lp, cl, tk, F, ga_tv μ sp m tn, ga_tv μ sp m gv, ⟨i1, i2, by omega, ga_en_lt hwf i4, ga_en_mk hwf hlt.1 h1 h2, h3, i7⟩, fun tl => k_G_tail (c := ga_tc es) i5 i6 i3 i2 i4 hk hwf hf hu ha hh (by omega) (ga_lows h2 h3 (by omega)) h4 (fun i a b => ⟨h5 i a b, by have := htl i b; omega⟩) (by omega), fun pre => m_tail (c := ga_tc es) i5 i6 i3 i2 hk hwf hf hu ha hh (by omega) (ga_lows h2 h3 (by omega)) h4 (fun i a b => ⟨h5 i a b, by have := htl i b; omega⟩)⟩
          · exact ga_same hI (fun tl => k_G_tail_h i5 i6 i3 i2 i4 hk hwf hf hu ha hh) (fun pre => m_tail_h i5 i6 (by omega) hk hwf hf hu ha hh)
        · have ha := ga_acc hwf ha
          by_cases hcg : ga_cg μ (ga_rd μ (f - 16) 4) (ga_rd μ (f - 12) 4) (ga_top es) = true
          · refine ⟨ga_fp (ga_top es), ga_g1 μ (f - 16) (ga_top es) (ga_rd μ (f - 16) 4) (ga_rd μ (f - 12) 4) (ga_gb (F k).2.1 (ga_va μ sp) m), ga_g2 (f - 16) (ga_rd μ (f - 16) 4), es, ga_rd μ (f - 8) 4, lp, ga_g3 cl (ga_rd μ (f - 16) 4) (ga_rd μ (f - 12) 4) (ga_gb (F k).2.1 (ga_va μ sp) m), tk, F, tn, ga_tv μ sp m gv, ⟨i1, i2, ga_g2_le (by omega) (fun _ => by omega), ga_g1_lt i4, ga_g_mk h2 (by omega) (ga_base_le h2) hcg, h3, i7⟩, fun tl => ?_, fun pre => ?_⟩
            · exact k_G_tail_a i5 i6 i3 i2 i4 hk hf hu ha (k_G_goBack _ (fp2 := ga_top es) (c := ga_tc es) hlt.1 (by omega) i3 i2 i4 h1 hn hcg (ga_lows h2 h3 (by omega)) h4 (by omega) (fun i a b => ⟨h5 i a b, by have := htl i b; omega⟩))
            · refine m_tail_a i5 i6 (by omega) hk hf hu ha h1 (fun g hg => ⟨(hm1 g hg).1, (hm1 g hg).2.1⟩) hcg ?_
              rw [hf]
              exact m_leaves _ (fp2 := ga_top es) (c := ga_tc es) hlt.1 (by omega) (by omega) h1 hm1 hcg (ga_lows h2 h3 (by omega)) h4 (by omega) (fun i a b => ⟨h5 i a b, by have := htl i b; omega⟩)
          · have hcg : ga_cg μ (ga_rd μ (f - 16) 4) (ga_rd μ (f - 12) 4) (ga_top es) = false := Bool.eq_false_iff.mpr hcg
            exact ga_same hI (fun tl => k_G_tail_a i5 i6 i3 i2 i4 hk hf hu ha (k_G_goBack_e _ hlt.1 (by omega) i2 i4 h1 (fun g hg => ⟨(hn g hg).1, (hn g hg).2.1⟩) hcg)) (fun pre => m_tail_w i5 i6 (by omega) hk hf hu ha h1 (fun g hg => ⟨(hm1 g hg).1, (hm1 g hg).2.1⟩) hcg)
end GSN
end
section
/-! What is made at the start. -/
theorem gx_ca {CALL : gx_C} {z : Nat} {av rest : List Value} {h h0 : gx_H} {cb sb : Nat} {kk : Option Value → gx_H → Nat → Nat → Prop} {mc ms : Nat} (hmc : mc ≤ cb) (hms : ms ≤ sb) (hc : gx_cat rest ≤ 8) (hcall : CALL z mc ms av h (fun r h' => r = none ∧ h' = h0)) (k : kk none h0 (cb - mc) (sb - ms)) : gx_inv CALL z av rest h cb sb kk :=
  ⟨hc, mc, ms, _, hmc, hms, hcall, fun r h1 q => by obtain ⟨rfl, rfl⟩ := q; exact k⟩
def ga_cl (x : Int32) : Nat := if x < nI 64 then 64 else if nI 1024 < x then 1024 else x.toNatClampNeg
def ga_n (x : Int32) : Nat := ga_cl x - ga_cl x % 4
theorem ga_cl_b (x : Int32) : 64 ≤ ga_cl x ∧ ga_cl x ≤ 1024 ∧ (¬ x < nI 64 → ¬ nI 1024 < x → x = nI (ga_cl x)) := by
  unfold ga_cl
  by_cases h1 : x < nI 64
  · rw [if_pos h1]
    exact ⟨by decide, by decide, fun h => absurd h1 h⟩
  · rw [if_neg h1]
    by_cases h2 : nI 1024 < x
    · rw [if_pos h2]
      exact ⟨by decide, by decide, fun _ h => absurd h2 h⟩
    · rw [if_neg h2]
      have a1 : ¬ x.toInt < (nI 64).toInt := fun z => h1 (Int32.lt_iff_toInt_lt.mpr z)
      have a2 : ¬ (nI 1024).toInt < x.toInt := fun z => h2 (Int32.lt_iff_toInt_lt.mpr z)
      rw [nI_toInt (by decide)] at a1 a2
      obtain ⟨j, hj, rfl⟩ := nI_of (x := x) (fun h => by rw [Int32.lt_iff_toInt_lt, Int32.toInt_zero] at h; omega)
      rw [nI_toInt hj] at a1 a2
      rw [nI_clamp (by omega)]
      exact ⟨by omega, by omega, fun _ _ => rfl⟩
theorem ga_n_b (x : Int32) : 64 ≤ ga_n x ∧ ga_n x ≤ 1024 := by
  have h := ga_cl_b x
  unfold ga_n
  omega
theorem ga_n_x (x : Int32) : nI (ga_cl x) - (nI (ga_cl x) - nI (ga_cl x) / nI 4 * nI 4) = nI (ga_n x) := by
  have h := ga_cl_b x
  rw [ga_rmn (by omega) (by decide) (by decide), pk_sub (by omega)]
  rfl
section GCT
variable {LL : Nat} {xs : Nat → Int32} {d : Nat} {h : gx_H}
theorem j_min (a b : Int32) : gx_call LL xs (d + 1) z_J_min 0 0 [.int a, .int b] h (fun r h' => r = some (.int (if b < a then b else a)) ∧ h' = h) := by
  refine gs_J_min _ _ (gx_run 3 (And.intro (fun c => gx_run 2 (And.intro ?_ rfl)) (fun c => gx_run 3 (And.intro ?_ rfl))))
  · rw [if_pos (show b < a from c)]
  · rw [if_neg (show ¬ b < a from c)]
theorem j_max (a b : Int32) : gx_call LL xs (d + 1) z_J_max 0 0 [.int a, .int b] h (fun r h' => r = some (.int (if a < b then b else a)) ∧ h' = h) := by
  refine gs_J_max _ _ (gx_run 3 (And.intro (fun c => gx_run 2 (And.intro ?_ rfl)) (fun c => gx_run 3 (And.intro ?_ rfl))))
  · rw [if_pos (show a < b from c)]
  · rw [if_neg (show ¬ a < b from c)]
theorem ga_mm (x : Int32) : (if nI 64 < (if x < nI 1024 then x else nI 1024) then (if x < nI 1024 then x else nI 1024) else nI 64) = nI (ga_cl x) := by
  have hb := ga_cl_b x
  by_cases h1 : x < nI 64
  · have e : ga_cl x = 64 := if_pos h1
    have h3 : x < nI 1024 := by
      have a1 := Int32.lt_iff_toInt_lt.mp h1
      rw [nI_toInt (by decide)] at a1
      rw [Int32.lt_iff_toInt_lt, nI_toInt (by decide)]
      omega
    rw [if_pos h3, e]
    have h4 : ¬ nI 64 < x := fun z => absurd (Int32.lt_trans h1 z) (Int32.lt_irrefl)
    rw [if_neg h4]
  · by_cases h2 : nI 1024 < x
    · have e : ga_cl x = 1024 := by unfold ga_cl; rw [if_neg h1, if_pos h2]
      have h4 : ¬ x < nI 1024 := fun z => absurd (Int32.lt_trans h2 z) (Int32.lt_irrefl)
      rw [if_neg h4, e]
      decide
    · have e := hb.2.2 h1 h2
      generalize hcx : ga_cl x = c at e hb ⊢
      subst e
      by_cases h5 : c < 1024
      · rw [if_pos (nI_lt h5 (by decide))]
        by_cases h6 : 64 < c
        · rw [if_pos (nI_lt h6 (by omega))]
        · rw [if_neg (nI_nlt (by omega) (by decide)), show c = 64 by omega]
      · rw [if_neg (nI_nlt (by omega) (by omega)), show c = 1024 by omega]
        decide
theorem g_R_init (x : Int32) (c0 c1 c2 : gx_A) : gx_call LL xs (d + 2) z_R_init 1 1024 [.ref 3, .int x] [c0, c1, c2, .inr (.inr (1, gx_df 1))] (fun r h => r = none ∧ h = [c0, c1, c2, .inr (.inr (1, [.ref 4, .int 0])), .inl (1, ga_n x, fun _ => 0)]) := by
  have hb := ga_n_b x
  have k1 := j_min (LL := LL) (xs := xs) (d := d) (h := [c0, c1, c2, .inr (.inr (1, gx_df 1))]) (nI 1024) x
  have k2 := j_max (LL := LL) (xs := xs) (d := d) (h := [c0, c1, c2, .inr (.inr (1, gx_df 1))]) (nI 64) (if x < nI 1024 then x else nI 1024)
  rw [ga_mm] at k2
  refine gs_R_init _ _ (gx_run 5 (And.intro (gx_le8 rfl) ?_))
  refine gx_run 6 (gx_c1 (gx_le8 rfl) k1 (gx_c1 (gx_le8 rfl) k2 ?_))
  refine gx_run 9 (And.intro (by decide) ⟨ga_n x, ga_n_x x, by omega, by decide, by omega, And.intro rfl rfl⟩)
theorem gx_set {h0 t : gx_H} {x y : gx_A} : (h0 ++ x :: t).set h0.length y = h0 ++ y :: t := by simp
theorem gx_gets {h0 t : gx_H} {x : gx_A} : (h0 ++ x :: t)[h0.length]? = some x := by simp
theorem g_F_init (h0 : gx_H) : gx_call LL xs (d + 1) z_F_init 2 12 [.ref h0.length] (h0 ++ [.inr (.inr (0, gx_df 0))]) (fun r h => r = none ∧ h = h0 ++ [.inr (.inr (0, [.int 0, .int 0, .int 0, .ref (h0.length + 1), .ref (h0.length + 2)])), .inl (0, 6, fun _ => 0), .inl (0, 6, fun _ => 0)]) := by
  refine gs_F_init _ (gx_run 4 (And.intro (gx_le8 rfl) ?_))
  refine gx_putf rfl gx_gets rfl (fun P h => h) ?_
  rw [gx_set]
  refine gx_run 2 (gx_putf rfl gx_gets rfl (fun P h => h) ?_)
  rw [gx_set]
  refine gx_run 2 (gx_putf rfl gx_gets rfl (fun P h => h) ?_)
  rw [gx_set]
  refine gx_run 3 ⟨6, rfl, by decide, by decide, by decide, ?_⟩
  rw [List.append_assoc]
  refine gx_putf rfl gx_gets rfl (fun P h => h) ?_
  rw [List.cons_append, List.nil_append, gx_set]
  refine gx_run 3 ⟨6, rfl, by decide, by decide, by decide, ?_⟩
  rw [List.append_assoc]
  refine gx_putf rfl gx_gets rfl (fun P h => h) ?_
  rw [List.cons_append, gx_set]
  refine gx_run 1 (And.intro rfl ?_)
  simp
  rfl
end GCT
end
section
/-! The class and the reference, made. -/
def ga_F0 : ga_F := (0, 0, 0, fun _ => 0, fun _ => 0)
def gi_f : Nat → (Nat → Option Nat)
  | 0 => fun _ => none
  | k + 1 => va_up (gi_f k) k (some (5 + 3 * k))
def gi_R : Nat → gx_H
  | 0 => []
  | k + 1 => gi_R k ++ [gc_o k ga_F0, gc_w ga_F0, gc_c ga_F0]
theorem gi_len : ∀ k, (gi_R k).length = 3 * k
  | 0 => rfl
  | k + 1 => by
    show (gi_R k ++ _).length = _
    rw [List.length_append, gi_len k]
    rfl
theorem gi_f12 : gi_f 12 = gc_g := by
  have h : ∀ k j, gi_f k j = if j < k then some (5 + 3 * j) else none := by
    intro k
    induction k with
    | zero => intro j; rw [if_neg (Nat.not_lt_zero j)]; rfl
    | succ k ih =>
      intro j
      show va_up (gi_f k) k _ j = _
      unfold va_up
      by_cases e : j = k
      · rw [if_pos e, if_pos (by omega), e]
      · rw [if_neg e, ih j]
        by_cases c : j < k
        · rw [if_pos c, if_pos (by omega)]
        · rw [if_neg c, if_neg (by omega)]
  funext j
  exact h 12 j
def gi_h (n k : Nat) : gx_H := .inr (.inr (2, [.ref 3, .ref 1, .ref 2, .null, .int 0, .null, .int (-(nI 1)), .int 0, .int 0])) :: .inr (.inl (12, gi_f k)) :: .inl (0, 16, fun _ => 0) :: .inr (.inr (1, [.ref 4, .int 0])) :: .inl (1, n, fun _ => 0) :: gi_R k
theorem gi_hlen (n k : Nat) : (gi_h n k).length = 5 + 3 * k := by
  show (gi_R k).length + 1 + 1 + 1 + 1 + 1 = _
  rw [gi_len]
  omega
def ga_hG (n : Nat) : gx_H := gc_h n (fun _ => 0) 0 none 0 0 (fun _ => 0) (fun _ => 0) 0 (fun _ => ga_F0) (fun _ => 0) []
section GCU
variable {LL : Nat} {xs : Nat → Int32} {d : Nat} {n : Nat}
theorem g_size (k : Nat) : gx_call LL xs (d + 1) z_R_size 0 0 [.ref 3] (gi_h n k) (fun r h => r = some (.int (nI n)) ∧ h = gi_h n k) :=
  gs_R_size _ (gx_run 4 (And.intro rfl rfl))
theorem g_size2 (k : Nat) {fs : List Value} {t : gx_H} : gx_call LL xs (d + 1) z_R_size 0 0 [.ref 3] (.inr (.inr (2, fs)) :: .inr (.inl (12, gi_f k)) :: .inl (0, 16, fun _ => 0) :: .inr (.inr (1, [.ref 4, .int 0])) :: .inl (1, n, fun _ => 0) :: t) (fun r h => r = some (.int (nI n)) ∧ h = (.inr (.inr (2, fs)) :: .inr (.inl (12, gi_f k)) :: .inl (0, 16, fun _ => 0) :: .inr (.inr (1, [.ref 4, .int 0])) :: .inl (1, n, fun _ => 0) :: t)) :=
  gs_R_size _ (gx_run 4 (And.intro rfl rfl))
theorem gi_end (hn : n ≤ 1024) : (.inr (.inr (2, [.ref 3, .ref 1, .ref 2, .ref 41, .int 0, .ref 42, .int (-(nI 1)), .int 0, .int 0])) :: .inr (.inl (12, gi_f 12)) :: .inl (0, 16, fun _ => 0) :: .inr (.inr (1, [.ref 4, .int 0])) :: .inl (1, n, fun _ => 0) :: (gi_R 12 ++ [.inl (0, n / 16 + 1, fun _ => 0), .inl (0, n / 4 + 1, fun _ => 0)]) : gx_H) = ga_hG n := by
  have e1 : (fun _ : Nat => (0 : Int32)) = fun _ => sb_b 0 := by funext i; decide
  rw [gi_f12]
  unfold ga_hG gc_h
  rw [← e1]
  rfl
theorem g_G_l (x : Int32) (hn : n ≤ 1024) : ∀ (m k cb sb : Nat), k + m = 12 → 3 * m + 2 ≤ cb → 17 * m + 400 ≤ sb →
    gx_E LL xs (gx_call LL xs (d + 1)) cd_G_init (fun r h => r = none ∧ h = ga_hG n) 30 [some (.ref 0), some (.int x), some (.int (nI k))] [] (gi_h n k) cb sb := by
  intro m
  induction m with
  | zero =>
    intro k cb sb hk hcb hsb
    obtain rfl : k = 12 := by omega
    refine gx_run 5 (And.intro (fun _ => ?_) (fun c => absurd (by decide) c))
    refine gx_run 7 (And.intro ⟨_, rfl⟩ (gx_c1 (gx_le8 rfl) (g_size 12) (And.intro (by decide) ?_)))
    refine gx_run 3 ⟨n / 16 + 1, by rw [pk_div (by omega) (by decide) (by decide), nI_add], by omega, by omega, by omega, ?_⟩
    rw [gi_hlen]
    refine gx_run 7 (And.intro ⟨_, rfl⟩ (gx_c1 (gx_le8 rfl) (gs_R_size _ (gx_run 4 (And.intro rfl rfl))) (And.intro (by decide) ?_)))
    refine gx_run 3 ⟨n / 4 + 1, by rw [pk_div (by omega) (by decide) (by decide), nI_add], by omega, by omega, by omega, ?_⟩
    exact gx_run 2 (And.intro rfl (gi_end hn))
  | succ m ih =>
    intro k cb sb hk hcb hsb
    have hF := g_F_init (LL := LL) (xs := xs) (d := d) (gi_h n k)
    rw [gi_hlen] at hF
    refine gx_run 5 (And.intro (fun c => absurd c (nI_ge (show k < 12 by omega) (by decide))) (fun _ => gx_run 4 (And.intro (by omega) (And.intro (by show 5 ≤ sb; omega) ?_))))
    rw [gi_hlen]
    have hg : ∀ (y : gx_A) (t : gx_H), (gi_h n k ++ y :: t)[5 + 3 * k]? = some y := fun y t => by rw [← gi_hlen n k]; exact gx_gets
    refine gx_run 5 (And.intro ⟨_, hg _ _⟩ (gx_ca (mc := 2) (ms := 12) (by omega) (by show 12 ≤ sb - 5; omega) (gx_le8 rfl) hF (And.intro rfl (gx_ar k rfl (show k < 12 by omega) (by decide) (And.intro ⟨_, hg _ _⟩ ?_)))))
    have h9 := ih (k + 1) (cb - 1 - 2) (sb - 5 - 12) (by omega) (by omega) (by omega)
    rw [← nI_add k 1] at h9
    have e : (gi_h n k ++ ([.inr (.inr (0, [.int 0, .int 0, .int 0, .ref (5 + 3 * k + 1), .ref (5 + 3 * k + 2)])), .inl (0, 6, fun _ => 0), .inl (0, 6, fun _ => 0)] : gx_H)).set 1 (.inr (.inl (12, va_up (gi_f k) k (some (5 + 3 * k))))) = gi_h n (k + 1) := by
      rw [show 5 + 3 * k + 1 = 6 + 3 * k by omega, show 5 + 3 * k + 2 = 7 + 3 * k by omega]
      rfl
    rw [← e] at h9
    exact h9
theorem g_G_init (x : Int32) : gx_call LL xs (d + 3) z_G_init 60 3000 [.ref 0, .int x] [.inr (.inr (2, gx_df 2))] (fun r h => r = none ∧ h = ga_hG (ga_n x)) := by
  have hb := ga_n_b x
  have h9 := g_G_l (LL := LL) (xs := xs) (d := d + 1) x hb.2 12 0 (60 - 1 - 1 - 1 - 1) (3000 - 12 - 16 - 2 - 1024) (by decide) (by decide) (by decide)
  have hR := g_R_init (LL := LL) (xs := xs) (d := d) x (.inr (.inr (2, [.null, .ref 1, .ref 2, .null, .int 0, .null, .int (-(nI 1)), .int 0, .int 0]))) (.inr (.inl (12, fun _ => none))) (.inl (0, 16, fun _ => 0))
  refine gs_G_init _ _ (gx_run 5 (And.intro (gx_le8 rfl) ⟨12, rfl, by decide, by decide, by decide, ?_⟩))
  refine gx_run 4 ⟨16, rfl, by decide, by decide, by decide, ?_⟩
  refine gx_run 15 (And.intro (by decide) (And.intro (by decide) ?_))
  exact gx_run 6 (And.intro ⟨_, rfl⟩ (gx_ca (mc := 1) (ms := 1024) (by decide) (by decide) (gx_le8 rfl) hR (And.intro rfl h9)))
end GCU
end
section
/-! The reference, made. -/
section GCV
variable {LL : Nat} {xs : Nat → Int32} {d : Nat} {h0 : gx_H}
theorem gq_get (hl : h0.length = 43) {x : gx_A} {t : gx_H} : (h0 ++ x :: t)[43]? = some x := by
  rw [← hl]
  exact gx_gets
theorem gq_set (hl : h0.length = 43) {x y : gx_A} {t : gx_H} : (h0 ++ x :: t).set 43 y = h0 ++ y :: t := by
  rw [← hl]
  exact gx_set
theorem gq_len (hl : h0.length = 43) {x : gx_A} {t : gx_H} : (h0 ++ x :: t).length = 44 + t.length := by
  rw [List.length_append, hl, List.length_cons]
  omega
theorem gq_app {x w : gx_A} {t : gx_H} : (h0 ++ x :: t) ++ [w] = h0 ++ x :: (t ++ [w]) := by simp
def ga_tM (n : Nat) : gx_H := [.inr (.inr (3, [.int (nI n), .ref 44, .int 0, .int (-(nI 1)), .int 0, .ref 45, .ref 46, .ref 47, .ref 48, .ref 49, .ref 50, .ref 51, .int 0, .int 0, .ref 52])), .inl (0, 1024, fun _ => 0), .inl (0, 16, fun _ => 0), .inl (0, 12, fun _ => 0), .inl (0, 12, fun _ => 0), .inl (0, 72, fun _ => 0), .inl (0, 72, fun _ => 0), .inl (0, 12, fun _ => 0), .inl (0, 64, fun _ => 0), .inl (0, 256, fun _ => 0)]
theorem g_M_init (x : Int32) (hl : h0.length = 43) : gx_call LL xs (d + 1) z_M_init 9 1600 [.ref 43, .int x] (h0 ++ [.inr (.inr (3, gx_df 3))]) (fun r h => r = none ∧ h = h0 ++ ga_tM (ga_n x)) := by
  have hb := ga_cl_b x
  have hO : ∀ cb sb, gx_E LL xs (gx_call LL xs d) cd_M_init (fun r h => r = none ∧ h = h0 ++ ga_tM (ga_n x)) 52 [some (.ref 43), some (.int x), none] [.int (nI (ga_cl x))] (h0 ++ .inr (.inr (3, [.int 0, .ref 44, .int 0, .int (-(nI 1)), .int 0, .ref 45, .ref 46, .ref 47, .ref 48, .ref 49, .ref 50, .ref 51, .int 0, .int 0, .ref 52])) :: [.inl (0, 1024, fun _ => 0), .inl (0, 16, fun _ => 0), .inl (0, 12, fun _ => 0), .inl (0, 12, fun _ => 0), .inl (0, 72, fun _ => 0), .inl (0, 72, fun _ => 0), .inl (0, 12, fun _ => 0), .inl (0, 64, fun _ => 0), .inl (0, 256, fun _ => 0)]) cb sb := by
    intro cb sb
    refine gx_run 7 (And.intro (by decide) ?_)
    refine gx_putf rfl (gq_get hl) rfl (fun P h => h) ?_
    rw [gq_set hl, ga_n_x]
    exact gx_run 1 (And.intro rfl rfl)
  refine gs_M_init _ _ (gx_run 4 (And.intro (gx_le8 rfl) ?_))
  refine gx_run 1 ⟨1024, rfl, by decide, by decide, by decide, ?_⟩
  rw [gq_len hl, gq_app (h0 := h0)]
  refine gx_putf rfl (gq_get hl) rfl (fun P h => h) ?_
  rw [gq_set hl]
  refine gx_run 2 (gx_putf rfl (gq_get hl) rfl (fun P h => h) ?_)
  rw [gq_set hl]
  refine gx_run 3 ⟨16, rfl, by decide, by decide, by decide, ?_⟩
  rw [gq_len hl, gq_app (h0 := h0)]
  refine gx_putf rfl (gq_get hl) rfl (fun P h => h) ?_
  rw [gq_set hl]
  refine gx_run 3 ⟨12, rfl, by decide, by decide, by decide, ?_⟩
  rw [gq_len hl, gq_app (h0 := h0)]
  refine gx_putf rfl (gq_get hl) rfl (fun P h => h) ?_
  rw [gq_set hl]
  refine gx_run 3 ⟨12, rfl, by decide, by decide, by decide, ?_⟩
  rw [gq_len hl, gq_app (h0 := h0)]
  refine gx_putf rfl (gq_get hl) rfl (fun P h => h) ?_
  rw [gq_set hl]
  refine gx_run 3 ⟨72, rfl, by decide, by decide, by decide, ?_⟩
  rw [gq_len hl, gq_app (h0 := h0)]
  refine gx_putf rfl (gq_get hl) rfl (fun P h => h) ?_
  rw [gq_set hl]
  refine gx_run 3 ⟨72, rfl, by decide, by decide, by decide, ?_⟩
  rw [gq_len hl, gq_app (h0 := h0)]
  refine gx_putf rfl (gq_get hl) rfl (fun P h => h) ?_
  rw [gq_set hl]
  refine gx_run 3 ⟨12, rfl, by decide, by decide, by decide, ?_⟩
  rw [gq_len hl, gq_app (h0 := h0)]
  refine gx_putf rfl (gq_get hl) rfl (fun P h => h) ?_
  rw [gq_set hl]
  refine gx_run 3 ⟨64, rfl, by decide, by decide, by decide, ?_⟩
  rw [gq_len hl, gq_app (h0 := h0)]
  refine gx_putf rfl (gq_get hl) rfl (fun P h => h) ?_
  rw [gq_set hl]
  refine gx_run 3 ⟨256, rfl, by decide, by decide, by decide, ?_⟩
  rw [gq_len hl, gq_app (h0 := h0)]
  refine gx_putf rfl (gq_get hl) rfl (fun P h => h) ?_
  rw [gq_set hl]
  refine gx_run 3 (And.intro (fun c1 => gx_run 3 (And.intro (fun c2 => gx_run 1 ?_) (fun c2 => gx_run 2 ?_))) (fun c1 => gx_run 2 ?_))
  · have h9 := hO (9 - 1 - 1 - 1 - 1 - 1 - 1 - 1 - 1 - 1) (1600 - 1024 - 16 - 12 - 12 - 72 - 72 - 12 - 64 - 256)
    have e := hb.2.2 (Int32.not_lt.mpr c1) (Int32.not_lt.mpr c2)
    rw [← e] at h9
    exact h9
  · have h9 := hO (9 - 1 - 1 - 1 - 1 - 1 - 1 - 1 - 1 - 1) (1600 - 1024 - 16 - 12 - 12 - 72 - 72 - 12 - 64 - 256)
    have e : ga_cl x = 1024 := by unfold ga_cl; rw [if_neg (Int32.not_lt.mpr c1), if_pos (Int32.not_le.mp c2)]
    rw [e] at h9
    exact h9
  · have h9 := hO (9 - 1 - 1 - 1 - 1 - 1 - 1 - 1 - 1 - 1) (1600 - 1024 - 16 - 12 - 12 - 72 - 72 - 12 - 64 - 256)
    have e : ga_cl x = 64 := if_pos (Int32.not_le.mp c1)
    rw [e] at h9
    exact h9
end GCV
end
section
/-! The law: both go through the script. -/
def gm_t (n : Nat) (μ : Nat → Nat) (sp : Nat) (fo : Option Nat) (pc lp : Int32) (cl : Nat → Int32) (tk : Nat → Nat) (tc : Nat) (F : Nat → ga_F) (gv : Nat → Int32) : gx_H :=
  [.inr (.inr (3, [.int (nI n), .ref 44, .int (nI sp), .int (ga_fp fo), .int pc, .ref 45, .ref 46, .ref 47, .ref 48, .ref 49, .ref 50, .ref 51, .int (nI tc), .int lp, .ref 52])),
    .inl (0, 1024, fun i => nI (μ i)), .inl (0, 16, cl), .inl (0, 12, fun f => nI (F f).1), .inl (0, 12, fun f => nI (F f).2.2.1), .inl (0, 72, fun i => nI ((F (i / 6)).2.2.2.1 (i % 6))), .inl (0, 72, fun i => nI ((F (i / 6)).2.2.2.2 (i % 6))), .inl (0, 12, fun f => nI (F f).2.1), .inl (0, 64, fun i => nI (tk i)), .inl (0, 256, gv)]
def ga_pre (n : Nat) (μ : Nat → Nat) (sp : Nat) (fo : Option Nat) (pc lp : Int32) (cl : Nat → Int32) (tk : Nat → Nat) (tc : Nat) (F : Nat → ga_F) (tn : Nat → Int32) : Nat → gx_A := fun i => (gc_h n μ sp fo pc lp cl tk tc F tn []).getD i (.inl (0, 0, fun _ => 0))
theorem ga_join {n : Nat} {μ : Nat → Nat} {sp : Nat} {fo : Option Nat} {pc lp : Int32} {cl : Nat → Int32} {tk : Nat → Nat} {tc : Nat} {F : Nat → ga_F} {tn : Nat → Int32} {n2 : Nat} {μ2 : Nat → Nat} {sp2 : Nat} {fo2 : Option Nat} {pc2 lp2 : Int32} {cl2 : Nat → Int32} {tk2 : Nat → Nat} {tc2 : Nat} {F2 : Nat → ga_F} {gv2 : Nat → Int32} :
    gc_h n μ sp fo pc lp cl tk tc F tn (gm_t n2 μ2 sp2 fo2 pc2 lp2 cl2 tk2 tc2 F2 gv2) = gm_h (ga_pre n μ sp fo pc lp cl tk tc F tn) n2 μ2 sp2 fo2 pc2 lp2 cl2 tk2 tc2 F2 gv2 := rfl
section GLW
variable {LL : Nat} {xs : Nat → Int32} {n : Nat}
def ga_X (n : Nat) (μ : Nat → Nat) (sp : Nat) (M : ga_M) (pc lp : Int32) (cl : Nat → Int32) (tk : Nat → Nat) (F : Nat → ga_F) (tn gv : Nat → Int32) : gx_H := gc_h n μ sp (ga_top M) pc lp cl tk (ga_tc M) F tn (gm_t n μ sp (ga_top M) pc lp cl tk (ga_tc M) F gv)
theorem ga_step {zG zM : Nat} {av : List Value} {μ : Nat → Nat} {sp : Nat} {M : ga_M} {pc lp : Int32} {cl : Nat → Int32} {tk : Nat → Nat} {F : Nat → ga_F} {tn gv : Nat → Int32} (h : ga_S LL xs zG zM av n μ sp M pc lp cl tk F tn gv) :
    ∃ (r : Int32) (h1 : gx_H) (μ' : Nat → Nat) (sp' : Nat) (M' : ga_M) (pc' lp' : Int32) (cl' : Nat → Int32) (tk' : Nat → Nat) (F' : Nat → ga_F) (tn' gv' : Nat → Int32), ga_I n μ' sp' M' tk' F' ∧
    gx_call LL xs 8 zG 0 0 (.ref 0 :: av) (ga_X n μ sp M pc lp cl tk F tn gv) (fun r' h => r' = some (.int r) ∧ h = h1) ∧ gx_call LL xs 8 zM 0 0 (.ref 43 :: av) h1 (fun r' h => r' = some (.int r) ∧ h = ga_X n μ' sp' M' pc' lp' cl' tk' F' tn' gv') ∧ ∃ fs, h1[43]? = some (.inr (.inr (3, fs))) := by
  obtain ⟨r, μ', sp', M', pc', lp', cl', tk', F', tn', gv', hI', hG, hM⟩ := h
  have hM := hM (ga_pre n μ' sp' (ga_top M') pc' lp' cl' tk' (ga_tc M') F' tn')
  rw [← ga_join, ← ga_join] at hM
  exact ⟨r, _, μ', sp', M', pc', lp', cl', tk', F', tn', gv', hI', hG _, hM, ⟨_, rfl⟩⟩
set_option maxRecDepth 100000 in
theorem law_l (hLL : LL ≤ 3073) : ∀ (q i : Nat) (μ : Nat → Nat) (sp : Nat) (M : ga_M) (pc lp : Int32) (cl : Nat → Int32) (tk : Nat → Nat) (F : Nat → ga_F) (tn gv : Nat → Int32) (cb sb : Nat), LL < i + 6 * (q + 1) → i ≤ 4000 → ga_I n μ sp M tk F →
    gx_E LL xs (gx_call LL xs 8) cd_L_law (fun r _ => r = some (.int (nI 1))) 16 [some (.retAddr 0), some (.ref 0), some (.ref 43), some (.int (nI i))] [] (ga_X n μ sp M pc lp cl tk F tn gv) cb sb := by
  intro q
  have hend : ∀ (i : Nat) (h : gx_H) (cb sb : Nat), LL < i + 6 → i ≤ 4000 → gx_E LL xs (gx_call LL xs 8) cd_L_law (fun r _ => r = some (.int (nI 1))) 16 [some (.retAddr 0), some (.ref 0), some (.ref 43), some (.int (nI i))] [] h cb sb := by
    intro i h cb sb hi hi2
    refine gx_run 6 (And.intro (fun _ => gx_run 2 (And.intro (Or.inr rfl) rfl)) (fun c => absurd ?_ c))
    show nI LL - nI 6 < nI i
    rw [Int32.lt_iff_toInt_lt, nI_toInt (by omega), pk_sub_toInt (by omega) (by decide)]
    omega
  induction q with
  | zero =>
    intro i μ sp M pc lp cl tk F tn gv cb sb hi hi2 hI
    exact hend i _ cb sb (by omega) hi2
  | succ q ih =>
    intro i μ sp M pc lp cl tk F tn gv cb sb hi hi2 hI
    by_cases hx : LL < i + 6
    · exact hend i _ cb sb hx hi2
    have hnext : ∀ (μ : Nat → Nat) (sp : Nat) (M : ga_M) (pc lp : Int32) (cl : Nat → Int32) (tk : Nat → Nat) (F : Nat → ga_F) (tn gv : Nat → Int32), ga_I n μ sp M tk F → gx_E LL xs (gx_call LL xs 8) cd_L_law (fun r _ => r = some (.int (nI 1))) 552 [some (.retAddr 0), some (.ref 0), some (.ref 43), some (.int (nI i))] [] (ga_X n μ sp M pc lp cl tk F tn gv) cb sb := by
      intro μ sp M pc lp cl tk F tn gv hI
      have h9 := ih (i + 6) μ sp M pc lp cl tk F tn gv cb sb (by omega) (by omega) hI
      rw [← nI_add i 6] at h9
      exact gx_run 2 h9
    have hc0 : ¬ nI LL - nI 6 < nI i := by
      rw [Int32.lt_iff_toInt_lt, nI_toInt (by omega), pk_sub_toInt (by omega) (by decide)]
      omega
    refine gx_run 6 (And.intro (fun c => absurd c hc0) (fun _ => gx_run 6 (gx_ar i rfl (by omega) (by omega) ?_)))
    refine And.intro (fun _ => hnext _ _ _ _ _ _ _ _ _ _ hI) (And.intro (fun _ => ?_) (And.intro (fun _ => ?_) (And.intro (fun _ => ?_) (And.intro (fun _ => ?_) (And.intro (fun _ => ?_) (And.intro (fun _ => ?_) (And.intro (fun _ => ?_) (And.intro (fun _ => ?_) (And.intro (fun _ => ?_) (And.intro (fun _ => ?_) (And.intro (fun _ => ?_) (And.intro (fun _ => ?_) (And.intro (fun _ => ?_) (And.intro (fun _ => ?_) (And.intro (fun _ => ?_) (And.intro (fun _ => ?_) (And.intro (fun _ => ?_) (And.intro (fun _ => ?_) (And.intro (fun _ => ?_) (And.intro (fun _ => ?_) (And.intro (fun _ => ?_) (And.intro (fun _ => ?_) (trivial)))))))))))))))))))))))
    · obtain ⟨r, h1, μ', sp', M', pc', lp', cl', tk', F', tn', gv', hI', hG, hM, hO⟩ := ga_step (s_function (LL := LL) (xs := xs) (pc := pc) (lp := lp) (cl := cl) (tn := tn) (gv := gv) hI (xs (i + 1)) (xs (i + 2)))
      exact gx_run 25 (gx_ar (i + 1) (nI_add i 1) (by omega) (by omega) (gx_ar (i + 2) (nI_add i 2) (by omega) (by omega) (And.intro ⟨_, rfl⟩ (gx_c1 (gx_le8 rfl) hG (gx_ar (i + 1) (nI_add i 1) (by omega) (by omega) (gx_ar (i + 2) (nI_add i 2) (by omega) (by omega) (And.intro hO (gx_c1 (gx_le8 rfl) hM (And.intro (fun _ => hnext _ _ _ _ _ _ _ _ _ _ hI') (fun c => absurd rfl c))))))))))
    · obtain ⟨r, h1, μ', sp', M', pc', lp', cl', tk', F', tn', gv', hI', hG, hM, hO⟩ := ga_step (s_format (LL := LL) (xs := xs) (pc := pc) (lp := lp) (cl := cl) (tn := tn) (gv := gv) hI (xs (i + 1)) (xs (i + 2)) (xs (i + 3)))
      exact gx_run 35 (gx_ar (i + 1) (nI_add i 1) (by omega) (by omega) (gx_ar (i + 2) (nI_add i 2) (by omega) (by omega) (gx_ar (i + 3) (nI_add i 3) (by omega) (by omega) (And.intro ⟨_, rfl⟩ (gx_c1 (gx_le8 rfl) hG (gx_ar (i + 1) (nI_add i 1) (by omega) (by omega) (gx_ar (i + 2) (nI_add i 2) (by omega) (by omega) (gx_ar (i + 3) (nI_add i 3) (by omega) (by omega) (And.intro hO (gx_c1 (gx_le8 rfl) hM (And.intro (fun _ => hnext _ _ _ _ _ _ _ _ _ _ hI') (fun c => absurd rfl c))))))))))))
    · obtain ⟨r, h1, μ', sp', M', pc', lp', cl', tk', F', tn', gv', hI', hG, hM, hO⟩ := ga_step (s_accelerate (LL := LL) (xs := xs) (pc := pc) (lp := lp) (cl := cl) (tn := tn) (gv := gv) hI (xs (i + 1)) (xs (i + 2)))
      exact gx_run 25 (gx_ar (i + 1) (nI_add i 1) (by omega) (by omega) (gx_ar (i + 2) (nI_add i 2) (by omega) (by omega) (And.intro ⟨_, rfl⟩ (gx_c1 (gx_le8 rfl) hG (gx_ar (i + 1) (nI_add i 1) (by omega) (by omega) (gx_ar (i + 2) (nI_add i 2) (by omega) (by omega) (And.intro hO (gx_c1 (gx_le8 rfl) hM (And.intro (fun _ => hnext _ _ _ _ _ _ _ _ _ _ hI') (fun c => absurd rfl c))))))))))
    · obtain ⟨r, h1, μ', sp', M', pc', lp', cl', tk', F', tn', gv', hI', hG, hM, hO⟩ := ga_step (s_told (LL := LL) (xs := xs) (pc := pc) (lp := lp) (cl := cl) (tn := tn) (gv := gv) hI (xs (i + 1)) (xs (i + 2)))
      exact gx_run 25 (gx_ar (i + 1) (nI_add i 1) (by omega) (by omega) (gx_ar (i + 2) (nI_add i 2) (by omega) (by omega) (And.intro ⟨_, rfl⟩ (gx_c1 (gx_le8 rfl) hG (gx_ar (i + 1) (nI_add i 1) (by omega) (by omega) (gx_ar (i + 2) (nI_add i 2) (by omega) (by omega) (And.intro hO (gx_c1 (gx_le8 rfl) hM (And.intro (fun _ => hnext _ _ _ _ _ _ _ _ _ _ hI') (fun c => absurd rfl c))))))))))
    · obtain ⟨r, h1, μ', sp', M', pc', lp', cl', tk', F', tn', gv', hI', hG, hM, hO⟩ := ga_step (s_local (LL := LL) (xs := xs) (pc := pc) (lp := lp) (cl := cl) (tn := tn) (gv := gv) hI (xs (i + 1)) (xs (i + 2)))
      exact gx_run 25 (gx_ar (i + 1) (nI_add i 1) (by omega) (by omega) (gx_ar (i + 2) (nI_add i 2) (by omega) (by omega) (And.intro ⟨_, rfl⟩ (gx_c1 (gx_le8 rfl) hG (gx_ar (i + 1) (nI_add i 1) (by omega) (by omega) (gx_ar (i + 2) (nI_add i 2) (by omega) (by omega) (And.intro hO (gx_c1 (gx_le8 rfl) hM (And.intro (fun _ => hnext _ _ _ _ _ _ _ _ _ _ hI') (fun c => absurd rfl c))))))))))
    · obtain ⟨r, h1, μ', sp', M', pc', lp', cl', tk', F', tn', gv', hI', hG, hM, hO⟩ := ga_step (s_call (LL := LL) (xs := xs) (pc := pc) (lp := lp) (cl := cl) (tn := tn) (gv := gv) hI (xs (i + 1)) (xs (i + 2)) (xs (i + 3)) (xs (i + 4)) (xs (i + 5)))
      exact gx_run 55 (gx_ar (i + 1) (nI_add i 1) (by omega) (by omega) (gx_ar (i + 2) (nI_add i 2) (by omega) (by omega) (gx_ar (i + 3) (nI_add i 3) (by omega) (by omega) (gx_ar (i + 4) (nI_add i 4) (by omega) (by omega) (gx_ar (i + 5) (nI_add i 5) (by omega) (by omega) (And.intro ⟨_, rfl⟩ (gx_c1 (gx_le8 rfl) hG (gx_ar (i + 1) (nI_add i 1) (by omega) (by omega) (gx_ar (i + 2) (nI_add i 2) (by omega) (by omega) (gx_ar (i + 3) (nI_add i 3) (by omega) (by omega) (gx_ar (i + 4) (nI_add i 4) (by omega) (by omega) (gx_ar (i + 5) (nI_add i 5) (by omega) (by omega) (And.intro hO (gx_c1 (gx_le8 rfl) hM (And.intro (fun _ => hnext _ _ _ _ _ _ _ _ _ _ hI') (fun c => absurd rfl c))))))))))))))))
    · obtain ⟨r, h1, μ', sp', M', pc', lp', cl', tk', F', tn', gv', hI', hG, hM, hO⟩ := ga_step (s_leave (LL := LL) (xs := xs) (pc := pc) (lp := lp) (cl := cl) (tn := tn) (gv := gv) hI (xs (i + 1)))
      exact gx_run 15 (gx_ar (i + 1) (nI_add i 1) (by omega) (by omega) (And.intro ⟨_, rfl⟩ (gx_c1 (gx_le8 rfl) hG (gx_ar (i + 1) (nI_add i 1) (by omega) (by omega) (And.intro hO (gx_c1 (gx_le8 rfl) hM (And.intro (fun _ => hnext _ _ _ _ _ _ _ _ _ _ hI') (fun c => absurd rfl c))))))))
    · obtain ⟨r, h1, μ', sp', M', pc', lp', cl', tk', F', tn', gv', hI', hG, hM, hO⟩ := ga_step (s_caught (LL := LL) (xs := xs) (pc := pc) (lp := lp) (cl := cl) (tn := tn) (gv := gv) hI (xs (i + 1)) (xs (i + 2)) (xs (i + 3)))
      exact gx_run 35 (gx_ar (i + 1) (nI_add i 1) (by omega) (by omega) (gx_ar (i + 2) (nI_add i 2) (by omega) (by omega) (gx_ar (i + 3) (nI_add i 3) (by omega) (by omega) (And.intro ⟨_, rfl⟩ (gx_c1 (gx_le8 rfl) hG (gx_ar (i + 1) (nI_add i 1) (by omega) (by omega) (gx_ar (i + 2) (nI_add i 2) (by omega) (by omega) (gx_ar (i + 3) (nI_add i 3) (by omega) (by omega) (And.intro hO (gx_c1 (gx_le8 rfl) hM (And.intro (fun _ => hnext _ _ _ _ _ _ _ _ _ _ hI') (fun c => absurd rfl c))))))))))))
    · obtain ⟨r, h1, μ', sp', M', pc', lp', cl', tk', F', tn', gv', hI', hG, hM, hO⟩ := ga_step (s_thrown (LL := LL) (xs := xs) (pc := pc) (lp := lp) (cl := cl) (tn := tn) (gv := gv) hI (xs (i + 1)) (xs (i + 2)))
      exact gx_run 25 (gx_ar (i + 1) (nI_add i 1) (by omega) (by omega) (gx_ar (i + 2) (nI_add i 2) (by omega) (by omega) (And.intro ⟨_, rfl⟩ (gx_c1 (gx_le8 rfl) hG (gx_ar (i + 1) (nI_add i 1) (by omega) (by omega) (gx_ar (i + 2) (nI_add i 2) (by omega) (by omega) (And.intro hO (gx_c1 (gx_le8 rfl) hM (And.intro (fun _ => hnext _ _ _ _ _ _ _ _ _ _ hI') (fun c => absurd rfl c))))))))))
    · obtain ⟨r, h1, μ', sp', M', pc', lp', cl', tk', F', tn', gv', hI', hG, hM, hO⟩ := ga_step (s_tail (LL := LL) (xs := xs) (pc := pc) (lp := lp) (cl := cl) (tn := tn) (gv := gv) hI (xs (i + 1)) (xs (i + 2)))
      exact gx_run 25 (gx_ar (i + 1) (nI_add i 1) (by omega) (by omega) (gx_ar (i + 2) (nI_add i 2) (by omega) (by omega) (And.intro ⟨_, rfl⟩ (gx_c1 (gx_le8 rfl) hG (gx_ar (i + 1) (nI_add i 1) (by omega) (by omega) (gx_ar (i + 2) (nI_add i 2) (by omega) (by omega) (And.intro hO (gx_c1 (gx_le8 rfl) hM (And.intro (fun _ => hnext _ _ _ _ _ _ _ _ _ _ hI') (fun c => absurd rfl c))))))))))
    · obtain ⟨r, h1, μ', sp', M', pc', lp', cl', tk', F', tn', gv', hI', hG, hM, hO⟩ := ga_step (s_push (LL := LL) (xs := xs) (pc := pc) (lp := lp) (cl := cl) (tn := tn) (gv := gv) hI (xs (i + 1)))
      exact gx_run 15 (gx_ar (i + 1) (nI_add i 1) (by omega) (by omega) (And.intro ⟨_, rfl⟩ (gx_c1 (gx_le8 rfl) hG (gx_ar (i + 1) (nI_add i 1) (by omega) (by omega) (And.intro hO (gx_c1 (gx_le8 rfl) hM (And.intro (fun _ => hnext _ _ _ _ _ _ _ _ _ _ hI') (fun c => absurd rfl c))))))))
    · obtain ⟨r, h1, μ', sp', M', pc', lp', cl', tk', F', tn', gv', hI', hG, hM, hO⟩ := ga_step (s_pop (LL := LL) (xs := xs) (pc := pc) (lp := lp) (cl := cl) (tn := tn) (gv := gv) hI )
      exact gx_run 5 (And.intro ⟨_, rfl⟩ (gx_c1 (gx_le8 rfl) hG (And.intro hO (gx_c1 (gx_le8 rfl) hM (And.intro (fun _ => hnext _ _ _ _ _ _ _ _ _ _ hI') (fun c => absurd rfl c))))))
    · obtain ⟨r, h1, μ', sp', M', pc', lp', cl', tk', F', tn', gv', hI', hG, hM, hO⟩ := ga_step (s_popped (LL := LL) (xs := xs) (pc := pc) (lp := lp) (cl := cl) (tn := tn) (gv := gv) hI )
      exact gx_run 5 (And.intro ⟨_, rfl⟩ (gx_c1 (gx_le8 rfl) hG (And.intro hO (gx_c1 (gx_le8 rfl) hM (And.intro (fun _ => hnext _ _ _ _ _ _ _ _ _ _ hI') (fun c => absurd rfl c))))))
    · obtain ⟨r, h1, μ', sp', M', pc', lp', cl', tk', F', tn', gv', hI', hG, hM, hO⟩ := ga_step (s_peek (LL := LL) (xs := xs) (pc := pc) (lp := lp) (cl := cl) (tn := tn) (gv := gv) hI (xs (i + 1)))
      exact gx_run 15 (gx_ar (i + 1) (nI_add i 1) (by omega) (by omega) (And.intro ⟨_, rfl⟩ (gx_c1 (gx_le8 rfl) hG (gx_ar (i + 1) (nI_add i 1) (by omega) (by omega) (And.intro hO (gx_c1 (gx_le8 rfl) hM (And.intro (fun _ => hnext _ _ _ _ _ _ _ _ _ _ hI') (fun c => absurd rfl c))))))))
    · obtain ⟨r, h1, μ', sp', M', pc', lp', cl', tk', F', tn', gv', hI', hG, hM, hO⟩ := ga_step (s_copy (LL := LL) (xs := xs) (pc := pc) (lp := lp) (cl := cl) (tn := tn) (gv := gv) hI (xs (i + 1)))
      exact gx_run 15 (gx_ar (i + 1) (nI_add i 1) (by omega) (by omega) (And.intro ⟨_, rfl⟩ (gx_c1 (gx_le8 rfl) hG (gx_ar (i + 1) (nI_add i 1) (by omega) (by omega) (And.intro hO (gx_c1 (gx_le8 rfl) hM (And.intro (fun _ => hnext _ _ _ _ _ _ _ _ _ _ hI') (fun c => absurd rfl c))))))))
    · obtain ⟨r, h1, μ', sp', M', pc', lp', cl', tk', F', tn', gv', hI', hG, hM, hO⟩ := ga_step (s_roll (LL := LL) (xs := xs) (pc := pc) (lp := lp) (cl := cl) (tn := tn) (gv := gv) hI (xs (i + 1)) (xs (i + 2)))
      exact gx_run 25 (gx_ar (i + 1) (nI_add i 1) (by omega) (by omega) (gx_ar (i + 2) (nI_add i 2) (by omega) (by omega) (And.intro ⟨_, rfl⟩ (gx_c1 (gx_le8 rfl) hG (gx_ar (i + 1) (nI_add i 1) (by omega) (by omega) (gx_ar (i + 2) (nI_add i 2) (by omega) (by omega) (And.intro hO (gx_c1 (gx_le8 rfl) hM (And.intro (fun _ => hnext _ _ _ _ _ _ _ _ _ _ hI') (fun c => absurd rfl c))))))))))
    · obtain ⟨r, h1, μ', sp', M', pc', lp', cl', tk', F', tn', gv', hI', hG, hM, hO⟩ := ga_step (s_swap (LL := LL) (xs := xs) (pc := pc) (lp := lp) (cl := cl) (tn := tn) (gv := gv) hI )
      exact gx_run 5 (And.intro ⟨_, rfl⟩ (gx_c1 (gx_le8 rfl) hG (And.intro hO (gx_c1 (gx_le8 rfl) hM (And.intro (fun _ => hnext _ _ _ _ _ _ _ _ _ _ hI') (fun c => absurd rfl c))))))
    · obtain ⟨r, h1, μ', sp', M', pc', lp', cl', tk', F', tn', gv', hI', hG, hM, hO⟩ := ga_step (s_load (LL := LL) (xs := xs) (pc := pc) (lp := lp) (cl := cl) (tn := tn) (gv := gv) hI (xs (i + 1)) (xs (i + 2)))
      exact gx_run 25 (gx_ar (i + 1) (nI_add i 1) (by omega) (by omega) (gx_ar (i + 2) (nI_add i 2) (by omega) (by omega) (And.intro ⟨_, rfl⟩ (gx_c1 (gx_le8 rfl) hG (gx_ar (i + 1) (nI_add i 1) (by omega) (by omega) (gx_ar (i + 2) (nI_add i 2) (by omega) (by omega) (And.intro hO (gx_c1 (gx_le8 rfl) hM (And.intro (fun _ => hnext _ _ _ _ _ _ _ _ _ _ hI') (fun c => absurd rfl c))))))))))
    · obtain ⟨r, h1, μ', sp', M', pc', lp', cl', tk', F', tn', gv', hI', hG, hM, hO⟩ := ga_step (s_store (LL := LL) (xs := xs) (pc := pc) (lp := lp) (cl := cl) (tn := tn) (gv := gv) hI (xs (i + 1)) (xs (i + 2)) (xs (i + 3)))
      exact gx_run 35 (gx_ar (i + 1) (nI_add i 1) (by omega) (by omega) (gx_ar (i + 2) (nI_add i 2) (by omega) (by omega) (gx_ar (i + 3) (nI_add i 3) (by omega) (by omega) (And.intro ⟨_, rfl⟩ (gx_c1 (gx_le8 rfl) hG (gx_ar (i + 1) (nI_add i 1) (by omega) (by omega) (gx_ar (i + 2) (nI_add i 2) (by omega) (by omega) (gx_ar (i + 3) (nI_add i 3) (by omega) (by omega) (And.intro hO (gx_c1 (gx_le8 rfl) hM (And.intro (fun _ => hnext _ _ _ _ _ _ _ _ _ _ hI') (fun c => absurd rfl c))))))))))))
    · obtain ⟨r, h1, μ', sp', M', pc', lp', cl', tk', F', tn', gv', hI', hG, hM, hO⟩ := ga_step (s_byteAt (LL := LL) (xs := xs) (pc := pc) (lp := lp) (cl := cl) (tn := tn) (gv := gv) hI (xs (i + 1)))
      exact gx_run 15 (gx_ar (i + 1) (nI_add i 1) (by omega) (by omega) (And.intro ⟨_, rfl⟩ (gx_c1 (gx_le8 rfl) hG (gx_ar (i + 1) (nI_add i 1) (by omega) (by omega) (And.intro hO (gx_c1 (gx_le8 rfl) hM (And.intro (fun _ => hnext _ _ _ _ _ _ _ _ _ _ hI') (fun c => absurd rfl c))))))))
    · obtain ⟨r, h1, μ', sp', M', pc', lp', cl', tk', F', tn', gv', hI', hG, hM, hO⟩ := ga_step (s_cell (LL := LL) (xs := xs) (pc := pc) (lp := lp) (cl := cl) (tn := tn) (gv := gv) hI (xs (i + 1)))
      exact gx_run 15 (gx_ar (i + 1) (nI_add i 1) (by omega) (by omega) (And.intro ⟨_, rfl⟩ (gx_c1 (gx_le8 rfl) hG (gx_ar (i + 1) (nI_add i 1) (by omega) (by omega) (And.intro hO (gx_c1 (gx_le8 rfl) hM (And.intro (fun _ => hnext _ _ _ _ _ _ _ _ _ _ hI') (fun c => absurd rfl c))))))))
    · obtain ⟨r, h1, μ', sp', M', pc', lp', cl', tk', F', tn', gv', hI', hG, hM, hO⟩ := ga_step (s_count (LL := LL) (xs := xs) (pc := pc) (lp := lp) (cl := cl) (tn := tn) (gv := gv) hI (xs (i + 1)))
      exact gx_run 15 (gx_ar (i + 1) (nI_add i 1) (by omega) (by omega) (And.intro ⟨_, rfl⟩ (gx_c1 (gx_le8 rfl) hG (gx_ar (i + 1) (nI_add i 1) (by omega) (by omega) (And.intro hO (gx_c1 (gx_le8 rfl) hM (And.intro (fun _ => hnext _ _ _ _ _ _ _ _ _ _ hI') (fun c => absurd rfl c))))))))
theorem l_cell {d : Nat} {h : gx_H} (hLL : LL ≤ 3073) : gx_call LL xs (d + 1) z_L_cell 0 0 [.retAddr 0, .int (nI 0)] h (fun r h' => r = some (.int (if 0 < LL then xs 0 else nI 0)) ∧ h' = h) := by
  by_cases c : 0 < LL
  · rw [if_pos c]
    exact gs_L_cell _ (gx_run 4 (And.intro (fun z => absurd z (nI_ge c (by omega))) (fun _ => gx_run 5 (gx_ar 0 rfl c (by omega) (And.intro rfl rfl)))))
  · rw [if_neg c]
    exact gs_L_cell _ (gx_run 4 (And.intro (fun _ => gx_run 2 (And.intro rfl rfl)) (fun z => absurd (nI_le (show LL ≤ 0 by omega) (by decide)) z)))
theorem ga_I0 {n : Nat} (h1 : 64 ≤ n) (h2 : n ≤ 1024) : ga_I n (fun _ => 0) 0 [] (fun _ => 0) (fun _ => ga_F0) := ⟨h1, h2, Nat.zero_le _, fun _ => Nat.zero_lt_succ _, trivial, trivial, fun _ _ => ⟨Nat.zero_le _, Nat.zero_le _, Nat.zero_le _, fun i hi => absurd hi (Nat.not_lt_zero i)⟩⟩
set_option maxRecDepth 100000 in
theorem law_run (hLL : LL ≤ 3073) : gx_E LL xs (gx_call LL xs 8) cd_L_law (fun r _ => r = some (.int (nI 1))) 0 [some (.retAddr 0), none, none, none] [] [] 600000 7302250 := by
  have hb := ga_n_b (if 0 < LL then xs 0 else nI 0)
  have h9 := law_l (xs := xs) (n := ga_n (if 0 < LL then xs 0 else nI 0)) hLL 600 1 (fun _ => 0) 0 [] 0 0 (fun _ => 0) (fun _ => 0) (fun _ => ga_F0) (fun _ => 0) (fun _ => 0) (600000 - 1 - 60 - 1 - 9) (7302250 - 9 - 3000 - 15 - 1600) (by omega) (by decide) (ga_I0 hb.1 hb.2)
  refine gx_run 7 (And.intro (by decide) (And.intro (by decide) (gx_c1 (gx_le8 rfl) (l_cell hLL) (And.intro ⟨_, rfl⟩ (gx_ca (mc := 60) (ms := 3000) (by decide) (by decide) (gx_le8 rfl) (g_G_init _) (And.intro rfl ?_))))))
  exact gx_run 9 (And.intro (by decide) (And.intro (by decide) (gx_c1 (gx_le8 rfl) (l_cell hLL) (And.intro ⟨_, rfl⟩ (gx_ca (mc := 9) (ms := 1600) (by decide) (by decide) (gx_le8 rfl) (g_M_init (h0 := ga_hG _) _ rfl) (And.intro rfl h9))))))
end GLW
end
section
/-- from the entry, for every script of at most 3073 ints, the law comes to its end with true -/
theorem whole_start {p : Program} {e : Env} {s : State} {m : MethodId} {below : List Frame} {meth : Method} {c : Code} (l : Launch) (hflags : l.flags = flags0) {b L : Nat} {xs : Nat → Int32} (hL : L ≤ 3073) (C0 : lw_At p s m meth c b L xs) : W p l e room_1 s m #[Value.ref b] below meth c s.heap [] 0 0 (lw_Z below #[Value.ref b] s) (entryFrame m ([Value.ref b] : List Value).toArray 4) :=
  whole_open (fun _ _ h => law_run h) l hL C0
set_option maxHeartbeats 4000000 in
theorem lw_walk (l : Launch) (hflags : l.flags = flags0) (b : Addr) (xs : List Int32) : MetFree l x (headSpec (Jvm.Cond.code x code maxLocals ret :: tables_1) room_1) (lw_P b xs) (fun _ _ _ _ _ => True) lw_Q := by
  refine MetFree.of_bodyS (code := code) (maxLocals := maxLocals) (ret := ret) (by decide) ?_ ?_
  · intro args s m h hn
    obtain ⟨meth, c, h1, h2, h3, h4, h5, h6, -, -⟩ := Cond.code_spec hn (atoms_spec (ws := Jvm.Cond.code x code maxLocals ret :: tables_1) h _ List.mem_cons_self)
    exact ⟨meth, c, h1, h2, h3, h4, h5, h6⟩
  · intro p e s m args below meth c s₁ B hml0 hP _
    obtain ⟨rfl, hx, hbd, hgv⟩ := hP
    obtain ⟨scr, harrAt, hlist, hof, hsmall⟩ := hx
    obtain ⟨hcb, hkn, -, -⟩ := State.arrayAt?_spec harrAt
    have hown : s.vm.findClass R_law = some m.cls := findClass_of_methodNamed B.named
    have hts0 : ∀ c ∈ (Jvm.Cond.code x code maxLocals ret :: tables_1), c.before #[Value.ref b] s = true := atoms_spec (ws := Jvm.Cond.code x code maxLocals ret :: tables_1) B.pre
    have hts : ∀ w ∈ lw_tbl, w.before #[Value.ref b] s = true := k2_hts_sels lw_privs (fun w hw => hts0 w (List.mem_cons_of_mem _ hw)) lw_privs_ok
    have hml : c.maxLocals = 4 := B.maxLocals_eq (hts0 _ List.mem_cons_self)
    have X₀ : Stand p l e room_1 s m #[Value.ref b] below meth c s₁ [] 0 0 := Stand.of_body B
    have hh0 : s₁.heap = s.heap := by rw [B.state]; rfl
    have hsz : scr.slots.size = xs.length := by rw [← Array.length_toList, hlist, List.length_map]
    have hval : ∀ j : Nat, j < xs.length → scr.slots[j]? = some (.int (xs.getD j 0)) := fun j hj => by
      rw [← Array.getElem?_toList, hlist]
      simp [hj]
    have hbl : b < s.heap.size := (Array.getElem?_eq_some_iff.mp hcb).1
    have hX : va_X b xs.length (fun j => xs.getD j 0) s s.heap := ⟨scr, hcb, hof, hkn, hsz, hval⟩
    have K : W p l e room_1 s m #[Value.ref b] below meth c s₁.heap [] 0 0 (lw_Z below #[Value.ref b] s) (entryFrame m ([Value.ref b] : List Value).toArray 4) := by
      rw [hh0]
      exact whole_start l hflags hbd ⟨B.exec, B.bytes, B.returns, hml, hown, hts, hX, hbl, B.notSynchronized, hgv⟩
    obtain ⟨t, a1, o, b1, b2, b3⟩ := K s₁ rfl X₀
    exact ⟨t, o, a1, b1, b2, b3⟩
theorem lw_pre_spec {args : Array Value} {s : State} (h : (Jvm.Cond.and given_1 narrow_1).before args s = true) (hr : rest_1_c.before args s = true) : ∃ (b : Addr) (xs : List Int32), lw_P b xs args s := by
  have hs := flat_of_before _ h
  have hq := flat_of_before _ hr
  have hc : (Cond.count 1).before args s = true := hs _ (by decide +kernel)
  have harr : (Cond.arrayOf (.arg 0) .int).before args s = true := hs _ (by decide +kernel)
  have hle : (Cond.le (.length (.arg 0)) (.int 3073)).before args s = true := hs _ (by decide +kernel)
  have hlen : (Cond.isInt (.length (.arg 0))).before args s = true := hq _ (by decide +kernel)
  have hall : (Cond.all (.arg 0) (.isInt (.elem (.arg 0) (.index 0)))).before args s = true := hq _ (by decide +kernel)
  obtain ⟨b, xs, hb, hx⟩ := State.ints_of_pre rfl harr hlen hall
  have hsm : xs.length < 2 ^ 31 := hx.choose_spec.2.2.2
  have hev : (Term.length (.arg 0)).eval args s none [] s = some (.int xs.length.toInt32) := hx.length_eval hb
  have hv := Cond.le_ints hev (show (Term.int 3073).eval args s none [] s = some (.int 3073) from rfl)
  have hd : xs.length.toInt32 ≤ 3073 := by
    simpa [Cond.before, Cond.holds, hv] using hle
  have hN : xs.length ≤ 3073 := (Int32.ofNat_le_ofNat hsm (by decide)).mp (show Int32.ofNat xs.length ≤ Int32.ofNat 3073 from hd)
  exact ⟨b, xs, Cond.one_arg hc (show args[0]? = some (.ref b) from hb), hx, hN, h⟩
theorem lw_comes (l : Launch) (hflags : l.flags = flags0) : Comes l x (Jvm.Cond.code x code maxLocals ret :: tables_1) room_1 (fun tb e args s => Calls_1 tb e args s ∧ rest_1 tb e args s ∧ Pre_1 tb e args s)
    (fun _ _ args s o t => lw_Q args s o t) := by
  intro p e ha hc hk s m args below hf hfit hheap happ hpre
  obtain ⟨b, xs, hP⟩ := lw_pre_spec hpre.2.2 hpre.2.1
  obtain ⟨k, o, h1, h2, h3, hQ⟩ := lw_walk l hflags b xs p e ha hc hk s m args below hf ((Spec.applies_iff_loose hf).mp happ).1 hP trivial
  exact ⟨k, o, h1, h2, h3, hQ⟩
theorem lw_frame {s t : State} {o : Outcome} {args : Array Value} (h : Framed s o t [] 600000 7302250) :
    Framed s o t (fieldLocs frame_1_writes args s ++ arrayLocs frame_1_arrays args s ++ staticLocs frame_1_statics s) 600000 7302250 := h
theorem lw_limb (L : Cond) (hL : ∀ (args : Array Value) (s t : State), L.after args s (.returned (some (.int 1))) t = true) :
    ArmFor flags0 classFile x code maxLocals ret World_1 tables_1 room_1 Calls_1 rest_1 Pre_1
      (fun tb e a s o t => postC L tb e a s o t ∧ Framed s o t (fieldLocs frame_1_writes a s ++ arrayLocs frame_1_arrays a s ++ staticLocs frame_1_statics s) 600000 7302250) := by
  intro l hflags _ _ p e ha hc hk s m args below hf hfit hheap happ hpre
  obtain ⟨k, o, h1, h2, h3, rfl, hF⟩ := lw_comes l hflags p e ha hc hk s m args below hf hfit hheap happ hpre
  exact ⟨k, _, h1, h2, h3, hL args s _, lw_frame hF⟩
theorem i_vc : Claimed_1_1 ∧ Claimed_1_2 := ⟨lw_limb limb_1_1 (fun args s t => by simp [limb_1_1, Cond.after, Cond.holds, Cond.value]), lw_limb limb_1_2 (fun args s t => Cond.after_iff.mpr (by
  first | (rw [show limb_1_2 = Cond.eq .result (.int 1) from rfl, Cond.eq_ints (x := 1) (y := 1) rfl rfl]; simp; done) | (simp [limb_1_2, Cond.value, Term.eval]; done)))⟩
end
