/-! printed by gen.py: every site of every method keeps what part 04 asks -/
theorem zk_F_init : gx_zok mt_F_init = true := by decide +kernel
theorem zk_F_begin : gx_zok mt_F_begin = true := by decide +kernel
theorem zk_F_addPair : gx_zok mt_F_addPair = true := by decide +kernel
theorem zk_F_widthOfPair : gx_zok mt_F_widthOfPair = true := by decide +kernel
theorem zk_F_countOfPair : gx_zok mt_F_countOfPair = true := by decide +kernel
theorem zk_F_isAccelerated : gx_zok mt_F_isAccelerated = true := by decide +kernel
theorem zk_F_hasFrameHead : gx_zok mt_F_hasFrameHead = true := by decide +kernel
theorem zk_F_takesPushed : gx_zok mt_F_takesPushed = true := by decide +kernel
theorem zk_F_localCount : gx_zok mt_F_localCount = true := by decide +kernel
theorem zk_F_localsBegin : gx_zok mt_F_localsBegin = true := by decide +kernel
theorem zk_F_placeOfLocal : gx_zok mt_F_placeOfLocal = true := by decide +kernel
theorem zk_F_frameLength : gx_zok mt_F_frameLength = true := by decide +kernel
theorem zk_F_bytesWith : gx_zok mt_F_bytesWith = true := by decide +kernel
theorem zk_F_upTo : gx_zok mt_F_upTo = true := by decide +kernel
theorem zk_R_init : gx_zok mt_R_init = true := by decide +kernel
theorem zk_R_size : gx_zok mt_R_size = true := by decide +kernel
theorem zk_R_end : gx_zok mt_R_end = true := by decide +kernel
theorem zk_R_reaches : gx_zok mt_R_reaches = true := by decide +kernel
theorem zk_R_number : gx_zok mt_R_number = true := by decide +kernel
theorem zk_R_set : gx_zok mt_R_set = true := by decide +kernel
theorem zk_R_append : gx_zok mt_R_append = true := by decide +kernel
theorem zk_R_appendZeros : gx_zok mt_R_appendZeros = true := by decide +kernel
theorem zk_R_cutTo : gx_zok mt_R_cutTo = true := by decide +kernel
theorem zk_R_byteOrZero : gx_zok mt_R_byteOrZero = true := by decide +kernel
theorem zk_R_setByte : gx_zok mt_R_setByte = true := by decide +kernel
theorem zk_G_init : gx_zok mt_G_init = true := by decide +kernel
theorem zk_G_function : gx_zok mt_G_function = true := by decide +kernel
theorem zk_G_format : gx_zok mt_G_format = true := by decide +kernel
theorem zk_G_accelerate : gx_zok mt_G_accelerate = true := by decide +kernel
theorem zk_G_told : gx_zok mt_G_told = true := by decide +kernel
theorem zk_G_local : gx_zok mt_G_local = true := by decide +kernel
theorem zk_G_functionOf : gx_zok mt_G_functionOf = true := by decide +kernel
theorem zk_G_isWidth : gx_zok mt_G_isWidth = true := by decide +kernel
theorem zk_G_call : gx_zok mt_G_call = true := by decide +kernel
theorem zk_G_callAccelerated : gx_zok mt_G_callAccelerated = true := by decide +kernel
theorem zk_G_tail : gx_zok mt_G_tail = true := by decide +kernel
theorem zk_G_leave : gx_zok mt_G_leave = true := by decide +kernel
theorem zk_G_caught : gx_zok mt_G_caught = true := by decide +kernel
theorem zk_G_thrown : gx_zok mt_G_thrown = true := by decide +kernel
theorem zk_G_givenBy : gx_zok mt_G_givenBy = true := by decide +kernel
theorem zk_G_pushStub : gx_zok mt_G_pushStub = true := by decide +kernel
theorem zk_G_goBack : gx_zok mt_G_goBack = true := by decide +kernel
theorem zk_G_frameBelow : gx_zok mt_G_frameBelow = true := by decide +kernel
theorem zk_G_pushFrame : gx_zok mt_G_pushFrame = true := by decide +kernel
theorem zk_G_pushArguments : gx_zok mt_G_pushArguments = true := by decide +kernel
theorem zk_G_setLocals : gx_zok mt_G_setLocals = true := by decide +kernel
theorem zk_G_isFrame : gx_zok mt_G_isFrame = true := by decide +kernel
theorem zk_G_valuesAt : gx_zok mt_G_valuesAt = true := by decide +kernel
theorem zk_G_localsAt : gx_zok mt_G_localsAt = true := by decide +kernel
theorem zk_G_isInLocals : gx_zok mt_G_isInLocals = true := by decide +kernel
theorem zk_G_frameCount : gx_zok mt_G_frameCount = true := by decide +kernel
theorem zk_G_isWay : gx_zok mt_G_isWay = true := by decide +kernel
theorem zk_G_canGo : gx_zok mt_G_canGo = true := by decide +kernel
theorem zk_G_send : gx_zok mt_G_send = true := by decide +kernel
theorem zk_G_isCell : gx_zok mt_G_isCell = true := by decide +kernel
theorem zk_G_addToken : gx_zok mt_G_addToken = true := by decide +kernel
theorem zk_G_latestToken : gx_zok mt_G_latestToken = true := by decide +kernel
theorem zk_G_isLive : gx_zok mt_G_isLive = true := by decide +kernel
theorem zk_G_dropTokensFrom : gx_zok mt_G_dropTokensFrom = true := by decide +kernel
theorem zk_G_push : gx_zok mt_G_push = true := by decide +kernel
theorem zk_G_pop : gx_zok mt_G_pop = true := by decide +kernel
theorem zk_G_popped : gx_zok mt_G_popped = true := by decide +kernel
theorem zk_G_peek : gx_zok mt_G_peek = true := by decide +kernel
theorem zk_G_copy : gx_zok mt_G_copy = true := by decide +kernel
theorem zk_G_roll : gx_zok mt_G_roll = true := by decide +kernel
theorem zk_G_swap : gx_zok mt_G_swap = true := by decide +kernel
theorem zk_G_faultOfLast : gx_zok mt_G_faultOfLast = true := by decide +kernel
theorem zk_G_rollLast : gx_zok mt_G_rollLast = true := by decide +kernel
theorem zk_G_valuesBegin : gx_zok mt_G_valuesBegin = true := by decide +kernel
theorem zk_G_valueCount : gx_zok mt_G_valueCount = true := by decide +kernel
theorem zk_G_valueFromLast : gx_zok mt_G_valueFromLast = true := by decide +kernel
theorem zk_G_takeValues : gx_zok mt_G_takeValues = true := by decide +kernel
theorem zk_G_takenValue : gx_zok mt_G_takenValue = true := by decide +kernel
theorem zk_G_load : gx_zok mt_G_load = true := by decide +kernel
theorem zk_G_store : gx_zok mt_G_store = true := by decide +kernel
theorem zk_G_faultOfLocal : gx_zok mt_G_faultOfLocal = true := by decide +kernel
theorem zk_G_byteAt : gx_zok mt_G_byteAt = true := by decide +kernel
theorem zk_G_cell : gx_zok mt_G_cell = true := by decide +kernel
theorem zk_G_count : gx_zok mt_G_count = true := by decide +kernel
theorem zk_M_init : gx_zok mt_M_init = true := by decide +kernel
theorem zk_M_in : gx_zok mt_M_in = true := by decide +kernel
theorem zk_M_fault : gx_zok mt_M_fault = true := by decide +kernel
theorem zk_M_read : gx_zok mt_M_read = true := by decide +kernel
theorem zk_M_write : gx_zok mt_M_write = true := by decide +kernel
theorem zk_M_isFunction : gx_zok mt_M_isFunction = true := by decide +kernel
theorem zk_M_function : gx_zok mt_M_function = true := by decide +kernel
theorem zk_M_isWidth : gx_zok mt_M_isWidth = true := by decide +kernel
theorem zk_M_format : gx_zok mt_M_format = true := by decide +kernel
theorem zk_M_accelerate : gx_zok mt_M_accelerate = true := by decide +kernel
theorem zk_M_up : gx_zok mt_M_up = true := by decide +kernel
theorem zk_M_begin : gx_zok mt_M_begin = true := by decide +kernel
theorem zk_M_locals : gx_zok mt_M_locals = true := by decide +kernel
theorem zk_M_placeOf : gx_zok mt_M_placeOf = true := by decide +kernel
theorem zk_M_widthOf : gx_zok mt_M_widthOf = true := by decide +kernel
theorem zk_M_lengthOf : gx_zok mt_M_lengthOf = true := by decide +kernel
theorem zk_M_told : gx_zok mt_M_told = true := by decide +kernel
theorem zk_M_local : gx_zok mt_M_local = true := by decide +kernel
theorem zk_M_hasFrame : gx_zok mt_M_hasFrame = true := by decide +kernel
theorem zk_M_base : gx_zok mt_M_base = true := by decide +kernel
theorem zk_M_values : gx_zok mt_M_values = true := by decide +kernel
theorem zk_M_lengthAt : gx_zok mt_M_lengthAt = true := by decide +kernel
theorem zk_M_localsAt : gx_zok mt_M_localsAt = true := by decide +kernel
theorem zk_M_isPlace : gx_zok mt_M_isPlace = true := by decide +kernel
theorem zk_M_canGo : gx_zok mt_M_canGo = true := by decide +kernel
theorem zk_M_pushes : gx_zok mt_M_pushes = true := by decide +kernel
theorem zk_M_go : gx_zok mt_M_go = true := by decide +kernel
theorem zk_M_stub : gx_zok mt_M_stub = true := by decide +kernel
theorem zk_M_forget : gx_zok mt_M_forget = true := by decide +kernel
theorem zk_M_result : gx_zok mt_M_result = true := by decide +kernel
theorem zk_M_take : gx_zok mt_M_take = true := by decide +kernel
theorem zk_M_room : gx_zok mt_M_room = true := by decide +kernel
theorem zk_M_enter : gx_zok mt_M_enter = true := by decide +kernel
theorem zk_M_hasHead : gx_zok mt_M_hasHead = true := by decide +kernel
theorem zk_M_call : gx_zok mt_M_call = true := by decide +kernel
theorem zk_M_canLeave : gx_zok mt_M_canLeave = true := by decide +kernel
theorem zk_M_leaves : gx_zok mt_M_leaves = true := by decide +kernel
theorem zk_M_leave : gx_zok mt_M_leave = true := by decide +kernel
theorem zk_M_caught : gx_zok mt_M_caught = true := by decide +kernel
theorem zk_M_thrown : gx_zok mt_M_thrown = true := by decide +kernel
theorem zk_M_tail : gx_zok mt_M_tail = true := by decide +kernel
theorem zk_M_push : gx_zok mt_M_push = true := by decide +kernel
theorem zk_M_pop : gx_zok mt_M_pop = true := by decide +kernel
theorem zk_M_popped : gx_zok mt_M_popped = true := by decide +kernel
theorem zk_M_peek : gx_zok mt_M_peek = true := by decide +kernel
theorem zk_M_copy : gx_zok mt_M_copy = true := by decide +kernel
theorem zk_M_roll : gx_zok mt_M_roll = true := by decide +kernel
theorem zk_M_swap : gx_zok mt_M_swap = true := by decide +kernel
theorem zk_M_against : gx_zok mt_M_against = true := by decide +kernel
theorem zk_M_load : gx_zok mt_M_load = true := by decide +kernel
theorem zk_M_store : gx_zok mt_M_store = true := by decide +kernel
theorem zk_M_byteAt : gx_zok mt_M_byteAt = true := by decide +kernel
theorem zk_M_cell : gx_zok mt_M_cell = true := by decide +kernel
theorem zk_M_frames : gx_zok mt_M_frames = true := by decide +kernel
theorem zk_M_count : gx_zok mt_M_count = true := by decide +kernel
theorem zk_J_floorMod : gx_zok mt_J_floorMod = true := by decide +kernel
theorem zk_J_max : gx_zok mt_J_max = true := by decide +kernel
theorem zk_J_min : gx_zok mt_J_min = true := by decide +kernel
theorem zk_L_cell : gx_zok mt_L_cell = true := by decide +kernel
theorem zk_all_0 : ∀ e ∈ ([mt_F_init, mt_F_begin, mt_F_addPair, mt_F_widthOfPair, mt_F_countOfPair, mt_F_isAccelerated, mt_F_hasFrameHead, mt_F_takesPushed, mt_F_localCount, mt_F_localsBegin, mt_F_placeOfLocal, mt_F_frameLength, mt_F_bytesWith, mt_F_upTo, mt_R_init, mt_R_size, mt_R_end, mt_R_reaches, mt_R_number, mt_R_set] : List gx_M), gx_zok e = true := List.forall_mem_cons.mpr ⟨zk_F_init, List.forall_mem_cons.mpr ⟨zk_F_begin, List.forall_mem_cons.mpr ⟨zk_F_addPair, List.forall_mem_cons.mpr ⟨zk_F_widthOfPair, List.forall_mem_cons.mpr ⟨zk_F_countOfPair, List.forall_mem_cons.mpr ⟨zk_F_isAccelerated, List.forall_mem_cons.mpr ⟨zk_F_hasFrameHead, List.forall_mem_cons.mpr ⟨zk_F_takesPushed, List.forall_mem_cons.mpr ⟨zk_F_localCount, List.forall_mem_cons.mpr ⟨zk_F_localsBegin, List.forall_mem_cons.mpr ⟨zk_F_placeOfLocal, List.forall_mem_cons.mpr ⟨zk_F_frameLength, List.forall_mem_cons.mpr ⟨zk_F_bytesWith, List.forall_mem_cons.mpr ⟨zk_F_upTo, List.forall_mem_cons.mpr ⟨zk_R_init, List.forall_mem_cons.mpr ⟨zk_R_size, List.forall_mem_cons.mpr ⟨zk_R_end, List.forall_mem_cons.mpr ⟨zk_R_reaches, List.forall_mem_cons.mpr ⟨zk_R_number, List.forall_mem_cons.mpr ⟨zk_R_set, fun _ h => absurd h List.not_mem_nil⟩⟩⟩⟩⟩⟩⟩⟩⟩⟩⟩⟩⟩⟩⟩⟩⟩⟩⟩⟩
theorem zk_all_1 : ∀ e ∈ ([mt_R_append, mt_R_appendZeros, mt_R_cutTo, mt_R_byteOrZero, mt_R_setByte, mt_G_init, mt_G_function, mt_G_format, mt_G_accelerate, mt_G_told, mt_G_local, mt_G_functionOf, mt_G_isWidth, mt_G_call, mt_G_callAccelerated, mt_G_tail, mt_G_leave, mt_G_caught, mt_G_thrown, mt_G_givenBy] : List gx_M), gx_zok e = true := List.forall_mem_cons.mpr ⟨zk_R_append, List.forall_mem_cons.mpr ⟨zk_R_appendZeros, List.forall_mem_cons.mpr ⟨zk_R_cutTo, List.forall_mem_cons.mpr ⟨zk_R_byteOrZero, List.forall_mem_cons.mpr ⟨zk_R_setByte, List.forall_mem_cons.mpr ⟨zk_G_init, List.forall_mem_cons.mpr ⟨zk_G_function, List.forall_mem_cons.mpr ⟨zk_G_format, List.forall_mem_cons.mpr ⟨zk_G_accelerate, List.forall_mem_cons.mpr ⟨zk_G_told, List.forall_mem_cons.mpr ⟨zk_G_local, List.forall_mem_cons.mpr ⟨zk_G_functionOf, List.forall_mem_cons.mpr ⟨zk_G_isWidth, List.forall_mem_cons.mpr ⟨zk_G_call, List.forall_mem_cons.mpr ⟨zk_G_callAccelerated, List.forall_mem_cons.mpr ⟨zk_G_tail, List.forall_mem_cons.mpr ⟨zk_G_leave, List.forall_mem_cons.mpr ⟨zk_G_caught, List.forall_mem_cons.mpr ⟨zk_G_thrown, List.forall_mem_cons.mpr ⟨zk_G_givenBy, fun _ h => absurd h List.not_mem_nil⟩⟩⟩⟩⟩⟩⟩⟩⟩⟩⟩⟩⟩⟩⟩⟩⟩⟩⟩⟩
theorem zk_all_2 : ∀ e ∈ ([mt_G_pushStub, mt_G_goBack, mt_G_frameBelow, mt_G_pushFrame, mt_G_pushArguments, mt_G_setLocals, mt_G_isFrame, mt_G_valuesAt, mt_G_localsAt, mt_G_isInLocals, mt_G_frameCount, mt_G_isWay, mt_G_canGo, mt_G_send, mt_G_isCell, mt_G_addToken, mt_G_latestToken, mt_G_isLive, mt_G_dropTokensFrom, mt_G_push] : List gx_M), gx_zok e = true := List.forall_mem_cons.mpr ⟨zk_G_pushStub, List.forall_mem_cons.mpr ⟨zk_G_goBack, List.forall_mem_cons.mpr ⟨zk_G_frameBelow, List.forall_mem_cons.mpr ⟨zk_G_pushFrame, List.forall_mem_cons.mpr ⟨zk_G_pushArguments, List.forall_mem_cons.mpr ⟨zk_G_setLocals, List.forall_mem_cons.mpr ⟨zk_G_isFrame, List.forall_mem_cons.mpr ⟨zk_G_valuesAt, List.forall_mem_cons.mpr ⟨zk_G_localsAt, List.forall_mem_cons.mpr ⟨zk_G_isInLocals, List.forall_mem_cons.mpr ⟨zk_G_frameCount, List.forall_mem_cons.mpr ⟨zk_G_isWay, List.forall_mem_cons.mpr ⟨zk_G_canGo, List.forall_mem_cons.mpr ⟨zk_G_send, List.forall_mem_cons.mpr ⟨zk_G_isCell, List.forall_mem_cons.mpr ⟨zk_G_addToken, List.forall_mem_cons.mpr ⟨zk_G_latestToken, List.forall_mem_cons.mpr ⟨zk_G_isLive, List.forall_mem_cons.mpr ⟨zk_G_dropTokensFrom, List.forall_mem_cons.mpr ⟨zk_G_push, fun _ h => absurd h List.not_mem_nil⟩⟩⟩⟩⟩⟩⟩⟩⟩⟩⟩⟩⟩⟩⟩⟩⟩⟩⟩⟩
theorem zk_all_3 : ∀ e ∈ ([mt_G_pop, mt_G_popped, mt_G_peek, mt_G_copy, mt_G_roll, mt_G_swap, mt_G_faultOfLast, mt_G_rollLast, mt_G_valuesBegin, mt_G_valueCount, mt_G_valueFromLast, mt_G_takeValues, mt_G_takenValue, mt_G_load, mt_G_store, mt_G_faultOfLocal, mt_G_byteAt, mt_G_cell, mt_G_count, mt_M_init] : List gx_M), gx_zok e = true := List.forall_mem_cons.mpr ⟨zk_G_pop, List.forall_mem_cons.mpr ⟨zk_G_popped, List.forall_mem_cons.mpr ⟨zk_G_peek, List.forall_mem_cons.mpr ⟨zk_G_copy, List.forall_mem_cons.mpr ⟨zk_G_roll, List.forall_mem_cons.mpr ⟨zk_G_swap, List.forall_mem_cons.mpr ⟨zk_G_faultOfLast, List.forall_mem_cons.mpr ⟨zk_G_rollLast, List.forall_mem_cons.mpr ⟨zk_G_valuesBegin, List.forall_mem_cons.mpr ⟨zk_G_valueCount, List.forall_mem_cons.mpr ⟨zk_G_valueFromLast, List.forall_mem_cons.mpr ⟨zk_G_takeValues, List.forall_mem_cons.mpr ⟨zk_G_takenValue, List.forall_mem_cons.mpr ⟨zk_G_load, List.forall_mem_cons.mpr ⟨zk_G_store, List.forall_mem_cons.mpr ⟨zk_G_faultOfLocal, List.forall_mem_cons.mpr ⟨zk_G_byteAt, List.forall_mem_cons.mpr ⟨zk_G_cell, List.forall_mem_cons.mpr ⟨zk_G_count, List.forall_mem_cons.mpr ⟨zk_M_init, fun _ h => absurd h List.not_mem_nil⟩⟩⟩⟩⟩⟩⟩⟩⟩⟩⟩⟩⟩⟩⟩⟩⟩⟩⟩⟩
theorem zk_all_4 : ∀ e ∈ ([mt_M_in, mt_M_fault, mt_M_read, mt_M_write, mt_M_isFunction, mt_M_function, mt_M_isWidth, mt_M_format, mt_M_accelerate, mt_M_up, mt_M_begin, mt_M_locals, mt_M_placeOf, mt_M_widthOf, mt_M_lengthOf, mt_M_told, mt_M_local, mt_M_hasFrame, mt_M_base, mt_M_values] : List gx_M), gx_zok e = true := List.forall_mem_cons.mpr ⟨zk_M_in, List.forall_mem_cons.mpr ⟨zk_M_fault, List.forall_mem_cons.mpr ⟨zk_M_read, List.forall_mem_cons.mpr ⟨zk_M_write, List.forall_mem_cons.mpr ⟨zk_M_isFunction, List.forall_mem_cons.mpr ⟨zk_M_function, List.forall_mem_cons.mpr ⟨zk_M_isWidth, List.forall_mem_cons.mpr ⟨zk_M_format, List.forall_mem_cons.mpr ⟨zk_M_accelerate, List.forall_mem_cons.mpr ⟨zk_M_up, List.forall_mem_cons.mpr ⟨zk_M_begin, List.forall_mem_cons.mpr ⟨zk_M_locals, List.forall_mem_cons.mpr ⟨zk_M_placeOf, List.forall_mem_cons.mpr ⟨zk_M_widthOf, List.forall_mem_cons.mpr ⟨zk_M_lengthOf, List.forall_mem_cons.mpr ⟨zk_M_told, List.forall_mem_cons.mpr ⟨zk_M_local, List.forall_mem_cons.mpr ⟨zk_M_hasFrame, List.forall_mem_cons.mpr ⟨zk_M_base, List.forall_mem_cons.mpr ⟨zk_M_values, fun _ h => absurd h List.not_mem_nil⟩⟩⟩⟩⟩⟩⟩⟩⟩⟩⟩⟩⟩⟩⟩⟩⟩⟩⟩⟩
theorem zk_all_5 : ∀ e ∈ ([mt_M_lengthAt, mt_M_localsAt, mt_M_isPlace, mt_M_canGo, mt_M_pushes, mt_M_go, mt_M_stub, mt_M_forget, mt_M_result, mt_M_take, mt_M_room, mt_M_enter, mt_M_hasHead, mt_M_call, mt_M_canLeave, mt_M_leaves, mt_M_leave, mt_M_caught, mt_M_thrown, mt_M_tail] : List gx_M), gx_zok e = true := List.forall_mem_cons.mpr ⟨zk_M_lengthAt, List.forall_mem_cons.mpr ⟨zk_M_localsAt, List.forall_mem_cons.mpr ⟨zk_M_isPlace, List.forall_mem_cons.mpr ⟨zk_M_canGo, List.forall_mem_cons.mpr ⟨zk_M_pushes, List.forall_mem_cons.mpr ⟨zk_M_go, List.forall_mem_cons.mpr ⟨zk_M_stub, List.forall_mem_cons.mpr ⟨zk_M_forget, List.forall_mem_cons.mpr ⟨zk_M_result, List.forall_mem_cons.mpr ⟨zk_M_take, List.forall_mem_cons.mpr ⟨zk_M_room, List.forall_mem_cons.mpr ⟨zk_M_enter, List.forall_mem_cons.mpr ⟨zk_M_hasHead, List.forall_mem_cons.mpr ⟨zk_M_call, List.forall_mem_cons.mpr ⟨zk_M_canLeave, List.forall_mem_cons.mpr ⟨zk_M_leaves, List.forall_mem_cons.mpr ⟨zk_M_leave, List.forall_mem_cons.mpr ⟨zk_M_caught, List.forall_mem_cons.mpr ⟨zk_M_thrown, List.forall_mem_cons.mpr ⟨zk_M_tail, fun _ h => absurd h List.not_mem_nil⟩⟩⟩⟩⟩⟩⟩⟩⟩⟩⟩⟩⟩⟩⟩⟩⟩⟩⟩⟩
theorem zk_all_6 : ∀ e ∈ ([mt_M_push, mt_M_pop, mt_M_popped, mt_M_peek, mt_M_copy, mt_M_roll, mt_M_swap, mt_M_against, mt_M_load, mt_M_store, mt_M_byteAt, mt_M_cell, mt_M_frames, mt_M_count, mt_J_floorMod, mt_J_max, mt_J_min, mt_L_cell] : List gx_M), gx_zok e = true := List.forall_mem_cons.mpr ⟨zk_M_push, List.forall_mem_cons.mpr ⟨zk_M_pop, List.forall_mem_cons.mpr ⟨zk_M_popped, List.forall_mem_cons.mpr ⟨zk_M_peek, List.forall_mem_cons.mpr ⟨zk_M_copy, List.forall_mem_cons.mpr ⟨zk_M_roll, List.forall_mem_cons.mpr ⟨zk_M_swap, List.forall_mem_cons.mpr ⟨zk_M_against, List.forall_mem_cons.mpr ⟨zk_M_load, List.forall_mem_cons.mpr ⟨zk_M_store, List.forall_mem_cons.mpr ⟨zk_M_byteAt, List.forall_mem_cons.mpr ⟨zk_M_cell, List.forall_mem_cons.mpr ⟨zk_M_frames, List.forall_mem_cons.mpr ⟨zk_M_count, List.forall_mem_cons.mpr ⟨zk_J_floorMod, List.forall_mem_cons.mpr ⟨zk_J_max, List.forall_mem_cons.mpr ⟨zk_J_min, List.forall_mem_cons.mpr ⟨zk_L_cell, fun _ h => absurd h List.not_mem_nil⟩⟩⟩⟩⟩⟩⟩⟩⟩⟩⟩⟩⟩⟩⟩⟩⟩⟩
theorem zk_all : ∀ e ∈ gx_mt, gx_zok e = true := by
  intro e he
  have h : e ∈ [mt_F_init, mt_F_begin, mt_F_addPair, mt_F_widthOfPair, mt_F_countOfPair, mt_F_isAccelerated, mt_F_hasFrameHead, mt_F_takesPushed, mt_F_localCount, mt_F_localsBegin, mt_F_placeOfLocal, mt_F_frameLength, mt_F_bytesWith, mt_F_upTo, mt_R_init, mt_R_size, mt_R_end, mt_R_reaches, mt_R_number, mt_R_set] ++ ([mt_R_append, mt_R_appendZeros, mt_R_cutTo, mt_R_byteOrZero, mt_R_setByte, mt_G_init, mt_G_function, mt_G_format, mt_G_accelerate, mt_G_told, mt_G_local, mt_G_functionOf, mt_G_isWidth, mt_G_call, mt_G_callAccelerated, mt_G_tail, mt_G_leave, mt_G_caught, mt_G_thrown, mt_G_givenBy] ++ ([mt_G_pushStub, mt_G_goBack, mt_G_frameBelow, mt_G_pushFrame, mt_G_pushArguments, mt_G_setLocals, mt_G_isFrame, mt_G_valuesAt, mt_G_localsAt, mt_G_isInLocals, mt_G_frameCount, mt_G_isWay, mt_G_canGo, mt_G_send, mt_G_isCell, mt_G_addToken, mt_G_latestToken, mt_G_isLive, mt_G_dropTokensFrom, mt_G_push] ++ ([mt_G_pop, mt_G_popped, mt_G_peek, mt_G_copy, mt_G_roll, mt_G_swap, mt_G_faultOfLast, mt_G_rollLast, mt_G_valuesBegin, mt_G_valueCount, mt_G_valueFromLast, mt_G_takeValues, mt_G_takenValue, mt_G_load, mt_G_store, mt_G_faultOfLocal, mt_G_byteAt, mt_G_cell, mt_G_count, mt_M_init] ++ ([mt_M_in, mt_M_fault, mt_M_read, mt_M_write, mt_M_isFunction, mt_M_function, mt_M_isWidth, mt_M_format, mt_M_accelerate, mt_M_up, mt_M_begin, mt_M_locals, mt_M_placeOf, mt_M_widthOf, mt_M_lengthOf, mt_M_told, mt_M_local, mt_M_hasFrame, mt_M_base, mt_M_values] ++ ([mt_M_lengthAt, mt_M_localsAt, mt_M_isPlace, mt_M_canGo, mt_M_pushes, mt_M_go, mt_M_stub, mt_M_forget, mt_M_result, mt_M_take, mt_M_room, mt_M_enter, mt_M_hasHead, mt_M_call, mt_M_canLeave, mt_M_leaves, mt_M_leave, mt_M_caught, mt_M_thrown, mt_M_tail] ++ ([mt_M_push, mt_M_pop, mt_M_popped, mt_M_peek, mt_M_copy, mt_M_roll, mt_M_swap, mt_M_against, mt_M_load, mt_M_store, mt_M_byteAt, mt_M_cell, mt_M_frames, mt_M_count, mt_J_floorMod, mt_J_max, mt_J_min, mt_L_cell])))))) := he
  simp only [List.mem_append] at h
  rcases h with h | h | h | h | h | h | h
  · exact zk_all_0 e h
  · exact zk_all_1 e h
  · exact zk_all_2 e h
  · exact zk_all_3 e h
  · exact zk_all_4 e h
  · exact zk_all_5 e h
  · exact zk_all_6 e h
theorem zl_0 : (List.range' 0 40).all (gx_ok RL "law" code (some .boolean) 4 cd_L_law) = true := by decide +kernel
theorem zl_40 : (List.range' 40 40).all (gx_ok RL "law" code (some .boolean) 4 cd_L_law) = true := by decide +kernel
theorem zl_80 : (List.range' 80 40).all (gx_ok RL "law" code (some .boolean) 4 cd_L_law) = true := by decide +kernel
theorem zl_120 : (List.range' 120 40).all (gx_ok RL "law" code (some .boolean) 4 cd_L_law) = true := by decide +kernel
theorem zl_160 : (List.range' 160 40).all (gx_ok RL "law" code (some .boolean) 4 cd_L_law) = true := by decide +kernel
theorem zl_200 : (List.range' 200 40).all (gx_ok RL "law" code (some .boolean) 4 cd_L_law) = true := by decide +kernel
theorem zl_240 : (List.range' 240 40).all (gx_ok RL "law" code (some .boolean) 4 cd_L_law) = true := by decide +kernel
theorem zl_280 : (List.range' 280 40).all (gx_ok RL "law" code (some .boolean) 4 cd_L_law) = true := by decide +kernel
theorem zl_320 : (List.range' 320 40).all (gx_ok RL "law" code (some .boolean) 4 cd_L_law) = true := by decide +kernel
theorem zl_360 : (List.range' 360 40).all (gx_ok RL "law" code (some .boolean) 4 cd_L_law) = true := by decide +kernel
theorem zl_400 : (List.range' 400 40).all (gx_ok RL "law" code (some .boolean) 4 cd_L_law) = true := by decide +kernel
theorem zl_440 : (List.range' 440 40).all (gx_ok RL "law" code (some .boolean) 4 cd_L_law) = true := by decide +kernel
theorem zl_480 : (List.range' 480 40).all (gx_ok RL "law" code (some .boolean) 4 cd_L_law) = true := by decide +kernel
theorem zl_520 : (List.range' 520 36).all (gx_ok RL "law" code (some .boolean) 4 cd_L_law) = true := by decide +kernel
theorem zl_all : ∀ i, gx_ok RL "law" code (some .boolean) 4 cd_L_law i = true := by
  intro i
  by_cases hi : i < 556
  · rcases Nat.lt_or_ge i 40 with h | h
    · exact List.all_eq_true.mp zl_0 i (by simp only [List.mem_range'_1]; omega)
    · rcases Nat.lt_or_ge i 80 with h | h
      · exact List.all_eq_true.mp zl_40 i (by simp only [List.mem_range'_1]; omega)
      · rcases Nat.lt_or_ge i 120 with h | h
        · exact List.all_eq_true.mp zl_80 i (by simp only [List.mem_range'_1]; omega)
        · rcases Nat.lt_or_ge i 160 with h | h
          · exact List.all_eq_true.mp zl_120 i (by simp only [List.mem_range'_1]; omega)
          · rcases Nat.lt_or_ge i 200 with h | h
            · exact List.all_eq_true.mp zl_160 i (by simp only [List.mem_range'_1]; omega)
            · rcases Nat.lt_or_ge i 240 with h | h
              · exact List.all_eq_true.mp zl_200 i (by simp only [List.mem_range'_1]; omega)
              · rcases Nat.lt_or_ge i 280 with h | h
                · exact List.all_eq_true.mp zl_240 i (by simp only [List.mem_range'_1]; omega)
                · rcases Nat.lt_or_ge i 320 with h | h
                  · exact List.all_eq_true.mp zl_280 i (by simp only [List.mem_range'_1]; omega)
                  · rcases Nat.lt_or_ge i 360 with h | h
                    · exact List.all_eq_true.mp zl_320 i (by simp only [List.mem_range'_1]; omega)
                    · rcases Nat.lt_or_ge i 400 with h | h
                      · exact List.all_eq_true.mp zl_360 i (by simp only [List.mem_range'_1]; omega)
                      · rcases Nat.lt_or_ge i 440 with h | h
                        · exact List.all_eq_true.mp zl_400 i (by simp only [List.mem_range'_1]; omega)
                        · rcases Nat.lt_or_ge i 480 with h | h
                          · exact List.all_eq_true.mp zl_440 i (by simp only [List.mem_range'_1]; omega)
                          · rcases Nat.lt_or_ge i 520 with h | h
                            · exact List.all_eq_true.mp zl_480 i (by simp only [List.mem_range'_1]; omega)
                            · rcases Nat.lt_or_ge i 556 with h | h
                              · exact List.all_eq_true.mp zl_520 i (by simp only [List.mem_range'_1]; omega)
                              · omega
  · have : cd_L_law[i]? = none := List.getElem?_eq_none (by show cd_L_law.length ≤ i; have h2 : cd_L_law.length = 556 := by decide +kernel
                                                            omega)
    unfold gx_ok; rw [this]
