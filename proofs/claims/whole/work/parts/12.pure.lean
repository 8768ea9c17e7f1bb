/-! the pure functions of both sides, decompiled, with their walks (by program) -/
theorem qs_J6_bitCount_0f7a4 : yJ6_bitCount_0f7a4.cls ≠ "java/lang/invoke/MethodHandle" ∧ yJ6_bitCount_0f7a4.cls ≠ "java/lang/invoke/VarHandle" ∧ (parseMethodDescriptor yJ6_bitCount_0f7a4.desc).map (fun d => d.parameters.length) = some 1 := by decide +kernel
theorem qv_J6_bitCount_0f7a4 : yJ6_bitCount_0f7a4.cls = RJ6 ∧ yJ6_bitCount_0f7a4.cls ≠ "java/lang/invoke/MethodHandle" ∧ yJ6_bitCount_0f7a4.cls ≠ "java/lang/invoke/VarHandle" ∧ (parseMethodDescriptor yJ6_bitCount_0f7a4.desc).map (fun d => d.parameters.length) = some 1 := by decide +kernel
theorem qs_J9_max_7cf53 : yJ9_max_7cf53.cls ≠ "java/lang/invoke/MethodHandle" ∧ yJ9_max_7cf53.cls ≠ "java/lang/invoke/VarHandle" ∧ (parseMethodDescriptor yJ9_max_7cf53.desc).map (fun d => d.parameters.length) = some 2 := by decide +kernel
theorem qv_J9_max_7cf53 : yJ9_max_7cf53.cls = RJ9 ∧ yJ9_max_7cf53.cls ≠ "java/lang/invoke/MethodHandle" ∧ yJ9_max_7cf53.cls ≠ "java/lang/invoke/VarHandle" ∧ (parseMethodDescriptor yJ9_max_7cf53.desc).map (fun d => d.parameters.length) = some 2 := by decide +kernel
theorem qs_J9_min_7cf53 : yJ9_min_7cf53.cls ≠ "java/lang/invoke/MethodHandle" ∧ yJ9_min_7cf53.cls ≠ "java/lang/invoke/VarHandle" ∧ (parseMethodDescriptor yJ9_min_7cf53.desc).map (fun d => d.parameters.length) = some 2 := by decide +kernel
theorem qv_J9_min_7cf53 : yJ9_min_7cf53.cls = RJ9 ∧ yJ9_min_7cf53.cls ≠ "java/lang/invoke/MethodHandle" ∧ yJ9_min_7cf53.cls ≠ "java/lang/invoke/VarHandle" ∧ (parseMethodDescriptor yJ9_min_7cf53.desc).map (fun d => d.parameters.length) = some 2 := by decide +kernel
theorem qs_X0_add : yX0_add.cls ≠ "java/lang/invoke/MethodHandle" ∧ yX0_add.cls ≠ "java/lang/invoke/VarHandle" ∧ (parseMethodDescriptor yX0_add.desc).map (fun d => d.parameters.length) = some 4 := by decide +kernel
theorem qv_X0_add : yX0_add.cls = RX0 ∧ yX0_add.cls ≠ "java/lang/invoke/MethodHandle" ∧ yX0_add.cls ≠ "java/lang/invoke/VarHandle" ∧ (parseMethodDescriptor yX0_add.desc).map (fun d => d.parameters.length) = some 4 := by decide +kernel
theorem qs_X0_become : yX0_become.cls ≠ "java/lang/invoke/MethodHandle" ∧ yX0_become.cls ≠ "java/lang/invoke/VarHandle" ∧ (parseMethodDescriptor yX0_become.desc).map (fun d => d.parameters.length) = some 1 := by decide +kernel
theorem qv_X0_become : yX0_become.cls = RX0 ∧ yX0_become.cls ≠ "java/lang/invoke/MethodHandle" ∧ yX0_become.cls ≠ "java/lang/invoke/VarHandle" ∧ (parseMethodDescriptor yX0_become.desc).map (fun d => d.parameters.length) = some 1 := by decide +kernel
theorem qs_X0_dropAt : yX0_dropAt.cls ≠ "java/lang/invoke/MethodHandle" ∧ yX0_dropAt.cls ≠ "java/lang/invoke/VarHandle" ∧ (parseMethodDescriptor yX0_dropAt.desc).map (fun d => d.parameters.length) = some 1 := by decide +kernel
theorem qv_X0_dropAt : yX0_dropAt.cls = RX0 ∧ yX0_dropAt.cls ≠ "java/lang/invoke/MethodHandle" ∧ yX0_dropAt.cls ≠ "java/lang/invoke/VarHandle" ∧ (parseMethodDescriptor yX0_dropAt.desc).map (fun d => d.parameters.length) = some 1 := by decide +kernel
theorem qs_X0_isFull : yX0_isFull.cls ≠ "java/lang/invoke/MethodHandle" ∧ yX0_isFull.cls ≠ "java/lang/invoke/VarHandle" ∧ (parseMethodDescriptor yX0_isFull.desc).map (fun d => d.parameters.length) = some 0 := by decide +kernel
theorem qv_X0_isFull : yX0_isFull.cls = RX0 ∧ yX0_isFull.cls ≠ "java/lang/invoke/MethodHandle" ∧ yX0_isFull.cls ≠ "java/lang/invoke/VarHandle" ∧ (parseMethodDescriptor yX0_isFull.desc).map (fun d => d.parameters.length) = some 0 := by decide +kernel
theorem qs_X1_become : yX1_become.cls ≠ "java/lang/invoke/MethodHandle" ∧ yX1_become.cls ≠ "java/lang/invoke/VarHandle" ∧ (parseMethodDescriptor yX1_become.desc).map (fun d => d.parameters.length) = some 1 := by decide +kernel
theorem qv_X1_become : yX1_become.cls = RX1 ∧ yX1_become.cls ≠ "java/lang/invoke/MethodHandle" ∧ yX1_become.cls ≠ "java/lang/invoke/VarHandle" ∧ (parseMethodDescriptor yX1_become.desc).map (fun d => d.parameters.length) = some 1 := by decide +kernel
theorem qs_X2_become : yX2_become.cls ≠ "java/lang/invoke/MethodHandle" ∧ yX2_become.cls ≠ "java/lang/invoke/VarHandle" ∧ (parseMethodDescriptor yX2_become.desc).map (fun d => d.parameters.length) = some 1 := by decide +kernel
theorem qv_X2_become : yX2_become.cls = RX2 ∧ yX2_become.cls ≠ "java/lang/invoke/MethodHandle" ∧ yX2_become.cls ≠ "java/lang/invoke/VarHandle" ∧ (parseMethodDescriptor yX2_become.desc).map (fun d => d.parameters.length) = some 1 := by decide +kernel
theorem qs_X2_numberOf : yX2_numberOf.cls ≠ "java/lang/invoke/MethodHandle" ∧ yX2_numberOf.cls ≠ "java/lang/invoke/VarHandle" ∧ (parseMethodDescriptor yX2_numberOf.desc).map (fun d => d.parameters.length) = some 1 := by decide +kernel
theorem qv_X2_numberOf : yX2_numberOf.cls = RX2 ∧ yX2_numberOf.cls ≠ "java/lang/invoke/MethodHandle" ∧ yX2_numberOf.cls ≠ "java/lang/invoke/VarHandle" ∧ (parseMethodDescriptor yX2_numberOf.desc).map (fun d => d.parameters.length) = some 1 := by decide +kernel
theorem qs_X2_place : yX2_place.cls ≠ "java/lang/invoke/MethodHandle" ∧ yX2_place.cls ≠ "java/lang/invoke/VarHandle" ∧ (parseMethodDescriptor yX2_place.desc).map (fun d => d.parameters.length) = some 2 := by decide +kernel
theorem qv_X2_place : yX2_place.cls = RX2 ∧ yX2_place.cls ≠ "java/lang/invoke/MethodHandle" ∧ yX2_place.cls ≠ "java/lang/invoke/VarHandle" ∧ (parseMethodDescriptor yX2_place.desc).map (fun d => d.parameters.length) = some 2 := by decide +kernel
theorem qs_X2_sourceOf : yX2_sourceOf.cls ≠ "java/lang/invoke/MethodHandle" ∧ yX2_sourceOf.cls ≠ "java/lang/invoke/VarHandle" ∧ (parseMethodDescriptor yX2_sourceOf.desc).map (fun d => d.parameters.length) = some 1 := by decide +kernel
theorem qv_X2_sourceOf : yX2_sourceOf.cls = RX2 ∧ yX2_sourceOf.cls ≠ "java/lang/invoke/MethodHandle" ∧ yX2_sourceOf.cls ≠ "java/lang/invoke/VarHandle" ∧ (parseMethodDescriptor yX2_sourceOf.desc).map (fun d => d.parameters.length) = some 1 := by decide +kernel
theorem qs_X2_write : yX2_write.cls ≠ "java/lang/invoke/MethodHandle" ∧ yX2_write.cls ≠ "java/lang/invoke/VarHandle" ∧ (parseMethodDescriptor yX2_write.desc).map (fun d => d.parameters.length) = some 4 := by decide +kernel
theorem qv_X2_write : yX2_write.cls = RX2 ∧ yX2_write.cls ≠ "java/lang/invoke/MethodHandle" ∧ yX2_write.cls ≠ "java/lang/invoke/VarHandle" ∧ (parseMethodDescriptor yX2_write.desc).map (fun d => d.parameters.length) = some 4 := by decide +kernel
theorem qs_X3_add : yX3_add.cls ≠ "java/lang/invoke/MethodHandle" ∧ yX3_add.cls ≠ "java/lang/invoke/VarHandle" ∧ (parseMethodDescriptor yX3_add.desc).map (fun d => d.parameters.length) = some 2 := by decide +kernel
theorem qv_X3_add : yX3_add.cls = RX3 ∧ yX3_add.cls ≠ "java/lang/invoke/MethodHandle" ∧ yX3_add.cls ≠ "java/lang/invoke/VarHandle" ∧ (parseMethodDescriptor yX3_add.desc).map (fun d => d.parameters.length) = some 2 := by decide +kernel
theorem qs_X3_become : yX3_become.cls ≠ "java/lang/invoke/MethodHandle" ∧ yX3_become.cls ≠ "java/lang/invoke/VarHandle" ∧ (parseMethodDescriptor yX3_become.desc).map (fun d => d.parameters.length) = some 1 := by decide +kernel
theorem qv_X3_become : yX3_become.cls = RX3 ∧ yX3_become.cls ≠ "java/lang/invoke/MethodHandle" ∧ yX3_become.cls ≠ "java/lang/invoke/VarHandle" ∧ (parseMethodDescriptor yX3_become.desc).map (fun d => d.parameters.length) = some 1 := by decide +kernel
theorem qs_X3_dropOldest : yX3_dropOldest.cls ≠ "java/lang/invoke/MethodHandle" ∧ yX3_dropOldest.cls ≠ "java/lang/invoke/VarHandle" ∧ (parseMethodDescriptor yX3_dropOldest.desc).map (fun d => d.parameters.length) = some 1 := by decide +kernel
theorem qv_X3_dropOldest : yX3_dropOldest.cls = RX3 ∧ yX3_dropOldest.cls ≠ "java/lang/invoke/MethodHandle" ∧ yX3_dropOldest.cls ≠ "java/lang/invoke/VarHandle" ∧ (parseMethodDescriptor yX3_dropOldest.desc).map (fun d => d.parameters.length) = some 1 := by decide +kernel
theorem qs_X3_holds : yX3_holds.cls ≠ "java/lang/invoke/MethodHandle" ∧ yX3_holds.cls ≠ "java/lang/invoke/VarHandle" ∧ (parseMethodDescriptor yX3_holds.desc).map (fun d => d.parameters.length) = some 1 := by decide +kernel
theorem qv_X3_holds : yX3_holds.cls = RX3 ∧ yX3_holds.cls ≠ "java/lang/invoke/MethodHandle" ∧ yX3_holds.cls ≠ "java/lang/invoke/VarHandle" ∧ (parseMethodDescriptor yX3_holds.desc).map (fun d => d.parameters.length) = some 1 := by decide +kernel
theorem qs_X4_allLights : yX4_allLights.cls ≠ "java/lang/invoke/MethodHandle" ∧ yX4_allLights.cls ≠ "java/lang/invoke/VarHandle" ∧ (parseMethodDescriptor yX4_allLights.desc).map (fun d => d.parameters.length) = some 0 := by decide +kernel
theorem qv_X4_allLights : yX4_allLights.cls = RX4 ∧ yX4_allLights.cls ≠ "java/lang/invoke/MethodHandle" ∧ yX4_allLights.cls ≠ "java/lang/invoke/VarHandle" ∧ (parseMethodDescriptor yX4_allLights.desc).map (fun d => d.parameters.length) = some 0 := by decide +kernel
theorem qs_X4_become : yX4_become.cls ≠ "java/lang/invoke/MethodHandle" ∧ yX4_become.cls ≠ "java/lang/invoke/VarHandle" ∧ (parseMethodDescriptor yX4_become.desc).map (fun d => d.parameters.length) = some 1 := by decide +kernel
theorem qv_X4_become : yX4_become.cls = RX4 ∧ yX4_become.cls ≠ "java/lang/invoke/MethodHandle" ∧ yX4_become.cls ≠ "java/lang/invoke/VarHandle" ∧ (parseMethodDescriptor yX4_become.desc).map (fun d => d.parameters.length) = some 1 := by decide +kernel
theorem qs_X4_canTell : yX4_canTell.cls ≠ "java/lang/invoke/MethodHandle" ∧ yX4_canTell.cls ≠ "java/lang/invoke/VarHandle" ∧ (parseMethodDescriptor yX4_canTell.desc).map (fun d => d.parameters.length) = some 1 := by decide +kernel
theorem qv_X4_canTell : yX4_canTell.cls = RX4 ∧ yX4_canTell.cls ≠ "java/lang/invoke/MethodHandle" ∧ yX4_canTell.cls ≠ "java/lang/invoke/VarHandle" ∧ (parseMethodDescriptor yX4_canTell.desc).map (fun d => d.parameters.length) = some 1 := by decide +kernel
theorem qs_X4_hear : yX4_hear.cls ≠ "java/lang/invoke/MethodHandle" ∧ yX4_hear.cls ≠ "java/lang/invoke/VarHandle" ∧ (parseMethodDescriptor yX4_hear.desc).map (fun d => d.parameters.length) = some 3 := by decide +kernel
theorem qv_X4_hear : yX4_hear.cls = RX4 ∧ yX4_hear.cls ≠ "java/lang/invoke/MethodHandle" ∧ yX4_hear.cls ≠ "java/lang/invoke/VarHandle" ∧ (parseMethodDescriptor yX4_hear.desc).map (fun d => d.parameters.length) = some 3 := by decide +kernel
theorem qs_X4_isMeant : yX4_isMeant.cls ≠ "java/lang/invoke/MethodHandle" ∧ yX4_isMeant.cls ≠ "java/lang/invoke/VarHandle" ∧ (parseMethodDescriptor yX4_isMeant.desc).map (fun d => d.parameters.length) = some 2 := by decide +kernel
theorem qv_X4_isMeant : yX4_isMeant.cls = RX4 ∧ yX4_isMeant.cls ≠ "java/lang/invoke/MethodHandle" ∧ yX4_isMeant.cls ≠ "java/lang/invoke/VarHandle" ∧ (parseMethodDescriptor yX4_isMeant.desc).map (fun d => d.parameters.length) = some 2 := by decide +kernel
theorem qs_X4_keepForSleepers : yX4_keepForSleepers.cls ≠ "java/lang/invoke/MethodHandle" ∧ yX4_keepForSleepers.cls ≠ "java/lang/invoke/VarHandle" ∧ (parseMethodDescriptor yX4_keepForSleepers.desc).map (fun d => d.parameters.length) = some 2 := by decide +kernel
theorem qv_X4_keepForSleepers : yX4_keepForSleepers.cls = RX4 ∧ yX4_keepForSleepers.cls ≠ "java/lang/invoke/MethodHandle" ∧ yX4_keepForSleepers.cls ≠ "java/lang/invoke/VarHandle" ∧ (parseMethodDescriptor yX4_keepForSleepers.desc).map (fun d => d.parameters.length) = some 2 := by decide +kernel
theorem qs_X4_keyToTell : yX4_keyToTell.cls ≠ "java/lang/invoke/MethodHandle" ∧ yX4_keyToTell.cls ≠ "java/lang/invoke/VarHandle" ∧ (parseMethodDescriptor yX4_keyToTell.desc).map (fun d => d.parameters.length) = some 1 := by decide +kernel
theorem qv_X4_keyToTell : yX4_keyToTell.cls = RX4 ∧ yX4_keyToTell.cls ≠ "java/lang/invoke/MethodHandle" ∧ yX4_keyToTell.cls ≠ "java/lang/invoke/VarHandle" ∧ (parseMethodDescriptor yX4_keyToTell.desc).map (fun d => d.parameters.length) = some 1 := by decide +kernel
theorem qs_X4_knows : yX4_knows.cls ≠ "java/lang/invoke/MethodHandle" ∧ yX4_knows.cls ≠ "java/lang/invoke/VarHandle" ∧ (parseMethodDescriptor yX4_knows.desc).map (fun d => d.parameters.length) = some 2 := by decide +kernel
theorem qv_X4_knows : yX4_knows.cls = RX4 ∧ yX4_knows.cls ≠ "java/lang/invoke/MethodHandle" ∧ yX4_knows.cls ≠ "java/lang/invoke/VarHandle" ∧ (parseMethodDescriptor yX4_knows.desc).map (fun d => d.parameters.length) = some 2 := by decide +kernel
theorem qs_X4_nextPhase : yX4_nextPhase.cls ≠ "java/lang/invoke/MethodHandle" ∧ yX4_nextPhase.cls ≠ "java/lang/invoke/VarHandle" ∧ (parseMethodDescriptor yX4_nextPhase.desc).map (fun d => d.parameters.length) = some 0 := by decide +kernel
theorem qv_X4_nextPhase : yX4_nextPhase.cls = RX4 ∧ yX4_nextPhase.cls ≠ "java/lang/invoke/MethodHandle" ∧ yX4_nextPhase.cls ≠ "java/lang/invoke/VarHandle" ∧ (parseMethodDescriptor yX4_nextPhase.desc).map (fun d => d.parameters.length) = some 0 := by decide +kernel
theorem qs_X4_passOn : yX4_passOn.cls ≠ "java/lang/invoke/MethodHandle" ∧ yX4_passOn.cls ≠ "java/lang/invoke/VarHandle" ∧ (parseMethodDescriptor yX4_passOn.desc).map (fun d => d.parameters.length) = some 3 := by decide +kernel
theorem qv_X4_passOn : yX4_passOn.cls = RX4 ∧ yX4_passOn.cls ≠ "java/lang/invoke/MethodHandle" ∧ yX4_passOn.cls ≠ "java/lang/invoke/VarHandle" ∧ (parseMethodDescriptor yX4_passOn.desc).map (fun d => d.parameters.length) = some 3 := by decide +kernel
theorem qs_X4_passTick : yX4_passTick.cls ≠ "java/lang/invoke/MethodHandle" ∧ yX4_passTick.cls ≠ "java/lang/invoke/VarHandle" ∧ (parseMethodDescriptor yX4_passTick.desc).map (fun d => d.parameters.length) = some 0 := by decide +kernel
theorem qv_X4_passTick : yX4_passTick.cls = RX4 ∧ yX4_passTick.cls ≠ "java/lang/invoke/MethodHandle" ∧ yX4_passTick.cls ≠ "java/lang/invoke/VarHandle" ∧ (parseMethodDescriptor yX4_passTick.desc).map (fun d => d.parameters.length) = some 0 := by decide +kernel
theorem qs_X4_sleepers : yX4_sleepers.cls ≠ "java/lang/invoke/MethodHandle" ∧ yX4_sleepers.cls ≠ "java/lang/invoke/VarHandle" ∧ (parseMethodDescriptor yX4_sleepers.desc).map (fun d => d.parameters.length) = some 0 := by decide +kernel
theorem qv_X4_sleepers : yX4_sleepers.cls = RX4 ∧ yX4_sleepers.cls ≠ "java/lang/invoke/MethodHandle" ∧ yX4_sleepers.cls ≠ "java/lang/invoke/VarHandle" ∧ (parseMethodDescriptor yX4_sleepers.desc).map (fun d => d.parameters.length) = some 0 := by decide +kernel
theorem qs_X4_speak : yX4_speak.cls ≠ "java/lang/invoke/MethodHandle" ∧ yX4_speak.cls ≠ "java/lang/invoke/VarHandle" ∧ (parseMethodDescriptor yX4_speak.desc).map (fun d => d.parameters.length) = some 3 := by decide +kernel
theorem qv_X4_speak : yX4_speak.cls = RX4 ∧ yX4_speak.cls ≠ "java/lang/invoke/MethodHandle" ∧ yX4_speak.cls ≠ "java/lang/invoke/VarHandle" ∧ (parseMethodDescriptor yX4_speak.desc).map (fun d => d.parameters.length) = some 3 := by decide +kernel
theorem qs_X4_speakFromAir : yX4_speakFromAir.cls ≠ "java/lang/invoke/MethodHandle" ∧ yX4_speakFromAir.cls ≠ "java/lang/invoke/VarHandle" ∧ (parseMethodDescriptor yX4_speakFromAir.desc).map (fun d => d.parameters.length) = some 1 := by decide +kernel
theorem qv_X4_speakFromAir : yX4_speakFromAir.cls = RX4 ∧ yX4_speakFromAir.cls ≠ "java/lang/invoke/MethodHandle" ∧ yX4_speakFromAir.cls ≠ "java/lang/invoke/VarHandle" ∧ (parseMethodDescriptor yX4_speakFromAir.desc).map (fun d => d.parameters.length) = some 1 := by decide +kernel
theorem qs_X4_take : yX4_take.cls ≠ "java/lang/invoke/MethodHandle" ∧ yX4_take.cls ≠ "java/lang/invoke/VarHandle" ∧ (parseMethodDescriptor yX4_take.desc).map (fun d => d.parameters.length) = some 2 := by decide +kernel
theorem qv_X4_take : yX4_take.cls = RX4 ∧ yX4_take.cls ≠ "java/lang/invoke/MethodHandle" ∧ yX4_take.cls ≠ "java/lang/invoke/VarHandle" ∧ (parseMethodDescriptor yX4_take.desc).map (fun d => d.parameters.length) = some 2 := by decide +kernel
theorem qs_X4_tellsByNext : yX4_tellsByNext.cls ≠ "java/lang/invoke/MethodHandle" ∧ yX4_tellsByNext.cls ≠ "java/lang/invoke/VarHandle" ∧ (parseMethodDescriptor yX4_tellsByNext.desc).map (fun d => d.parameters.length) = some 1 := by decide +kernel
theorem qv_X4_tellsByNext : yX4_tellsByNext.cls = RX4 ∧ yX4_tellsByNext.cls ≠ "java/lang/invoke/MethodHandle" ∧ yX4_tellsByNext.cls ≠ "java/lang/invoke/VarHandle" ∧ (parseMethodDescriptor yX4_tellsByNext.desc).map (fun d => d.parameters.length) = some 1 := by decide +kernel
theorem qs_X4_wake : yX4_wake.cls ≠ "java/lang/invoke/MethodHandle" ∧ yX4_wake.cls ≠ "java/lang/invoke/VarHandle" ∧ (parseMethodDescriptor yX4_wake.desc).map (fun d => d.parameters.length) = some 1 := by decide +kernel
theorem qv_X4_wake : yX4_wake.cls = RX4 ∧ yX4_wake.cls ≠ "java/lang/invoke/MethodHandle" ∧ yX4_wake.cls ≠ "java/lang/invoke/VarHandle" ∧ (parseMethodDescriptor yX4_wake.desc).map (fun d => d.parameters.length) = some 1 := by decide +kernel
theorem qs_X5_air : yX5_air.cls ≠ "java/lang/invoke/MethodHandle" ∧ yX5_air.cls ≠ "java/lang/invoke/VarHandle" ∧ (parseMethodDescriptor yX5_air.desc).map (fun d => d.parameters.length) = some 2 := by decide +kernel
theorem qv_X5_air : yX5_air.cls = RX5 ∧ yX5_air.cls ≠ "java/lang/invoke/MethodHandle" ∧ yX5_air.cls ≠ "java/lang/invoke/VarHandle" ∧ (parseMethodDescriptor yX5_air.desc).map (fun d => d.parameters.length) = some 2 := by decide +kernel
theorem qs_X5_asNumber : yX5_asNumber.cls ≠ "java/lang/invoke/MethodHandle" ∧ yX5_asNumber.cls ≠ "java/lang/invoke/VarHandle" ∧ (parseMethodDescriptor yX5_asNumber.desc).map (fun d => d.parameters.length) = some 1 := by decide +kernel
theorem qv_X5_asNumber : yX5_asNumber.cls = RX5 ∧ yX5_asNumber.cls ≠ "java/lang/invoke/MethodHandle" ∧ yX5_asNumber.cls ≠ "java/lang/invoke/VarHandle" ∧ (parseMethodDescriptor yX5_asNumber.desc).map (fun d => d.parameters.length) = some 1 := by decide +kernel
theorem qs_X5_changed : yX5_changed.cls ≠ "java/lang/invoke/MethodHandle" ∧ yX5_changed.cls ≠ "java/lang/invoke/VarHandle" ∧ (parseMethodDescriptor yX5_changed.desc).map (fun d => d.parameters.length) = some 3 := by decide +kernel
theorem qv_X5_changed : yX5_changed.cls = RX5 ∧ yX5_changed.cls ≠ "java/lang/invoke/MethodHandle" ∧ yX5_changed.cls ≠ "java/lang/invoke/VarHandle" ∧ (parseMethodDescriptor yX5_changed.desc).map (fun d => d.parameters.length) = some 3 := by decide +kernel
theorem qs_X5_count : yX5_count.cls ≠ "java/lang/invoke/MethodHandle" ∧ yX5_count.cls ≠ "java/lang/invoke/VarHandle" ∧ (parseMethodDescriptor yX5_count.desc).map (fun d => d.parameters.length) = some 1 := by decide +kernel
theorem qv_X5_count : yX5_count.cls = RX5 ∧ yX5_count.cls ≠ "java/lang/invoke/MethodHandle" ∧ yX5_count.cls ≠ "java/lang/invoke/VarHandle" ∧ (parseMethodDescriptor yX5_count.desc).map (fun d => d.parameters.length) = some 1 := by decide +kernel
theorem qs_X5_friend : yX5_friend.cls ≠ "java/lang/invoke/MethodHandle" ∧ yX5_friend.cls ≠ "java/lang/invoke/VarHandle" ∧ (parseMethodDescriptor yX5_friend.desc).map (fun d => d.parameters.length) = some 2 := by decide +kernel
theorem qv_X5_friend : yX5_friend.cls = RX5 ∧ yX5_friend.cls ≠ "java/lang/invoke/MethodHandle" ∧ yX5_friend.cls ≠ "java/lang/invoke/VarHandle" ∧ (parseMethodDescriptor yX5_friend.desc).map (fun d => d.parameters.length) = some 2 := by decide +kernel
theorem qs_X5_give : yX5_give.cls ≠ "java/lang/invoke/MethodHandle" ∧ yX5_give.cls ≠ "java/lang/invoke/VarHandle" ∧ (parseMethodDescriptor yX5_give.desc).map (fun d => d.parameters.length) = some 1 := by decide +kernel
theorem qv_X5_give : yX5_give.cls = RX5 ∧ yX5_give.cls ≠ "java/lang/invoke/MethodHandle" ∧ yX5_give.cls ≠ "java/lang/invoke/VarHandle" ∧ (parseMethodDescriptor yX5_give.desc).map (fun d => d.parameters.length) = some 1 := by decide +kernel
theorem qs_X5_has : yX5_has.cls ≠ "java/lang/invoke/MethodHandle" ∧ yX5_has.cls ≠ "java/lang/invoke/VarHandle" ∧ (parseMethodDescriptor yX5_has.desc).map (fun d => d.parameters.length) = some 2 := by decide +kernel
theorem qv_X5_has : yX5_has.cls = RX5 ∧ yX5_has.cls ≠ "java/lang/invoke/MethodHandle" ∧ yX5_has.cls ≠ "java/lang/invoke/VarHandle" ∧ (parseMethodDescriptor yX5_has.desc).map (fun d => d.parameters.length) = some 2 := by decide +kernel
theorem qs_X5_image : yX5_image.cls ≠ "java/lang/invoke/MethodHandle" ∧ yX5_image.cls ≠ "java/lang/invoke/VarHandle" ∧ (parseMethodDescriptor yX5_image.desc).map (fun d => d.parameters.length) = some 1 := by decide +kernel
theorem qv_X5_image : yX5_image.cls = RX5 ∧ yX5_image.cls ≠ "java/lang/invoke/MethodHandle" ∧ yX5_image.cls ≠ "java/lang/invoke/VarHandle" ∧ (parseMethodDescriptor yX5_image.desc).map (fun d => d.parameters.length) = some 1 := by decide +kernel
theorem qs_X5_isBetween : yX5_isBetween.cls ≠ "java/lang/invoke/MethodHandle" ∧ yX5_isBetween.cls ≠ "java/lang/invoke/VarHandle" ∧ (parseMethodDescriptor yX5_isBetween.desc).map (fun d => d.parameters.length) = some 3 := by decide +kernel
theorem qv_X5_isBetween : yX5_isBetween.cls = RX5 ∧ yX5_isBetween.cls ≠ "java/lang/invoke/MethodHandle" ∧ yX5_isBetween.cls ≠ "java/lang/invoke/VarHandle" ∧ (parseMethodDescriptor yX5_isBetween.desc).map (fun d => d.parameters.length) = some 3 := by decide +kernel
theorem qs_X5_isIn : yX5_isIn.cls ≠ "java/lang/invoke/MethodHandle" ∧ yX5_isIn.cls ≠ "java/lang/invoke/VarHandle" ∧ (parseMethodDescriptor yX5_isIn.desc).map (fun d => d.parameters.length) = some 2 := by decide +kernel
theorem qv_X5_isIn : yX5_isIn.cls = RX5 ∧ yX5_isIn.cls ≠ "java/lang/invoke/MethodHandle" ∧ yX5_isIn.cls ≠ "java/lang/invoke/VarHandle" ∧ (parseMethodDescriptor yX5_isIn.desc).map (fun d => d.parameters.length) = some 2 := by decide +kernel
theorem qs_X5_isLamp : yX5_isLamp.cls ≠ "java/lang/invoke/MethodHandle" ∧ yX5_isLamp.cls ≠ "java/lang/invoke/VarHandle" ∧ (parseMethodDescriptor yX5_isLamp.desc).map (fun d => d.parameters.length) = some 1 := by decide +kernel
theorem qv_X5_isLamp : yX5_isLamp.cls = RX5 ∧ yX5_isLamp.cls ≠ "java/lang/invoke/MethodHandle" ∧ yX5_isLamp.cls ≠ "java/lang/invoke/VarHandle" ∧ (parseMethodDescriptor yX5_isLamp.desc).map (fun d => d.parameters.length) = some 1 := by decide +kernel
theorem qs_X5_keptImages : yX5_keptImages.cls ≠ "java/lang/invoke/MethodHandle" ∧ yX5_keptImages.cls ≠ "java/lang/invoke/VarHandle" ∧ (parseMethodDescriptor yX5_keptImages.desc).map (fun d => d.parameters.length) = some 0 := by decide +kernel
theorem qv_X5_keptImages : yX5_keptImages.cls = RX5 ∧ yX5_keptImages.cls ≠ "java/lang/invoke/MethodHandle" ∧ yX5_keptImages.cls ≠ "java/lang/invoke/VarHandle" ∧ (parseMethodDescriptor yX5_keptImages.desc).map (fun d => d.parameters.length) = some 0 := by decide +kernel
theorem qs_X5_lamp : yX5_lamp.cls ≠ "java/lang/invoke/MethodHandle" ∧ yX5_lamp.cls ≠ "java/lang/invoke/VarHandle" ∧ (parseMethodDescriptor yX5_lamp.desc).map (fun d => d.parameters.length) = some 2 := by decide +kernel
theorem qv_X5_lamp : yX5_lamp.cls = RX5 ∧ yX5_lamp.cls ≠ "java/lang/invoke/MethodHandle" ∧ yX5_lamp.cls ≠ "java/lang/invoke/VarHandle" ∧ (parseMethodDescriptor yX5_lamp.desc).map (fun d => d.parameters.length) = some 2 := by decide +kernel
theorem qs_X5_link : yX5_link.cls ≠ "java/lang/invoke/MethodHandle" ∧ yX5_link.cls ≠ "java/lang/invoke/VarHandle" ∧ (parseMethodDescriptor yX5_link.desc).map (fun d => d.parameters.length) = some 3 := by decide +kernel
theorem qv_X5_link : yX5_link.cls = RX5 ∧ yX5_link.cls ≠ "java/lang/invoke/MethodHandle" ∧ yX5_link.cls ≠ "java/lang/invoke/VarHandle" ∧ (parseMethodDescriptor yX5_link.desc).map (fun d => d.parameters.length) = some 3 := by decide +kernel
theorem qs_X5_mind : yX5_mind.cls ≠ "java/lang/invoke/MethodHandle" ∧ yX5_mind.cls ≠ "java/lang/invoke/VarHandle" ∧ (parseMethodDescriptor yX5_mind.desc).map (fun d => d.parameters.length) = some 3 := by decide +kernel
theorem qv_X5_mind : yX5_mind.cls = RX5 ∧ yX5_mind.cls ≠ "java/lang/invoke/MethodHandle" ∧ yX5_mind.cls ≠ "java/lang/invoke/VarHandle" ∧ (parseMethodDescriptor yX5_mind.desc).map (fun d => d.parameters.length) = some 3 := by decide +kernel
theorem qs_X5_pass : yX5_pass.cls ≠ "java/lang/invoke/MethodHandle" ∧ yX5_pass.cls ≠ "java/lang/invoke/VarHandle" ∧ (parseMethodDescriptor yX5_pass.desc).map (fun d => d.parameters.length) = some 1 := by decide +kernel
theorem qv_X5_pass : yX5_pass.cls = RX5 ∧ yX5_pass.cls ≠ "java/lang/invoke/MethodHandle" ∧ yX5_pass.cls ≠ "java/lang/invoke/VarHandle" ∧ (parseMethodDescriptor yX5_pass.desc).map (fun d => d.parameters.length) = some 1 := by decide +kernel
theorem qs_X5_phase : yX5_phase.cls ≠ "java/lang/invoke/MethodHandle" ∧ yX5_phase.cls ≠ "java/lang/invoke/VarHandle" ∧ (parseMethodDescriptor yX5_phase.desc).map (fun d => d.parameters.length) = some 0 := by decide +kernel
theorem qv_X5_phase : yX5_phase.cls = RX5 ∧ yX5_phase.cls ≠ "java/lang/invoke/MethodHandle" ∧ yX5_phase.cls ≠ "java/lang/invoke/VarHandle" ∧ (parseMethodDescriptor yX5_phase.desc).map (fun d => d.parameters.length) = some 0 := by decide +kernel
theorem qs_X5_replay : yX5_replay.cls ≠ "java/lang/invoke/MethodHandle" ∧ yX5_replay.cls ≠ "java/lang/invoke/VarHandle" ∧ (parseMethodDescriptor yX5_replay.desc).map (fun d => d.parameters.length) = some 3 := by decide +kernel
theorem qv_X5_replay : yX5_replay.cls = RX5 ∧ yX5_replay.cls ≠ "java/lang/invoke/MethodHandle" ∧ yX5_replay.cls ≠ "java/lang/invoke/VarHandle" ∧ (parseMethodDescriptor yX5_replay.desc).map (fun d => d.parameters.length) = some 3 := by decide +kernel
theorem qs_X5_restore : yX5_restore.cls ≠ "java/lang/invoke/MethodHandle" ∧ yX5_restore.cls ≠ "java/lang/invoke/VarHandle" ∧ (parseMethodDescriptor yX5_restore.desc).map (fun d => d.parameters.length) = some 1 := by decide +kernel
theorem qv_X5_restore : yX5_restore.cls = RX5 ∧ yX5_restore.cls ≠ "java/lang/invoke/MethodHandle" ∧ yX5_restore.cls ≠ "java/lang/invoke/VarHandle" ∧ (parseMethodDescriptor yX5_restore.desc).map (fun d => d.parameters.length) = some 1 := by decide +kernel
theorem qs_X5_set : yX5_set.cls ≠ "java/lang/invoke/MethodHandle" ∧ yX5_set.cls ≠ "java/lang/invoke/VarHandle" ∧ (parseMethodDescriptor yX5_set.desc).map (fun d => d.parameters.length) = some 3 := by decide +kernel
theorem qv_X5_set : yX5_set.cls = RX5 ∧ yX5_set.cls ≠ "java/lang/invoke/MethodHandle" ∧ yX5_set.cls ≠ "java/lang/invoke/VarHandle" ∧ (parseMethodDescriptor yX5_set.desc).map (fun d => d.parameters.length) = some 3 := by decide +kernel
theorem qs_X5_settle : yX5_settle.cls ≠ "java/lang/invoke/MethodHandle" ∧ yX5_settle.cls ≠ "java/lang/invoke/VarHandle" ∧ (parseMethodDescriptor yX5_settle.desc).map (fun d => d.parameters.length) = some 0 := by decide +kernel
theorem qv_X5_settle : yX5_settle.cls = RX5 ∧ yX5_settle.cls ≠ "java/lang/invoke/MethodHandle" ∧ yX5_settle.cls ≠ "java/lang/invoke/VarHandle" ∧ (parseMethodDescriptor yX5_settle.desc).map (fun d => d.parameters.length) = some 0 := by decide +kernel
theorem qs_X5_sleep : yX5_sleep.cls ≠ "java/lang/invoke/MethodHandle" ∧ yX5_sleep.cls ≠ "java/lang/invoke/VarHandle" ∧ (parseMethodDescriptor yX5_sleep.desc).map (fun d => d.parameters.length) = some 2 := by decide +kernel
theorem qv_X5_sleep : yX5_sleep.cls = RX5 ∧ yX5_sleep.cls ≠ "java/lang/invoke/MethodHandle" ∧ yX5_sleep.cls ≠ "java/lang/invoke/VarHandle" ∧ (parseMethodDescriptor yX5_sleep.desc).map (fun d => d.parameters.length) = some 2 := by decide +kernel
theorem qs_X5_taken : yX5_taken.cls ≠ "java/lang/invoke/MethodHandle" ∧ yX5_taken.cls ≠ "java/lang/invoke/VarHandle" ∧ (parseMethodDescriptor yX5_taken.desc).map (fun d => d.parameters.length) = some 2 := by decide +kernel
theorem qv_X5_taken : yX5_taken.cls = RX5 ∧ yX5_taken.cls ≠ "java/lang/invoke/MethodHandle" ∧ yX5_taken.cls ≠ "java/lang/invoke/VarHandle" ∧ (parseMethodDescriptor yX5_taken.desc).map (fun d => d.parameters.length) = some 2 := by decide +kernel
theorem qs_X5_tell : yX5_tell.cls ≠ "java/lang/invoke/MethodHandle" ∧ yX5_tell.cls ≠ "java/lang/invoke/VarHandle" ∧ (parseMethodDescriptor yX5_tell.desc).map (fun d => d.parameters.length) = some 4 := by decide +kernel
theorem qv_X5_tell : yX5_tell.cls = RX5 ∧ yX5_tell.cls ≠ "java/lang/invoke/MethodHandle" ∧ yX5_tell.cls ≠ "java/lang/invoke/VarHandle" ∧ (parseMethodDescriptor yX5_tell.desc).map (fun d => d.parameters.length) = some 4 := by decide +kernel
theorem qs_X6_addToAir : yX6_addToAir.cls ≠ "java/lang/invoke/MethodHandle" ∧ yX6_addToAir.cls ≠ "java/lang/invoke/VarHandle" ∧ (parseMethodDescriptor yX6_addToAir.desc).map (fun d => d.parameters.length) = some 5 := by decide +kernel
theorem qv_X6_addToAir : yX6_addToAir.cls = RX6 ∧ yX6_addToAir.cls ≠ "java/lang/invoke/MethodHandle" ∧ yX6_addToAir.cls ≠ "java/lang/invoke/VarHandle" ∧ (parseMethodDescriptor yX6_addToAir.desc).map (fun d => d.parameters.length) = some 5 := by decide +kernel
theorem qs_X6_air : yX6_air.cls ≠ "java/lang/invoke/MethodHandle" ∧ yX6_air.cls ≠ "java/lang/invoke/VarHandle" ∧ (parseMethodDescriptor yX6_air.desc).map (fun d => d.parameters.length) = some 2 := by decide +kernel
theorem qv_X6_air : yX6_air.cls = RX6 ∧ yX6_air.cls ≠ "java/lang/invoke/MethodHandle" ∧ yX6_air.cls ≠ "java/lang/invoke/VarHandle" ∧ (parseMethodDescriptor yX6_air.desc).map (fun d => d.parameters.length) = some 2 := by decide +kernel
theorem qs_X6_asleep : yX6_asleep.cls ≠ "java/lang/invoke/MethodHandle" ∧ yX6_asleep.cls ≠ "java/lang/invoke/VarHandle" ∧ (parseMethodDescriptor yX6_asleep.desc).map (fun d => d.parameters.length) = some 0 := by decide +kernel
theorem qv_X6_asleep : yX6_asleep.cls = RX6 ∧ yX6_asleep.cls ≠ "java/lang/invoke/MethodHandle" ∧ yX6_asleep.cls ≠ "java/lang/invoke/VarHandle" ∧ (parseMethodDescriptor yX6_asleep.desc).map (fun d => d.parameters.length) = some 0 := by decide +kernel
theorem qs_X6_bits : yX6_bits.cls ≠ "java/lang/invoke/MethodHandle" ∧ yX6_bits.cls ≠ "java/lang/invoke/VarHandle" ∧ (parseMethodDescriptor yX6_bits.desc).map (fun d => d.parameters.length) = some 1 := by decide +kernel
theorem qv_X6_bits : yX6_bits.cls = RX6 ∧ yX6_bits.cls ≠ "java/lang/invoke/MethodHandle" ∧ yX6_bits.cls ≠ "java/lang/invoke/VarHandle" ∧ (parseMethodDescriptor yX6_bits.desc).map (fun d => d.parameters.length) = some 1 := by decide +kernel
theorem qs_X6_count : yX6_count.cls ≠ "java/lang/invoke/MethodHandle" ∧ yX6_count.cls ≠ "java/lang/invoke/VarHandle" ∧ (parseMethodDescriptor yX6_count.desc).map (fun d => d.parameters.length) = some 1 := by decide +kernel
theorem qv_X6_count : yX6_count.cls = RX6 ∧ yX6_count.cls ≠ "java/lang/invoke/MethodHandle" ∧ yX6_count.cls ≠ "java/lang/invoke/VarHandle" ∧ (parseMethodDescriptor yX6_count.desc).map (fun d => d.parameters.length) = some 1 := by decide +kernel
theorem qs_X6_dueNow : yX6_dueNow.cls ≠ "java/lang/invoke/MethodHandle" ∧ yX6_dueNow.cls ≠ "java/lang/invoke/VarHandle" ∧ (parseMethodDescriptor yX6_dueNow.desc).map (fun d => d.parameters.length) = some 0 := by decide +kernel
theorem qv_X6_dueNow : yX6_dueNow.cls = RX6 ∧ yX6_dueNow.cls ≠ "java/lang/invoke/MethodHandle" ∧ yX6_dueNow.cls ≠ "java/lang/invoke/VarHandle" ∧ (parseMethodDescriptor yX6_dueNow.desc).map (fun d => d.parameters.length) = some 0 := by decide +kernel
theorem qs_X6_forget : yX6_forget.cls ≠ "java/lang/invoke/MethodHandle" ∧ yX6_forget.cls ≠ "java/lang/invoke/VarHandle" ∧ (parseMethodDescriptor yX6_forget.desc).map (fun d => d.parameters.length) = some 1 := by decide +kernel
theorem qv_X6_forget : yX6_forget.cls = RX6 ∧ yX6_forget.cls ≠ "java/lang/invoke/MethodHandle" ∧ yX6_forget.cls ≠ "java/lang/invoke/VarHandle" ∧ (parseMethodDescriptor yX6_forget.desc).map (fun d => d.parameters.length) = some 1 := by decide +kernel
theorem qs_X6_friend : yX6_friend.cls ≠ "java/lang/invoke/MethodHandle" ∧ yX6_friend.cls ≠ "java/lang/invoke/VarHandle" ∧ (parseMethodDescriptor yX6_friend.desc).map (fun d => d.parameters.length) = some 2 := by decide +kernel
theorem qv_X6_friend : yX6_friend.cls = RX6 ∧ yX6_friend.cls ≠ "java/lang/invoke/MethodHandle" ∧ yX6_friend.cls ≠ "java/lang/invoke/VarHandle" ∧ (parseMethodDescriptor yX6_friend.desc).map (fun d => d.parameters.length) = some 2 := by decide +kernel
theorem qs_X6_give : yX6_give.cls ≠ "java/lang/invoke/MethodHandle" ∧ yX6_give.cls ≠ "java/lang/invoke/VarHandle" ∧ (parseMethodDescriptor yX6_give.desc).map (fun d => d.parameters.length) = some 1 := by decide +kernel
theorem qv_X6_give : yX6_give.cls = RX6 ∧ yX6_give.cls ≠ "java/lang/invoke/MethodHandle" ∧ yX6_give.cls ≠ "java/lang/invoke/VarHandle" ∧ (parseMethodDescriptor yX6_give.desc).map (fun d => d.parameters.length) = some 1 := by decide +kernel
theorem qs_X6_goOn : yX6_goOn.cls ≠ "java/lang/invoke/MethodHandle" ∧ yX6_goOn.cls ≠ "java/lang/invoke/VarHandle" ∧ (parseMethodDescriptor yX6_goOn.desc).map (fun d => d.parameters.length) = some 0 := by decide +kernel
theorem qv_X6_goOn : yX6_goOn.cls = RX6 ∧ yX6_goOn.cls ≠ "java/lang/invoke/MethodHandle" ∧ yX6_goOn.cls ≠ "java/lang/invoke/VarHandle" ∧ (parseMethodDescriptor yX6_goOn.desc).map (fun d => d.parameters.length) = some 0 := by decide +kernel
theorem qs_X6_has : yX6_has.cls ≠ "java/lang/invoke/MethodHandle" ∧ yX6_has.cls ≠ "java/lang/invoke/VarHandle" ∧ (parseMethodDescriptor yX6_has.desc).map (fun d => d.parameters.length) = some 2 := by decide +kernel
theorem qv_X6_has : yX6_has.cls = RX6 ∧ yX6_has.cls ≠ "java/lang/invoke/MethodHandle" ∧ yX6_has.cls ≠ "java/lang/invoke/VarHandle" ∧ (parseMethodDescriptor yX6_has.desc).map (fun d => d.parameters.length) = some 2 := by decide +kernel
theorem qs_X6_hasInMind : yX6_hasInMind.cls ≠ "java/lang/invoke/MethodHandle" ∧ yX6_hasInMind.cls ≠ "java/lang/invoke/VarHandle" ∧ (parseMethodDescriptor yX6_hasInMind.desc).map (fun d => d.parameters.length) = some 3 := by decide +kernel
theorem qv_X6_hasInMind : yX6_hasInMind.cls = RX6 ∧ yX6_hasInMind.cls ≠ "java/lang/invoke/MethodHandle" ∧ yX6_hasInMind.cls ≠ "java/lang/invoke/VarHandle" ∧ (parseMethodDescriptor yX6_hasInMind.desc).map (fun d => d.parameters.length) = some 3 := by decide +kernel
theorem qs_X6_hear : yX6_hear.cls ≠ "java/lang/invoke/MethodHandle" ∧ yX6_hear.cls ≠ "java/lang/invoke/VarHandle" ∧ (parseMethodDescriptor yX6_hear.desc).map (fun d => d.parameters.length) = some 4 := by decide +kernel
theorem qv_X6_hear : yX6_hear.cls = RX6 ∧ yX6_hear.cls ≠ "java/lang/invoke/MethodHandle" ∧ yX6_hear.cls ≠ "java/lang/invoke/VarHandle" ∧ (parseMethodDescriptor yX6_hear.desc).map (fun d => d.parameters.length) = some 4 := by decide +kernel
theorem qs_X6_image : yX6_image.cls ≠ "java/lang/invoke/MethodHandle" ∧ yX6_image.cls ≠ "java/lang/invoke/VarHandle" ∧ (parseMethodDescriptor yX6_image.desc).map (fun d => d.parameters.length) = some 1 := by decide +kernel
theorem qv_X6_image : yX6_image.cls = RX6 ∧ yX6_image.cls ≠ "java/lang/invoke/MethodHandle" ∧ yX6_image.cls ≠ "java/lang/invoke/VarHandle" ∧ (parseMethodDescriptor yX6_image.desc).map (fun d => d.parameters.length) = some 1 := by decide +kernel
theorem qs_X6_in : yX6_in.cls ≠ "java/lang/invoke/MethodHandle" ∧ yX6_in.cls ≠ "java/lang/invoke/VarHandle" ∧ (parseMethodDescriptor yX6_in.desc).map (fun d => d.parameters.length) = some 3 := by decide +kernel
theorem qv_X6_in : yX6_in.cls = RX6 ∧ yX6_in.cls ≠ "java/lang/invoke/MethodHandle" ∧ yX6_in.cls ≠ "java/lang/invoke/VarHandle" ∧ (parseMethodDescriptor yX6_in.desc).map (fun d => d.parameters.length) = some 3 := by decide +kernel
theorem qs_X6_isLamp : yX6_isLamp.cls ≠ "java/lang/invoke/MethodHandle" ∧ yX6_isLamp.cls ≠ "java/lang/invoke/VarHandle" ∧ (parseMethodDescriptor yX6_isLamp.desc).map (fun d => d.parameters.length) = some 1 := by decide +kernel
theorem qv_X6_isLamp : yX6_isLamp.cls = RX6 ∧ yX6_isLamp.cls ≠ "java/lang/invoke/MethodHandle" ∧ yX6_isLamp.cls ≠ "java/lang/invoke/VarHandle" ∧ (parseMethodDescriptor yX6_isLamp.desc).map (fun d => d.parameters.length) = some 1 := by decide +kernel
theorem qs_X6_isMeant : yX6_isMeant.cls ≠ "java/lang/invoke/MethodHandle" ∧ yX6_isMeant.cls ≠ "java/lang/invoke/VarHandle" ∧ (parseMethodDescriptor yX6_isMeant.desc).map (fun d => d.parameters.length) = some 3 := by decide +kernel
theorem qv_X6_isMeant : yX6_isMeant.cls = RX6 ∧ yX6_isMeant.cls ≠ "java/lang/invoke/MethodHandle" ∧ yX6_isMeant.cls ≠ "java/lang/invoke/VarHandle" ∧ (parseMethodDescriptor yX6_isMeant.desc).map (fun d => d.parameters.length) = some 3 := by decide +kernel
theorem qs_X6_isOf : yX6_isOf.cls ≠ "java/lang/invoke/MethodHandle" ∧ yX6_isOf.cls ≠ "java/lang/invoke/VarHandle" ∧ (parseMethodDescriptor yX6_isOf.desc).map (fun d => d.parameters.length) = some 2 := by decide +kernel
theorem qv_X6_isOf : yX6_isOf.cls = RX6 ∧ yX6_isOf.cls ≠ "java/lang/invoke/MethodHandle" ∧ yX6_isOf.cls ≠ "java/lang/invoke/VarHandle" ∧ (parseMethodDescriptor yX6_isOf.desc).map (fun d => d.parameters.length) = some 2 := by decide +kernel
theorem qs_X6_keepFor : yX6_keepFor.cls ≠ "java/lang/invoke/MethodHandle" ∧ yX6_keepFor.cls ≠ "java/lang/invoke/VarHandle" ∧ (parseMethodDescriptor yX6_keepFor.desc).map (fun d => d.parameters.length) = some 3 := by decide +kernel
theorem qv_X6_keepFor : yX6_keepFor.cls = RX6 ∧ yX6_keepFor.cls ≠ "java/lang/invoke/MethodHandle" ∧ yX6_keepFor.cls ≠ "java/lang/invoke/VarHandle" ∧ (parseMethodDescriptor yX6_keepFor.desc).map (fun d => d.parameters.length) = some 3 := by decide +kernel
theorem qs_X6_keyFor : yX6_keyFor.cls ≠ "java/lang/invoke/MethodHandle" ∧ yX6_keyFor.cls ≠ "java/lang/invoke/VarHandle" ∧ (parseMethodDescriptor yX6_keyFor.desc).map (fun d => d.parameters.length) = some 1 := by decide +kernel
theorem qv_X6_keyFor : yX6_keyFor.cls = RX6 ∧ yX6_keyFor.cls ≠ "java/lang/invoke/MethodHandle" ∧ yX6_keyFor.cls ≠ "java/lang/invoke/VarHandle" ∧ (parseMethodDescriptor yX6_keyFor.desc).map (fun d => d.parameters.length) = some 1 := by decide +kernel
theorem qs_X6_knows : yX6_knows.cls ≠ "java/lang/invoke/MethodHandle" ∧ yX6_knows.cls ≠ "java/lang/invoke/VarHandle" ∧ (parseMethodDescriptor yX6_knows.desc).map (fun d => d.parameters.length) = some 3 := by decide +kernel
theorem qv_X6_knows : yX6_knows.cls = RX6 ∧ yX6_knows.cls ≠ "java/lang/invoke/MethodHandle" ∧ yX6_knows.cls ≠ "java/lang/invoke/VarHandle" ∧ (parseMethodDescriptor yX6_knows.desc).map (fun d => d.parameters.length) = some 3 := by decide +kernel
theorem qs_X6_lamp : yX6_lamp.cls ≠ "java/lang/invoke/MethodHandle" ∧ yX6_lamp.cls ≠ "java/lang/invoke/VarHandle" ∧ (parseMethodDescriptor yX6_lamp.desc).map (fun d => d.parameters.length) = some 2 := by decide +kernel
theorem qv_X6_lamp : yX6_lamp.cls = RX6 ∧ yX6_lamp.cls ≠ "java/lang/invoke/MethodHandle" ∧ yX6_lamp.cls ≠ "java/lang/invoke/VarHandle" ∧ (parseMethodDescriptor yX6_lamp.desc).map (fun d => d.parameters.length) = some 2 := by decide +kernel
theorem qs_X6_letter : yX6_letter.cls ≠ "java/lang/invoke/MethodHandle" ∧ yX6_letter.cls ≠ "java/lang/invoke/VarHandle" ∧ (parseMethodDescriptor yX6_letter.desc).map (fun d => d.parameters.length) = some 3 := by decide +kernel
theorem qv_X6_letter : yX6_letter.cls = RX6 ∧ yX6_letter.cls ≠ "java/lang/invoke/MethodHandle" ∧ yX6_letter.cls ≠ "java/lang/invoke/VarHandle" ∧ (parseMethodDescriptor yX6_letter.desc).map (fun d => d.parameters.length) = some 3 := by decide +kernel
theorem qs_X6_lights : yX6_lights.cls ≠ "java/lang/invoke/MethodHandle" ∧ yX6_lights.cls ≠ "java/lang/invoke/VarHandle" ∧ (parseMethodDescriptor yX6_lights.desc).map (fun d => d.parameters.length) = some 0 := by decide +kernel
theorem qv_X6_lights : yX6_lights.cls = RX6 ∧ yX6_lights.cls ≠ "java/lang/invoke/MethodHandle" ∧ yX6_lights.cls ≠ "java/lang/invoke/VarHandle" ∧ (parseMethodDescriptor yX6_lights.desc).map (fun d => d.parameters.length) = some 0 := by decide +kernel
theorem qs_X6_link : yX6_link.cls ≠ "java/lang/invoke/MethodHandle" ∧ yX6_link.cls ≠ "java/lang/invoke/VarHandle" ∧ (parseMethodDescriptor yX6_link.desc).map (fun d => d.parameters.length) = some 3 := by decide +kernel
theorem qv_X6_link : yX6_link.cls = RX6 ∧ yX6_link.cls ≠ "java/lang/invoke/MethodHandle" ∧ yX6_link.cls ≠ "java/lang/invoke/VarHandle" ∧ (parseMethodDescriptor yX6_link.desc).map (fun d => d.parameters.length) = some 3 := by decide +kernel
theorem qs_X6_mind : yX6_mind.cls ≠ "java/lang/invoke/MethodHandle" ∧ yX6_mind.cls ≠ "java/lang/invoke/VarHandle" ∧ (parseMethodDescriptor yX6_mind.desc).map (fun d => d.parameters.length) = some 3 := by decide +kernel
theorem qv_X6_mind : yX6_mind.cls = RX6 ∧ yX6_mind.cls ≠ "java/lang/invoke/MethodHandle" ∧ yX6_mind.cls ≠ "java/lang/invoke/VarHandle" ∧ (parseMethodDescriptor yX6_mind.desc).map (fun d => d.parameters.length) = some 3 := by decide +kernel
theorem qs_X6_pass : yX6_pass.cls ≠ "java/lang/invoke/MethodHandle" ∧ yX6_pass.cls ≠ "java/lang/invoke/VarHandle" ∧ (parseMethodDescriptor yX6_pass.desc).map (fun d => d.parameters.length) = some 1 := by decide +kernel
theorem qv_X6_pass : yX6_pass.cls = RX6 ∧ yX6_pass.cls ≠ "java/lang/invoke/MethodHandle" ∧ yX6_pass.cls ≠ "java/lang/invoke/VarHandle" ∧ (parseMethodDescriptor yX6_pass.desc).map (fun d => d.parameters.length) = some 1 := by decide +kernel
theorem qs_X6_phase : yX6_phase.cls ≠ "java/lang/invoke/MethodHandle" ∧ yX6_phase.cls ≠ "java/lang/invoke/VarHandle" ∧ (parseMethodDescriptor yX6_phase.desc).map (fun d => d.parameters.length) = some 0 := by decide +kernel
theorem qv_X6_phase : yX6_phase.cls = RX6 ∧ yX6_phase.cls ≠ "java/lang/invoke/MethodHandle" ∧ yX6_phase.cls ≠ "java/lang/invoke/VarHandle" ∧ (parseMethodDescriptor yX6_phase.desc).map (fun d => d.parameters.length) = some 0 := by decide +kernel
theorem qs_X6_remember : yX6_remember.cls ≠ "java/lang/invoke/MethodHandle" ∧ yX6_remember.cls ≠ "java/lang/invoke/VarHandle" ∧ (parseMethodDescriptor yX6_remember.desc).map (fun d => d.parameters.length) = some 3 := by decide +kernel
theorem qv_X6_remember : yX6_remember.cls = RX6 ∧ yX6_remember.cls ≠ "java/lang/invoke/MethodHandle" ∧ yX6_remember.cls ≠ "java/lang/invoke/VarHandle" ∧ (parseMethodDescriptor yX6_remember.desc).map (fun d => d.parameters.length) = some 3 := by decide +kernel
theorem qs_X6_removeFromAir : yX6_removeFromAir.cls ≠ "java/lang/invoke/MethodHandle" ∧ yX6_removeFromAir.cls ≠ "java/lang/invoke/VarHandle" ∧ (parseMethodDescriptor yX6_removeFromAir.desc).map (fun d => d.parameters.length) = some 1 := by decide +kernel
theorem qv_X6_removeFromAir : yX6_removeFromAir.cls = RX6 ∧ yX6_removeFromAir.cls ≠ "java/lang/invoke/MethodHandle" ∧ yX6_removeFromAir.cls ≠ "java/lang/invoke/VarHandle" ∧ (parseMethodDescriptor yX6_removeFromAir.desc).map (fun d => d.parameters.length) = some 1 := by decide +kernel
theorem qs_X6_replay : yX6_replay.cls ≠ "java/lang/invoke/MethodHandle" ∧ yX6_replay.cls ≠ "java/lang/invoke/VarHandle" ∧ (parseMethodDescriptor yX6_replay.desc).map (fun d => d.parameters.length) = some 3 := by decide +kernel
theorem qv_X6_replay : yX6_replay.cls = RX6 ∧ yX6_replay.cls ≠ "java/lang/invoke/MethodHandle" ∧ yX6_replay.cls ≠ "java/lang/invoke/VarHandle" ∧ (parseMethodDescriptor yX6_replay.desc).map (fun d => d.parameters.length) = some 3 := by decide +kernel
theorem qs_X6_restore : yX6_restore.cls ≠ "java/lang/invoke/MethodHandle" ∧ yX6_restore.cls ≠ "java/lang/invoke/VarHandle" ∧ (parseMethodDescriptor yX6_restore.desc).map (fun d => d.parameters.length) = some 1 := by decide +kernel
theorem qv_X6_restore : yX6_restore.cls = RX6 ∧ yX6_restore.cls ≠ "java/lang/invoke/MethodHandle" ∧ yX6_restore.cls ≠ "java/lang/invoke/VarHandle" ∧ (parseMethodDescriptor yX6_restore.desc).map (fun d => d.parameters.length) = some 1 := by decide +kernel
theorem qs_X6_set : yX6_set.cls ≠ "java/lang/invoke/MethodHandle" ∧ yX6_set.cls ≠ "java/lang/invoke/VarHandle" ∧ (parseMethodDescriptor yX6_set.desc).map (fun d => d.parameters.length) = some 3 := by decide +kernel
theorem qv_X6_set : yX6_set.cls = RX6 ∧ yX6_set.cls ≠ "java/lang/invoke/MethodHandle" ∧ yX6_set.cls ≠ "java/lang/invoke/VarHandle" ∧ (parseMethodDescriptor yX6_set.desc).map (fun d => d.parameters.length) = some 3 := by decide +kernel
theorem qs_X6_settle : yX6_settle.cls ≠ "java/lang/invoke/MethodHandle" ∧ yX6_settle.cls ≠ "java/lang/invoke/VarHandle" ∧ (parseMethodDescriptor yX6_settle.desc).map (fun d => d.parameters.length) = some 0 := by decide +kernel
theorem qv_X6_settle : yX6_settle.cls = RX6 ∧ yX6_settle.cls ≠ "java/lang/invoke/MethodHandle" ∧ yX6_settle.cls ≠ "java/lang/invoke/VarHandle" ∧ (parseMethodDescriptor yX6_settle.desc).map (fun d => d.parameters.length) = some 0 := by decide +kernel
theorem qs_X6_sleep : yX6_sleep.cls ≠ "java/lang/invoke/MethodHandle" ∧ yX6_sleep.cls ≠ "java/lang/invoke/VarHandle" ∧ (parseMethodDescriptor yX6_sleep.desc).map (fun d => d.parameters.length) = some 2 := by decide +kernel
theorem qv_X6_sleep : yX6_sleep.cls = RX6 ∧ yX6_sleep.cls ≠ "java/lang/invoke/MethodHandle" ∧ yX6_sleep.cls ≠ "java/lang/invoke/VarHandle" ∧ (parseMethodDescriptor yX6_sleep.desc).map (fun d => d.parameters.length) = some 2 := by decide +kernel
theorem qs_X6_sleeps : yX6_sleeps.cls ≠ "java/lang/invoke/MethodHandle" ∧ yX6_sleeps.cls ≠ "java/lang/invoke/VarHandle" ∧ (parseMethodDescriptor yX6_sleeps.desc).map (fun d => d.parameters.length) = some 1 := by decide +kernel
theorem qv_X6_sleeps : yX6_sleeps.cls = RX6 ∧ yX6_sleeps.cls ≠ "java/lang/invoke/MethodHandle" ∧ yX6_sleeps.cls ≠ "java/lang/invoke/VarHandle" ∧ (parseMethodDescriptor yX6_sleeps.desc).map (fun d => d.parameters.length) = some 1 := by decide +kernel
theorem qs_X6_speaks : yX6_speaks.cls ≠ "java/lang/invoke/MethodHandle" ∧ yX6_speaks.cls ≠ "java/lang/invoke/VarHandle" ∧ (parseMethodDescriptor yX6_speaks.desc).map (fun d => d.parameters.length) = some 1 := by decide +kernel
theorem qv_X6_speaks : yX6_speaks.cls = RX6 ∧ yX6_speaks.cls ≠ "java/lang/invoke/MethodHandle" ∧ yX6_speaks.cls ≠ "java/lang/invoke/VarHandle" ∧ (parseMethodDescriptor yX6_speaks.desc).map (fun d => d.parameters.length) = some 1 := by decide +kernel
theorem qs_X6_taken : yX6_taken.cls ≠ "java/lang/invoke/MethodHandle" ∧ yX6_taken.cls ≠ "java/lang/invoke/VarHandle" ∧ (parseMethodDescriptor yX6_taken.desc).map (fun d => d.parameters.length) = some 2 := by decide +kernel
theorem qv_X6_taken : yX6_taken.cls = RX6 ∧ yX6_taken.cls ≠ "java/lang/invoke/MethodHandle" ∧ yX6_taken.cls ≠ "java/lang/invoke/VarHandle" ∧ (parseMethodDescriptor yX6_taken.desc).map (fun d => d.parameters.length) = some 2 := by decide +kernel
theorem qs_X6_takes : yX6_takes.cls ≠ "java/lang/invoke/MethodHandle" ∧ yX6_takes.cls ≠ "java/lang/invoke/VarHandle" ∧ (parseMethodDescriptor yX6_takes.desc).map (fun d => d.parameters.length) = some 3 := by decide +kernel
theorem qv_X6_takes : yX6_takes.cls = RX6 ∧ yX6_takes.cls ≠ "java/lang/invoke/MethodHandle" ∧ yX6_takes.cls ≠ "java/lang/invoke/VarHandle" ∧ (parseMethodDescriptor yX6_takes.desc).map (fun d => d.parameters.length) = some 3 := by decide +kernel
theorem qs_X6_tell : yX6_tell.cls ≠ "java/lang/invoke/MethodHandle" ∧ yX6_tell.cls ≠ "java/lang/invoke/VarHandle" ∧ (parseMethodDescriptor yX6_tell.desc).map (fun d => d.parameters.length) = some 4 := by decide +kernel
theorem qv_X6_tell : yX6_tell.cls = RX6 ∧ yX6_tell.cls ≠ "java/lang/invoke/MethodHandle" ∧ yX6_tell.cls ≠ "java/lang/invoke/VarHandle" ∧ (parseMethodDescriptor yX6_tell.desc).map (fun d => d.parameters.length) = some 4 := by decide +kernel
def m_X5_isBetween (a0 a1 a2 : Int32) : Option Int32 := (if a0 < a1 then some ((0 : Int32)) else (if a2 < a0 then some ((0 : Int32)) else some ((1 : Int32))))
set_option maxHeartbeats 4000000 in
set_option maxRecDepth 100000 in
theorem c_X5_isBetween (l : Launch) {a0 a1 a2 : Int32} {u : Int32} (h : m_X5_isBetween a0 a1 a2 = some u) : pM l yX5_isBetween wsX5_isBetween 0 0 [.int a0, .int a1, .int a2] u := by
  refine pM.of (cc := cX5_isBetween) (maxL := 3) (ret := (some .boolean)) [(0, .int a0), (1, .int a1), (2, .int a2)] (by decide) rfl (Nat.le_of_ble_eq_true rfl) rfl (fun p e s m below meth c ls hx hb hr hml hown hts hlk hl => ?_)
  replace hown : s.vm.findClass RX5 = some m.cls := hown
  unfold m_X5_isBetween at h
  refine lv_iload_n hx hb dX5_isBetween_0 rfl (lv_at hl 0 rfl) ?_
  refine lv_iload_n hx hb dX5_isBetween_1 rfl (lv_at hl 1 rfl) ?_
  refine lv_icmp_lt (tgt := 14) hx hb dX5_isBetween_2 (by decide) (fun c1 => ?_) (fun c1 => ?_)
  · have h := ift h c1
    refine lv_iconst (v := (0 : Int32)) hx hb dX5_isBetween_14 (by decide) ?_
    exact pw_zret hx hb hr hlk rfl h dX5_isBetween_15
  · have h := iff0 h c1
    refine lv_iload_n hx hb dX5_isBetween_5 rfl (lv_at hl 0 rfl) ?_
    refine lv_iload_n hx hb dX5_isBetween_6 rfl (lv_at hl 2 rfl) ?_
    refine lv_icmp_gt (tgt := 14) hx hb dX5_isBetween_7 (by decide) (fun c2 => ?_) (fun c2 => ?_)
    · have h := ift h c2
      refine lv_iconst (v := (0 : Int32)) hx hb dX5_isBetween_14 (by decide) ?_
      exact pw_zret hx hb hr hlk rfl h dX5_isBetween_15
    · have h := iff0 h c2
      refine lv_iconst (v := (1 : Int32)) hx hb dX5_isBetween_10 (by decide) ?_
      refine lv_goto (tgt := 15) hx hb dX5_isBetween_11 (by decide) ?_
      exact pw_zret hx hb hr hlk rfl h dX5_isBetween_15
def m_X5_isLamp (a0 : Int32) : Option Int32 := (m_X5_isBetween a0 ((0 : Int32)) ((9 : Int32))).bind (fun r2 => if ¬ (r2 = 0 ∨ r2 = 1) then none else some r2)
set_option maxHeartbeats 4000000 in
set_option maxRecDepth 100000 in
theorem c_X5_isLamp (l : Launch) {a0 : Int32} {u : Int32} (h : m_X5_isLamp a0 = some u) : pM l yX5_isLamp wsX5_isLamp 1 22 [.int a0] u := by
  refine pM.of (cc := cX5_isLamp) (maxL := 1) (ret := (some .boolean)) [(0, .int a0)] (by decide) rfl (Nat.le_of_ble_eq_true rfl) rfl (fun p e s m below meth c ls hx hb hr hml hown hts hlk hl => ?_)
  replace hown : s.vm.findClass RX5 = some m.cls := hown
  unfold m_X5_isLamp at h
  refine lv_iload_n hx hb dX5_isLamp_0 rfl (lv_at hl 0 rfl) ?_
  refine lv_iconst (v := (0 : Int32)) hx hb dX5_isLamp_1 (by decide) ?_
  refine lv_bipush (v := (9 : Int32)) hx hb dX5_isLamp_2 (by decide) ?_
  obtain ⟨r2, q1, h⟩ := bnd h
  try dsimp only at h
  refine pw_call (va_runS (As := [.int a0, .int ((0 : Int32)), .int ((9 : Int32))]) (rest := []) ⟨hx, hb, hml, hown, hts⟩ (c_X5_isBetween l q1) (va_cwS 3 hts gX5_isLamp_X5_isBetween rfl rfl rfl qs_X5_isBetween ⟨Nat.le_of_ble_eq_true rfl, Nat.le_of_ble_eq_true rfl⟩) preEq rfl rfl hl.1 rfl (lv_room (Nat.le_of_ble_eq_true rfl)) dX5_isLamp_4 ⟨Nat.le_refl _, Nat.le_refl _⟩) ?_
  obtain ⟨k3, h⟩ := ck h
  exact pw_zret hx hb hr hlk (zok k3).1 h dX5_isLamp_7
def m_X5_isIn (a0 a1 : Int32) : Option Int32 := (if ((a0 >>> (a1 &&& 31)) &&& ((1 : Int32))) = ((1 : Int32)) then some ((1 : Int32)) else some ((0 : Int32)))
set_option maxHeartbeats 4000000 in
set_option maxRecDepth 100000 in
theorem c_X5_isIn (l : Launch) {a0 a1 : Int32} {u : Int32} (h : m_X5_isIn a0 a1 = some u) : pM l yX5_isIn wsX5_isIn 0 0 [.int a0, .int a1] u := by
  refine pM.of (cc := cX5_isIn) (maxL := 2) (ret := (some .boolean)) [(0, .int a0), (1, .int a1)] (by decide) rfl (Nat.le_of_ble_eq_true rfl) rfl (fun p e s m below meth c ls hx hb hr hml hown hts hlk hl => ?_)
  replace hown : s.vm.findClass RX5 = some m.cls := hown
  unfold m_X5_isIn at h
  refine lv_iload_n hx hb dX5_isIn_0 rfl (lv_at hl 0 rfl) ?_
  refine lv_iload_n hx hb dX5_isIn_1 rfl (lv_at hl 1 rfl) ?_
  refine lv_ishr hx hb dX5_isIn_2 ?_
  refine lv_iconst (v := (1 : Int32)) hx hb dX5_isIn_3 (by decide) ?_
  refine lv_iand hx hb dX5_isIn_4 ?_
  refine lv_iconst (v := (1 : Int32)) hx hb dX5_isIn_5 (by decide) ?_
  refine lv_icmp_ne (tgt := 13) hx hb dX5_isIn_6 (by decide) (fun c1 => ?_) (fun c1 => ?_)
  · have h := iff0 h c1
    refine lv_iconst (v := (0 : Int32)) hx hb dX5_isIn_13 (by decide) ?_
    exact pw_zret hx hb hr hlk rfl h dX5_isIn_14
  · have h := ift h c1
    refine lv_iconst (v := (1 : Int32)) hx hb dX5_isIn_9 (by decide) ?_
    refine lv_goto (tgt := 14) hx hb dX5_isIn_10 (by decide) ?_
    exact pw_zret hx hb hr hlk rfl h dX5_isIn_14
def m_X5_changed (a0 a1 a2 : Int32) : Option Int32 := (if a2 = 0 then some (a0 &&& ((((1 : Int32)) <<< (a1 &&& 31)) ^^^ ((-1 : Int32)))) else some (a0 ||| (((1 : Int32)) <<< (a1 &&& 31))))
set_option maxHeartbeats 4000000 in
set_option maxRecDepth 100000 in
theorem c_X5_changed (l : Launch) {a0 a1 a2 : Int32} {u : Int32} (h : m_X5_changed a0 a1 a2 = some u) : pM l yX5_changed wsX5_changed 0 0 [.int a0, .int a1, .int a2] u := by
  refine pM.of (cc := cX5_changed) (maxL := 3) (ret := (some .int)) [(0, .int a0), (1, .int a1), (2, .int a2)] (by decide) rfl (Nat.le_of_ble_eq_true rfl) rfl (fun p e s m below meth c ls hx hb hr hml hown hts hlk hl => ?_)
  replace hown : s.vm.findClass RX5 = some m.cls := hown
  unfold m_X5_changed at h
  refine lv_iload_n hx hb dX5_changed_0 rfl (lv_at hl 2 rfl) ?_
  refine lv_if_eq (tgt := 12) hx hb dX5_changed_1 (by decide) (fun c1 => ?_) (fun c1 => ?_)
  · have h := ift h c1
    refine lv_iload_n hx hb dX5_changed_12 rfl (lv_at hl 0 rfl) ?_
    refine lv_iconst (v := (1 : Int32)) hx hb dX5_changed_13 (by decide) ?_
    refine lv_iload_n hx hb dX5_changed_14 rfl (lv_at hl 1 rfl) ?_
    refine lv_ishl hx hb dX5_changed_15 ?_
    refine lv_iconst (v := (-1 : Int32)) hx hb dX5_changed_16 (by decide) ?_
    refine lv_ixor hx hb dX5_changed_17 ?_
    refine lv_iand hx hb dX5_changed_18 ?_
    exact pw_iret hx hb hr hlk h dX5_changed_19
  · have h := iff0 h c1
    refine lv_iload_n hx hb dX5_changed_4 rfl (lv_at hl 0 rfl) ?_
    refine lv_iconst (v := (1 : Int32)) hx hb dX5_changed_5 (by decide) ?_
    refine lv_iload_n hx hb dX5_changed_6 rfl (lv_at hl 1 rfl) ?_
    refine lv_ishl hx hb dX5_changed_7 ?_
    refine lv_ior hx hb dX5_changed_8 ?_
    refine lv_goto (tgt := 19) hx hb dX5_changed_9 (by decide) ?_
    exact pw_iret hx hb hr hlk h dX5_changed_19
def m_X5_asNumber (a0 : Int32) : Option Int32 := (if a0 = 0 then some ((0 : Int32)) else some ((1 : Int32)))
set_option maxHeartbeats 4000000 in
set_option maxRecDepth 100000 in
theorem c_X5_asNumber (l : Launch) {a0 : Int32} {u : Int32} (h : m_X5_asNumber a0 = some u) : pM l yX5_asNumber wsX5_asNumber 0 0 [.int a0] u := by
  refine pM.of (cc := cX5_asNumber) (maxL := 1) (ret := (some .int)) [(0, .int a0)] (by decide) rfl (Nat.le_of_ble_eq_true rfl) rfl (fun p e s m below meth c ls hx hb hr hml hown hts hlk hl => ?_)
  replace hown : s.vm.findClass RX5 = some m.cls := hown
  unfold m_X5_asNumber at h
  refine lv_iload_n hx hb dX5_asNumber_0 rfl (lv_at hl 0 rfl) ?_
  refine lv_if_eq (tgt := 8) hx hb dX5_asNumber_1 (by decide) (fun c1 => ?_) (fun c1 => ?_)
  · have h := ift h c1
    refine lv_iconst (v := (0 : Int32)) hx hb dX5_asNumber_8 (by decide) ?_
    exact pw_iret hx hb hr hlk h dX5_asNumber_9
  · have h := iff0 h c1
    refine lv_iconst (v := (1 : Int32)) hx hb dX5_asNumber_4 (by decide) ?_
    refine lv_goto (tgt := 9) hx hb dX5_asNumber_5 (by decide) ?_
    exact pw_iret hx hb hr hlk h dX5_asNumber_9
def m_X2_place (a0 a1 : Int32) : Option Int32 := some (((a0 * ((200 : Int32))) + a1) - ((1 : Int32)))
set_option maxHeartbeats 4000000 in
set_option maxRecDepth 100000 in
theorem c_X2_place (l : Launch) {a0 a1 : Int32} {u : Int32} (h : m_X2_place a0 a1 = some u) : pM l yX2_place wsX2_place 0 0 [.int a0, .int a1] u := by
  refine pM.of (cc := cX2_place) (maxL := 2) (ret := (some .int)) [(0, .int a0), (1, .int a1)] (by decide) rfl (Nat.le_of_ble_eq_true rfl) rfl (fun p e s m below meth c ls hx hb hr hml hown hts hlk hl => ?_)
  replace hown : s.vm.findClass RX2 = some m.cls := hown
  unfold m_X2_place at h
  refine lv_iload_n hx hb dX2_place_0 rfl (lv_at hl 0 rfl) ?_
  refine lv_sipush (v := (200 : Int32)) hx hb dX2_place_1 (by decide) ?_
  refine lv_imul hx hb dX2_place_4 ?_
  refine lv_iload_n hx hb dX2_place_5 rfl (lv_at hl 1 rfl) ?_
  refine lv_iadd hx hb dX2_place_6 ?_
  refine lv_iconst (v := (1 : Int32)) hx hb dX2_place_7 (by decide) ?_
  refine lv_isub hx hb dX2_place_8 ?_
  exact pw_iret hx hb hr hlk h dX2_place_9
def m_X2_sourceOf (a0 : Int32) : Option Int32 := some (a0 / (200 : Int32))
set_option maxHeartbeats 4000000 in
set_option maxRecDepth 100000 in
theorem c_X2_sourceOf (l : Launch) {a0 : Int32} {u : Int32} (h : m_X2_sourceOf a0 = some u) : pM l yX2_sourceOf wsX2_sourceOf 0 0 [.int a0] u := by
  refine pM.of (cc := cX2_sourceOf) (maxL := 1) (ret := (some .int)) [(0, .int a0)] (by decide) rfl (Nat.le_of_ble_eq_true rfl) rfl (fun p e s m below meth c ls hx hb hr hml hown hts hlk hl => ?_)
  replace hown : s.vm.findClass RX2 = some m.cls := hown
  unfold m_X2_sourceOf at h
  refine lv_iload_n hx hb dX2_sourceOf_0 rfl (lv_at hl 0 rfl) ?_
  refine lv_sipush (v := (200 : Int32)) hx hb dX2_sourceOf_1 (by decide) ?_
  refine lv_idiv hx hb dX2_sourceOf_4 (by decide) ?_
  exact pw_iret hx hb hr hlk h dX2_sourceOf_5
def m_X2_numberOf (a0 : Int32) : Option Int32 := some ((a0 - a0 / (200 : Int32) * (200 : Int32)) + ((1 : Int32)))
set_option maxHeartbeats 4000000 in
set_option maxRecDepth 100000 in
theorem c_X2_numberOf (l : Launch) {a0 : Int32} {u : Int32} (h : m_X2_numberOf a0 = some u) : pM l yX2_numberOf wsX2_numberOf 0 0 [.int a0] u := by
  refine pM.of (cc := cX2_numberOf) (maxL := 1) (ret := (some .int)) [(0, .int a0)] (by decide) rfl (Nat.le_of_ble_eq_true rfl) rfl (fun p e s m below meth c ls hx hb hr hml hown hts hlk hl => ?_)
  replace hown : s.vm.findClass RX2 = some m.cls := hown
  unfold m_X2_numberOf at h
  refine lv_iload_n hx hb dX2_numberOf_0 rfl (lv_at hl 0 rfl) ?_
  refine lv_sipush (v := (200 : Int32)) hx hb dX2_numberOf_1 (by decide) ?_
  refine lv_irem hx hb dX2_numberOf_4 (by decide) ?_
  refine lv_iconst (v := (1 : Int32)) hx hb dX2_numberOf_5 (by decide) ?_
  refine lv_iadd hx hb dX2_numberOf_6 ?_
  exact pw_iret hx hb hr hlk h dX2_numberOf_7
def m_J6_bitCount_0f7a4 (a0 : Int32) : Option Int32 := some ((((((((a0 - (((a0.toUInt32 >>> (((1 : Int32)).toUInt32 &&& Int32.toUInt32 31)).toInt32) &&& ((1431655765 : Int32)))) &&& ((858993459 : Int32))) + ((((a0 - (((a0.toUInt32 >>> (((1 : Int32)).toUInt32 &&& Int32.toUInt32 31)).toInt32) &&& ((1431655765 : Int32)))).toUInt32 >>> (((2 : Int32)).toUInt32 &&& Int32.toUInt32 31)).toInt32) &&& ((858993459 : Int32)))) + (((((a0 - (((a0.toUInt32 >>> (((1 : Int32)).toUInt32 &&& Int32.toUInt32 31)).toInt32) &&& ((1431655765 : Int32)))) &&& ((858993459 : Int32))) + ((((a0 - (((a0.toUInt32 >>> (((1 : Int32)).toUInt32 &&& Int32.toUInt32 31)).toInt32) &&& ((1431655765 : Int32)))).toUInt32 >>> (((2 : Int32)).toUInt32 &&& Int32.toUInt32 31)).toInt32) &&& ((858993459 : Int32)))).toUInt32 >>> (((4 : Int32)).toUInt32 &&& Int32.toUInt32 31)).toInt32)) &&& ((252645135 : Int32))) + (((((((a0 - (((a0.toUInt32 >>> (((1 : Int32)).toUInt32 &&& Int32.toUInt32 31)).toInt32) &&& ((1431655765 : Int32)))) &&& ((858993459 : Int32))) + ((((a0 - (((a0.toUInt32 >>> (((1 : Int32)).toUInt32 &&& Int32.toUInt32 31)).toInt32) &&& ((1431655765 : Int32)))).toUInt32 >>> (((2 : Int32)).toUInt32 &&& Int32.toUInt32 31)).toInt32) &&& ((858993459 : Int32)))) + (((((a0 - (((a0.toUInt32 >>> (((1 : Int32)).toUInt32 &&& Int32.toUInt32 31)).toInt32) &&& ((1431655765 : Int32)))) &&& ((858993459 : Int32))) + ((((a0 - (((a0.toUInt32 >>> (((1 : Int32)).toUInt32 &&& Int32.toUInt32 31)).toInt32) &&& ((1431655765 : Int32)))).toUInt32 >>> (((2 : Int32)).toUInt32 &&& Int32.toUInt32 31)).toInt32) &&& ((858993459 : Int32)))).toUInt32 >>> (((4 : Int32)).toUInt32 &&& Int32.toUInt32 31)).toInt32)) &&& ((252645135 : Int32))).toUInt32 >>> (((8 : Int32)).toUInt32 &&& Int32.toUInt32 31)).toInt32)) + ((((((((a0 - (((a0.toUInt32 >>> (((1 : Int32)).toUInt32 &&& Int32.toUInt32 31)).toInt32) &&& ((1431655765 : Int32)))) &&& ((858993459 : Int32))) + ((((a0 - (((a0.toUInt32 >>> (((1 : Int32)).toUInt32 &&& Int32.toUInt32 31)).toInt32) &&& ((1431655765 : Int32)))).toUInt32 >>> (((2 : Int32)).toUInt32 &&& Int32.toUInt32 31)).toInt32) &&& ((858993459 : Int32)))) + (((((a0 - (((a0.toUInt32 >>> (((1 : Int32)).toUInt32 &&& Int32.toUInt32 31)).toInt32) &&& ((1431655765 : Int32)))) &&& ((858993459 : Int32))) + ((((a0 - (((a0.toUInt32 >>> (((1 : Int32)).toUInt32 &&& Int32.toUInt32 31)).toInt32) &&& ((1431655765 : Int32)))).toUInt32 >>> (((2 : Int32)).toUInt32 &&& Int32.toUInt32 31)).toInt32) &&& ((858993459 : Int32)))).toUInt32 >>> (((4 : Int32)).toUInt32 &&& Int32.toUInt32 31)).toInt32)) &&& ((252645135 : Int32))) + (((((((a0 - (((a0.toUInt32 >>> (((1 : Int32)).toUInt32 &&& Int32.toUInt32 31)).toInt32) &&& ((1431655765 : Int32)))) &&& ((858993459 : Int32))) + ((((a0 - (((a0.toUInt32 >>> (((1 : Int32)).toUInt32 &&& Int32.toUInt32 31)).toInt32) &&& ((1431655765 : Int32)))).toUInt32 >>> (((2 : Int32)).toUInt32 &&& Int32.toUInt32 31)).toInt32) &&& ((858993459 : Int32)))) + (((((a0 - (((a0.toUInt32 >>> (((1 : Int32)).toUInt32 &&& Int32.toUInt32 31)).toInt32) &&& ((1431655765 : Int32)))) &&& ((858993459 : Int32))) + ((((a0 - (((a0.toUInt32 >>> (((1 : Int32)).toUInt32 &&& Int32.toUInt32 31)).toInt32) &&& ((1431655765 : Int32)))).toUInt32 >>> (((2 : Int32)).toUInt32 &&& Int32.toUInt32 31)).toInt32) &&& ((858993459 : Int32)))).toUInt32 >>> (((4 : Int32)).toUInt32 &&& Int32.toUInt32 31)).toInt32)) &&& ((252645135 : Int32))).toUInt32 >>> (((8 : Int32)).toUInt32 &&& Int32.toUInt32 31)).toInt32)).toUInt32 >>> (((16 : Int32)).toUInt32 &&& Int32.toUInt32 31)).toInt32)) &&& ((63 : Int32)))
set_option maxHeartbeats 4000000 in
set_option maxRecDepth 100000 in
theorem c_J6_bitCount_0f7a4 (l : Launch) {a0 : Int32} {u : Int32} (h : m_J6_bitCount_0f7a4 a0 = some u) : pM l yJ6_bitCount_0f7a4 wsJ6_bitCount_0f7a4 0 0 [.int a0] u := by
  refine pM.of (cc := cJ6_bitCount_0f7a4) (maxL := 1) (ret := (some .int)) [(0, .int a0)] (by decide) rfl (Nat.le_of_ble_eq_true rfl) rfl (fun p e s m below meth c ls hx hb hr hml hown hts hlk hl => ?_)
  replace hown : s.vm.findClass RJ6 = some m.cls := hown
  have kw1 := hts (.constant RJ6 265 (1431655765)) (List.mem_of_getElem? (i := 1) rfl)
  have kw2 := hts (.constant RJ6 266 (858993459)) (List.mem_of_getElem? (i := 2) rfl)
  have kw3 := hts (.constant RJ6 267 (252645135)) (List.mem_of_getElem? (i := 3) rfl)
  unfold m_J6_bitCount_0f7a4 at h
  refine lv_iload_n hx hb dJ6_bitCount_0f7a4_0 rfl (lv_at hl 0 rfl) ?_
  refine lv_iload_n hx hb dJ6_bitCount_0f7a4_1 rfl (lv_at hl 0 rfl) ?_
  refine lv_iconst (v := (1 : Int32)) hx hb dJ6_bitCount_0f7a4_2 (by decide) ?_
  refine lv_iushr (v := (a0.toUInt32 >>> (((1 : Int32)).toUInt32 &&& Int32.toUInt32 31)).toInt32) hx hb dJ6_bitCount_0f7a4_3 rfl ?_
  refine lv_ldcw (v := (1431655765 : Int32)) hx hb hown kw1 dJ6_bitCount_0f7a4_4 ?_
  refine lv_iand hx hb dJ6_bitCount_0f7a4_7 ?_
  refine lv_isub hx hb dJ6_bitCount_0f7a4_8 ?_
  refine lv_istore_n (lv' := [(0, .int (a0 - (((a0.toUInt32 >>> (((1 : Int32)).toUInt32 &&& Int32.toUInt32 31)).toInt32) &&& ((1431655765 : Int32)))))]) hx hb dJ6_bitCount_0f7a4_9 rfl hl (by decide) rfl (fun ls hl => ?_)
  refine lv_iload_n hx hb dJ6_bitCount_0f7a4_10 rfl (lv_at hl 0 rfl) ?_
  refine lv_ldcw (v := (858993459 : Int32)) hx hb hown kw2 dJ6_bitCount_0f7a4_11 ?_
  refine lv_iand hx hb dJ6_bitCount_0f7a4_14 ?_
  refine lv_iload_n hx hb dJ6_bitCount_0f7a4_15 rfl (lv_at hl 0 rfl) ?_
  refine lv_iconst (v := (2 : Int32)) hx hb dJ6_bitCount_0f7a4_16 (by decide) ?_
  refine lv_iushr (v := ((a0 - (((a0.toUInt32 >>> (((1 : Int32)).toUInt32 &&& Int32.toUInt32 31)).toInt32) &&& ((1431655765 : Int32)))).toUInt32 >>> (((2 : Int32)).toUInt32 &&& Int32.toUInt32 31)).toInt32) hx hb dJ6_bitCount_0f7a4_17 rfl ?_
  refine lv_ldcw (v := (858993459 : Int32)) hx hb hown kw2 dJ6_bitCount_0f7a4_18 ?_
  refine lv_iand hx hb dJ6_bitCount_0f7a4_21 ?_
  refine lv_iadd hx hb dJ6_bitCount_0f7a4_22 ?_
  refine lv_istore_n (lv' := [(0, .int (((a0 - (((a0.toUInt32 >>> (((1 : Int32)).toUInt32 &&& Int32.toUInt32 31)).toInt32) &&& ((1431655765 : Int32)))) &&& ((858993459 : Int32))) + ((((a0 - (((a0.toUInt32 >>> (((1 : Int32)).toUInt32 &&& Int32.toUInt32 31)).toInt32) &&& ((1431655765 : Int32)))).toUInt32 >>> (((2 : Int32)).toUInt32 &&& Int32.toUInt32 31)).toInt32) &&& ((858993459 : Int32)))))]) hx hb dJ6_bitCount_0f7a4_23 rfl hl (by decide) rfl (fun ls hl => ?_)
  refine lv_iload_n hx hb dJ6_bitCount_0f7a4_24 rfl (lv_at hl 0 rfl) ?_
  refine lv_iload_n hx hb dJ6_bitCount_0f7a4_25 rfl (lv_at hl 0 rfl) ?_
  refine lv_iconst (v := (4 : Int32)) hx hb dJ6_bitCount_0f7a4_26 (by decide) ?_
  refine lv_iushr (v := ((((a0 - (((a0.toUInt32 >>> (((1 : Int32)).toUInt32 &&& Int32.toUInt32 31)).toInt32) &&& ((1431655765 : Int32)))) &&& ((858993459 : Int32))) + ((((a0 - (((a0.toUInt32 >>> (((1 : Int32)).toUInt32 &&& Int32.toUInt32 31)).toInt32) &&& ((1431655765 : Int32)))).toUInt32 >>> (((2 : Int32)).toUInt32 &&& Int32.toUInt32 31)).toInt32) &&& ((858993459 : Int32)))).toUInt32 >>> (((4 : Int32)).toUInt32 &&& Int32.toUInt32 31)).toInt32) hx hb dJ6_bitCount_0f7a4_27 rfl ?_
  refine lv_iadd hx hb dJ6_bitCount_0f7a4_28 ?_
  refine lv_ldcw (v := (252645135 : Int32)) hx hb hown kw3 dJ6_bitCount_0f7a4_29 ?_
  refine lv_iand hx hb dJ6_bitCount_0f7a4_32 ?_
  refine lv_istore_n (lv' := [(0, .int (((((a0 - (((a0.toUInt32 >>> (((1 : Int32)).toUInt32 &&& Int32.toUInt32 31)).toInt32) &&& ((1431655765 : Int32)))) &&& ((858993459 : Int32))) + ((((a0 - (((a0.toUInt32 >>> (((1 : Int32)).toUInt32 &&& Int32.toUInt32 31)).toInt32) &&& ((1431655765 : Int32)))).toUInt32 >>> (((2 : Int32)).toUInt32 &&& Int32.toUInt32 31)).toInt32) &&& ((858993459 : Int32)))) + (((((a0 - (((a0.toUInt32 >>> (((1 : Int32)).toUInt32 &&& Int32.toUInt32 31)).toInt32) &&& ((1431655765 : Int32)))) &&& ((858993459 : Int32))) + ((((a0 - (((a0.toUInt32 >>> (((1 : Int32)).toUInt32 &&& Int32.toUInt32 31)).toInt32) &&& ((1431655765 : Int32)))).toUInt32 >>> (((2 : Int32)).toUInt32 &&& Int32.toUInt32 31)).toInt32) &&& ((858993459 : Int32)))).toUInt32 >>> (((4 : Int32)).toUInt32 &&& Int32.toUInt32 31)).toInt32)) &&& ((252645135 : Int32))))]) hx hb dJ6_bitCount_0f7a4_33 rfl hl (by decide) rfl (fun ls hl => ?_)
  refine lv_iload_n hx hb dJ6_bitCount_0f7a4_34 rfl (lv_at hl 0 rfl) ?_
  refine lv_iload_n hx hb dJ6_bitCount_0f7a4_35 rfl (lv_at hl 0 rfl) ?_
  refine lv_bipush (v := (8 : Int32)) hx hb dJ6_bitCount_0f7a4_36 (by decide) ?_
  refine lv_iushr (v := ((((((a0 - (((a0.toUInt32 >>> (((1 : Int32)).toUInt32 &&& Int32.toUInt32 31)).toInt32) &&& ((1431655765 : Int32)))) &&& ((858993459 : Int32))) + ((((a0 - (((a0.toUInt32 >>> (((1 : Int32)).toUInt32 &&& Int32.toUInt32 31)).toInt32) &&& ((1431655765 : Int32)))).toUInt32 >>> (((2 : Int32)).toUInt32 &&& Int32.toUInt32 31)).toInt32) &&& ((858993459 : Int32)))) + (((((a0 - (((a0.toUInt32 >>> (((1 : Int32)).toUInt32 &&& Int32.toUInt32 31)).toInt32) &&& ((1431655765 : Int32)))) &&& ((858993459 : Int32))) + ((((a0 - (((a0.toUInt32 >>> (((1 : Int32)).toUInt32 &&& Int32.toUInt32 31)).toInt32) &&& ((1431655765 : Int32)))).toUInt32 >>> (((2 : Int32)).toUInt32 &&& Int32.toUInt32 31)).toInt32) &&& ((858993459 : Int32)))).toUInt32 >>> (((4 : Int32)).toUInt32 &&& Int32.toUInt32 31)).toInt32)) &&& ((252645135 : Int32))).toUInt32 >>> (((8 : Int32)).toUInt32 &&& Int32.toUInt32 31)).toInt32) hx hb dJ6_bitCount_0f7a4_38 rfl ?_
  refine lv_iadd hx hb dJ6_bitCount_0f7a4_39 ?_
  refine lv_istore_n (lv' := [(0, .int ((((((a0 - (((a0.toUInt32 >>> (((1 : Int32)).toUInt32 &&& Int32.toUInt32 31)).toInt32) &&& ((1431655765 : Int32)))) &&& ((858993459 : Int32))) + ((((a0 - (((a0.toUInt32 >>> (((1 : Int32)).toUInt32 &&& Int32.toUInt32 31)).toInt32) &&& ((1431655765 : Int32)))).toUInt32 >>> (((2 : Int32)).toUInt32 &&& Int32.toUInt32 31)).toInt32) &&& ((858993459 : Int32)))) + (((((a0 - (((a0.toUInt32 >>> (((1 : Int32)).toUInt32 &&& Int32.toUInt32 31)).toInt32) &&& ((1431655765 : Int32)))) &&& ((858993459 : Int32))) + ((((a0 - (((a0.toUInt32 >>> (((1 : Int32)).toUInt32 &&& Int32.toUInt32 31)).toInt32) &&& ((1431655765 : Int32)))).toUInt32 >>> (((2 : Int32)).toUInt32 &&& Int32.toUInt32 31)).toInt32) &&& ((858993459 : Int32)))).toUInt32 >>> (((4 : Int32)).toUInt32 &&& Int32.toUInt32 31)).toInt32)) &&& ((252645135 : Int32))) + (((((((a0 - (((a0.toUInt32 >>> (((1 : Int32)).toUInt32 &&& Int32.toUInt32 31)).toInt32) &&& ((1431655765 : Int32)))) &&& ((858993459 : Int32))) + ((((a0 - (((a0.toUInt32 >>> (((1 : Int32)).toUInt32 &&& Int32.toUInt32 31)).toInt32) &&& ((1431655765 : Int32)))).toUInt32 >>> (((2 : Int32)).toUInt32 &&& Int32.toUInt32 31)).toInt32) &&& ((858993459 : Int32)))) + (((((a0 - (((a0.toUInt32 >>> (((1 : Int32)).toUInt32 &&& Int32.toUInt32 31)).toInt32) &&& ((1431655765 : Int32)))) &&& ((858993459 : Int32))) + ((((a0 - (((a0.toUInt32 >>> (((1 : Int32)).toUInt32 &&& Int32.toUInt32 31)).toInt32) &&& ((1431655765 : Int32)))).toUInt32 >>> (((2 : Int32)).toUInt32 &&& Int32.toUInt32 31)).toInt32) &&& ((858993459 : Int32)))).toUInt32 >>> (((4 : Int32)).toUInt32 &&& Int32.toUInt32 31)).toInt32)) &&& ((252645135 : Int32))).toUInt32 >>> (((8 : Int32)).toUInt32 &&& Int32.toUInt32 31)).toInt32)))]) hx hb dJ6_bitCount_0f7a4_40 rfl hl (by decide) rfl (fun ls hl => ?_)
  refine lv_iload_n hx hb dJ6_bitCount_0f7a4_41 rfl (lv_at hl 0 rfl) ?_
  refine lv_iload_n hx hb dJ6_bitCount_0f7a4_42 rfl (lv_at hl 0 rfl) ?_
  refine lv_bipush (v := (16 : Int32)) hx hb dJ6_bitCount_0f7a4_43 (by decide) ?_
  refine lv_iushr (v := (((((((a0 - (((a0.toUInt32 >>> (((1 : Int32)).toUInt32 &&& Int32.toUInt32 31)).toInt32) &&& ((1431655765 : Int32)))) &&& ((858993459 : Int32))) + ((((a0 - (((a0.toUInt32 >>> (((1 : Int32)).toUInt32 &&& Int32.toUInt32 31)).toInt32) &&& ((1431655765 : Int32)))).toUInt32 >>> (((2 : Int32)).toUInt32 &&& Int32.toUInt32 31)).toInt32) &&& ((858993459 : Int32)))) + (((((a0 - (((a0.toUInt32 >>> (((1 : Int32)).toUInt32 &&& Int32.toUInt32 31)).toInt32) &&& ((1431655765 : Int32)))) &&& ((858993459 : Int32))) + ((((a0 - (((a0.toUInt32 >>> (((1 : Int32)).toUInt32 &&& Int32.toUInt32 31)).toInt32) &&& ((1431655765 : Int32)))).toUInt32 >>> (((2 : Int32)).toUInt32 &&& Int32.toUInt32 31)).toInt32) &&& ((858993459 : Int32)))).toUInt32 >>> (((4 : Int32)).toUInt32 &&& Int32.toUInt32 31)).toInt32)) &&& ((252645135 : Int32))) + (((((((a0 - (((a0.toUInt32 >>> (((1 : Int32)).toUInt32 &&& Int32.toUInt32 31)).toInt32) &&& ((1431655765 : Int32)))) &&& ((858993459 : Int32))) + ((((a0 - (((a0.toUInt32 >>> (((1 : Int32)).toUInt32 &&& Int32.toUInt32 31)).toInt32) &&& ((1431655765 : Int32)))).toUInt32 >>> (((2 : Int32)).toUInt32 &&& Int32.toUInt32 31)).toInt32) &&& ((858993459 : Int32)))) + (((((a0 - (((a0.toUInt32 >>> (((1 : Int32)).toUInt32 &&& Int32.toUInt32 31)).toInt32) &&& ((1431655765 : Int32)))) &&& ((858993459 : Int32))) + ((((a0 - (((a0.toUInt32 >>> (((1 : Int32)).toUInt32 &&& Int32.toUInt32 31)).toInt32) &&& ((1431655765 : Int32)))).toUInt32 >>> (((2 : Int32)).toUInt32 &&& Int32.toUInt32 31)).toInt32) &&& ((858993459 : Int32)))).toUInt32 >>> (((4 : Int32)).toUInt32 &&& Int32.toUInt32 31)).toInt32)) &&& ((252645135 : Int32))).toUInt32 >>> (((8 : Int32)).toUInt32 &&& Int32.toUInt32 31)).toInt32)).toUInt32 >>> (((16 : Int32)).toUInt32 &&& Int32.toUInt32 31)).toInt32) hx hb dJ6_bitCount_0f7a4_45 rfl ?_
  refine lv_iadd hx hb dJ6_bitCount_0f7a4_46 ?_
  refine lv_istore_n (lv' := [(0, .int (((((((a0 - (((a0.toUInt32 >>> (((1 : Int32)).toUInt32 &&& Int32.toUInt32 31)).toInt32) &&& ((1431655765 : Int32)))) &&& ((858993459 : Int32))) + ((((a0 - (((a0.toUInt32 >>> (((1 : Int32)).toUInt32 &&& Int32.toUInt32 31)).toInt32) &&& ((1431655765 : Int32)))).toUInt32 >>> (((2 : Int32)).toUInt32 &&& Int32.toUInt32 31)).toInt32) &&& ((858993459 : Int32)))) + (((((a0 - (((a0.toUInt32 >>> (((1 : Int32)).toUInt32 &&& Int32.toUInt32 31)).toInt32) &&& ((1431655765 : Int32)))) &&& ((858993459 : Int32))) + ((((a0 - (((a0.toUInt32 >>> (((1 : Int32)).toUInt32 &&& Int32.toUInt32 31)).toInt32) &&& ((1431655765 : Int32)))).toUInt32 >>> (((2 : Int32)).toUInt32 &&& Int32.toUInt32 31)).toInt32) &&& ((858993459 : Int32)))).toUInt32 >>> (((4 : Int32)).toUInt32 &&& Int32.toUInt32 31)).toInt32)) &&& ((252645135 : Int32))) + (((((((a0 - (((a0.toUInt32 >>> (((1 : Int32)).toUInt32 &&& Int32.toUInt32 31)).toInt32) &&& ((1431655765 : Int32)))) &&& ((858993459 : Int32))) + ((((a0 - (((a0.toUInt32 >>> (((1 : Int32)).toUInt32 &&& Int32.toUInt32 31)).toInt32) &&& ((1431655765 : Int32)))).toUInt32 >>> (((2 : Int32)).toUInt32 &&& Int32.toUInt32 31)).toInt32) &&& ((858993459 : Int32)))) + (((((a0 - (((a0.toUInt32 >>> (((1 : Int32)).toUInt32 &&& Int32.toUInt32 31)).toInt32) &&& ((1431655765 : Int32)))) &&& ((858993459 : Int32))) + ((((a0 - (((a0.toUInt32 >>> (((1 : Int32)).toUInt32 &&& Int32.toUInt32 31)).toInt32) &&& ((1431655765 : Int32)))).toUInt32 >>> (((2 : Int32)).toUInt32 &&& Int32.toUInt32 31)).toInt32) &&& ((858993459 : Int32)))).toUInt32 >>> (((4 : Int32)).toUInt32 &&& Int32.toUInt32 31)).toInt32)) &&& ((252645135 : Int32))).toUInt32 >>> (((8 : Int32)).toUInt32 &&& Int32.toUInt32 31)).toInt32)) + ((((((((a0 - (((a0.toUInt32 >>> (((1 : Int32)).toUInt32 &&& Int32.toUInt32 31)).toInt32) &&& ((1431655765 : Int32)))) &&& ((858993459 : Int32))) + ((((a0 - (((a0.toUInt32 >>> (((1 : Int32)).toUInt32 &&& Int32.toUInt32 31)).toInt32) &&& ((1431655765 : Int32)))).toUInt32 >>> (((2 : Int32)).toUInt32 &&& Int32.toUInt32 31)).toInt32) &&& ((858993459 : Int32)))) + (((((a0 - (((a0.toUInt32 >>> (((1 : Int32)).toUInt32 &&& Int32.toUInt32 31)).toInt32) &&& ((1431655765 : Int32)))) &&& ((858993459 : Int32))) + ((((a0 - (((a0.toUInt32 >>> (((1 : Int32)).toUInt32 &&& Int32.toUInt32 31)).toInt32) &&& ((1431655765 : Int32)))).toUInt32 >>> (((2 : Int32)).toUInt32 &&& Int32.toUInt32 31)).toInt32) &&& ((858993459 : Int32)))).toUInt32 >>> (((4 : Int32)).toUInt32 &&& Int32.toUInt32 31)).toInt32)) &&& ((252645135 : Int32))) + (((((((a0 - (((a0.toUInt32 >>> (((1 : Int32)).toUInt32 &&& Int32.toUInt32 31)).toInt32) &&& ((1431655765 : Int32)))) &&& ((858993459 : Int32))) + ((((a0 - (((a0.toUInt32 >>> (((1 : Int32)).toUInt32 &&& Int32.toUInt32 31)).toInt32) &&& ((1431655765 : Int32)))).toUInt32 >>> (((2 : Int32)).toUInt32 &&& Int32.toUInt32 31)).toInt32) &&& ((858993459 : Int32)))) + (((((a0 - (((a0.toUInt32 >>> (((1 : Int32)).toUInt32 &&& Int32.toUInt32 31)).toInt32) &&& ((1431655765 : Int32)))) &&& ((858993459 : Int32))) + ((((a0 - (((a0.toUInt32 >>> (((1 : Int32)).toUInt32 &&& Int32.toUInt32 31)).toInt32) &&& ((1431655765 : Int32)))).toUInt32 >>> (((2 : Int32)).toUInt32 &&& Int32.toUInt32 31)).toInt32) &&& ((858993459 : Int32)))).toUInt32 >>> (((4 : Int32)).toUInt32 &&& Int32.toUInt32 31)).toInt32)) &&& ((252645135 : Int32))).toUInt32 >>> (((8 : Int32)).toUInt32 &&& Int32.toUInt32 31)).toInt32)).toUInt32 >>> (((16 : Int32)).toUInt32 &&& Int32.toUInt32 31)).toInt32)))]) hx hb dJ6_bitCount_0f7a4_47 rfl hl (by decide) rfl (fun ls hl => ?_)
  refine lv_iload_n hx hb dJ6_bitCount_0f7a4_48 rfl (lv_at hl 0 rfl) ?_
  refine lv_bipush (v := (63 : Int32)) hx hb dJ6_bitCount_0f7a4_49 (by decide) ?_
  refine lv_iand hx hb dJ6_bitCount_0f7a4_51 ?_
  exact pw_iret hx hb hr hlk h dJ6_bitCount_0f7a4_52
def m_X6_in (a0 a1 a2 : Int32) : Option Int32 := (if a0 < a1 then some ((0 : Int32)) else (if a2 < a0 then some ((0 : Int32)) else some ((1 : Int32))))
set_option maxHeartbeats 4000000 in
set_option maxRecDepth 100000 in
theorem c_X6_in (l : Launch) {a0 a1 a2 : Int32} {u : Int32} (h : m_X6_in a0 a1 a2 = some u) : pM l yX6_in wsX6_in 0 0 [.int a0, .int a1, .int a2] u := by
  refine pM.of (cc := cX6_in) (maxL := 3) (ret := (some .boolean)) [(0, .int a0), (1, .int a1), (2, .int a2)] (by decide) rfl (Nat.le_of_ble_eq_true rfl) rfl (fun p e s m below meth c ls hx hb hr hml hown hts hlk hl => ?_)
  replace hown : s.vm.findClass RX6 = some m.cls := hown
  unfold m_X6_in at h
  refine lv_iload_n hx hb dX6_in_0 rfl (lv_at hl 0 rfl) ?_
  refine lv_iload_n hx hb dX6_in_1 rfl (lv_at hl 1 rfl) ?_
  refine lv_icmp_lt (tgt := 14) hx hb dX6_in_2 (by decide) (fun c1 => ?_) (fun c1 => ?_)
  · have h := ift h c1
    refine lv_iconst (v := (0 : Int32)) hx hb dX6_in_14 (by decide) ?_
    exact pw_zret hx hb hr hlk rfl h dX6_in_15
  · have h := iff0 h c1
    refine lv_iload_n hx hb dX6_in_5 rfl (lv_at hl 0 rfl) ?_
    refine lv_iload_n hx hb dX6_in_6 rfl (lv_at hl 2 rfl) ?_
    refine lv_icmp_gt (tgt := 14) hx hb dX6_in_7 (by decide) (fun c2 => ?_) (fun c2 => ?_)
    · have h := ift h c2
      refine lv_iconst (v := (0 : Int32)) hx hb dX6_in_14 (by decide) ?_
      exact pw_zret hx hb hr hlk rfl h dX6_in_15
    · have h := iff0 h c2
      refine lv_iconst (v := (1 : Int32)) hx hb dX6_in_10 (by decide) ?_
      refine lv_goto (tgt := 15) hx hb dX6_in_11 (by decide) ?_
      exact pw_zret hx hb hr hlk rfl h dX6_in_15
def m_X6_isLamp (a0 : Int32) : Option Int32 := (m_X6_in a0 ((0 : Int32)) ((9 : Int32))).bind (fun r2 => if ¬ (r2 = 0 ∨ r2 = 1) then none else some r2)
set_option maxHeartbeats 4000000 in
set_option maxRecDepth 100000 in
theorem c_X6_isLamp (l : Launch) {a0 : Int32} {u : Int32} (h : m_X6_isLamp a0 = some u) : pM l yX6_isLamp wsX6_isLamp 1 22 [.int a0] u := by
  refine pM.of (cc := cX6_isLamp) (maxL := 1) (ret := (some .boolean)) [(0, .int a0)] (by decide) rfl (Nat.le_of_ble_eq_true rfl) rfl (fun p e s m below meth c ls hx hb hr hml hown hts hlk hl => ?_)
  replace hown : s.vm.findClass RX6 = some m.cls := hown
  unfold m_X6_isLamp at h
  refine lv_iload_n hx hb dX6_isLamp_0 rfl (lv_at hl 0 rfl) ?_
  refine lv_iconst (v := (0 : Int32)) hx hb dX6_isLamp_1 (by decide) ?_
  refine lv_bipush (v := (9 : Int32)) hx hb dX6_isLamp_2 (by decide) ?_
  obtain ⟨r2, q1, h⟩ := bnd h
  try dsimp only at h
  refine pw_call (va_runS (As := [.int a0, .int ((0 : Int32)), .int ((9 : Int32))]) (rest := []) ⟨hx, hb, hml, hown, hts⟩ (c_X6_in l q1) (va_cwS 3 hts gX6_isLamp_X6_in rfl rfl rfl qs_X6_in ⟨Nat.le_of_ble_eq_true rfl, Nat.le_of_ble_eq_true rfl⟩) preEq rfl rfl hl.1 rfl (lv_room (Nat.le_of_ble_eq_true rfl)) dX6_isLamp_4 ⟨Nat.le_refl _, Nat.le_refl _⟩) ?_
  obtain ⟨k3, h⟩ := ck h
  exact pw_zret hx hb hr hlk (zok k3).1 h dX6_isLamp_7
def m_X6_isOf (a0 a1 : Int32) : Option Int32 := (if ((a0 >>> (a1 &&& 31)) &&& ((1 : Int32))) = ((1 : Int32)) then some ((1 : Int32)) else some ((0 : Int32)))
set_option maxHeartbeats 4000000 in
set_option maxRecDepth 100000 in
theorem c_X6_isOf (l : Launch) {a0 a1 : Int32} {u : Int32} (h : m_X6_isOf a0 a1 = some u) : pM l yX6_isOf wsX6_isOf 0 0 [.int a0, .int a1] u := by
  refine pM.of (cc := cX6_isOf) (maxL := 2) (ret := (some .boolean)) [(0, .int a0), (1, .int a1)] (by decide) rfl (Nat.le_of_ble_eq_true rfl) rfl (fun p e s m below meth c ls hx hb hr hml hown hts hlk hl => ?_)
  replace hown : s.vm.findClass RX6 = some m.cls := hown
  unfold m_X6_isOf at h
  refine lv_iload_n hx hb dX6_isOf_0 rfl (lv_at hl 0 rfl) ?_
  refine lv_iload_n hx hb dX6_isOf_1 rfl (lv_at hl 1 rfl) ?_
  refine lv_ishr hx hb dX6_isOf_2 ?_
  refine lv_iconst (v := (1 : Int32)) hx hb dX6_isOf_3 (by decide) ?_
  refine lv_iand hx hb dX6_isOf_4 ?_
  refine lv_iconst (v := (1 : Int32)) hx hb dX6_isOf_5 (by decide) ?_
  refine lv_icmp_ne (tgt := 13) hx hb dX6_isOf_6 (by decide) (fun c1 => ?_) (fun c1 => ?_)
  · have h := iff0 h c1
    refine lv_iconst (v := (0 : Int32)) hx hb dX6_isOf_13 (by decide) ?_
    exact pw_zret hx hb hr hlk rfl h dX6_isOf_14
  · have h := ift h c1
    refine lv_iconst (v := (1 : Int32)) hx hb dX6_isOf_9 (by decide) ?_
    refine lv_goto (tgt := 14) hx hb dX6_isOf_10 (by decide) ?_
    exact pw_zret hx hb hr hlk rfl h dX6_isOf_14
def st_X6_bits_4 (F : Nat) (K : Int32 → Int32 → Int32 → Option Int32) (x0 x1 x2 : Int32) : Option Int32 := (if ((10 : Int32)) ≤ x2 then some x1 else K x0 (x1 + ((x0 >>> (x2 &&& 31)) &&& ((1 : Int32)))) (x2 + (1 : Int32)))
def lp_X6_bits_4 (F : Nat) : Nat → Int32 → Int32 → Int32 → Option Int32
  | 0, _, _, _ => none
  | f + 1, x0, x1, x2 => st_X6_bits_4 F (lp_X6_bits_4 F f ) x0 x1 x2
def m_X6_bits (F : Nat) (a0 : Int32) : Option Int32 := lp_X6_bits_4 F F a0 ((0 : Int32)) ((0 : Int32))
set_option maxHeartbeats 4000000 in
set_option maxRecDepth 100000 in
theorem c_X6_bits (l : Launch) {F : Nat} {a0 : Int32} {u : Int32} (h : m_X6_bits F a0 = some u) : pM l yX6_bits wsX6_bits 0 0 [.int a0] u := by
  refine pM.of (cc := cX6_bits) (maxL := 3) (ret := (some .int)) [(0, .int a0)] (by decide) rfl (Nat.le_of_ble_eq_true rfl) rfl (fun p e s m below meth c ls hx hb hr hml hown hts hlk hl => ?_)
  replace hown : s.vm.findClass RX6 = some m.cls := hown
  unfold m_X6_bits at h
  refine lv_iconst (v := (0 : Int32)) hx hb dX6_bits_0 (by decide) ?_
  refine lv_istore_n (lv' := [(1, .int ((0 : Int32))), (0, .int a0)]) hx hb dX6_bits_1 rfl hl (by decide) rfl (fun ls hl => ?_)
  refine lv_iconst (v := (0 : Int32)) hx hb dX6_bits_2 (by decide) ?_
  refine lv_istore_n (lv' := [(2, .int ((0 : Int32))), (1, .int ((0 : Int32))), (0, .int a0)]) hx hb dX6_bits_3 rfl hl (by decide) rfl (fun ls hl => ?_)
  have LOOP4 : ∀ (f : Nat) (x0 x1 x2 : Int32) (ls : Array Slot), lp_X6_bits_4 F f x0 x1 x2 = some u → lv_has ls 3 [(0, .int x0), (1, .int x1), (2, .int x2)] → W p l e ({ frames := 0, cells := 0, slots := 0, locals := 0 }) s m ([.int a0] : List Value).toArray below meth c s.heap [] 0 0 (MQ below (QcRead u) ([.int a0] : List Value).toArray s 0 0 (fun _ => False)) (F0 m 4 ls []) := by
    intro f
    induction f with
    | zero => intro x0 x1 x2 ls h hl; cases h
    | succ f ih =>
      intro x0 x1 x2 ls h hl
      replace h : st_X6_bits_4 F (lp_X6_bits_4 F f ) x0 x1 x2 = some u := h
      unfold st_X6_bits_4 at h
      refine lv_iload_n hx hb dX6_bits_4 rfl (lv_at hl 2 rfl) ?_
      refine lv_bipush (v := (10 : Int32)) hx hb dX6_bits_5 (by decide) ?_
      refine lv_icmp_ge (tgt := 24) hx hb dX6_bits_7 (by decide) (fun c1 => ?_) (fun c1 => ?_)
      · have h := ift h c1
        refine lv_iload_n hx hb dX6_bits_24 rfl (lv_at hl 1 rfl) ?_
        exact pw_iret hx hb hr hlk h dX6_bits_25
      · have h := iff0 h c1
        refine lv_iload_n hx hb dX6_bits_10 rfl (lv_at hl 1 rfl) ?_
        refine lv_iload_n hx hb dX6_bits_11 rfl (lv_at hl 0 rfl) ?_
        refine lv_iload_n hx hb dX6_bits_12 rfl (lv_at hl 2 rfl) ?_
        refine lv_ishr hx hb dX6_bits_13 ?_
        refine lv_iconst (v := (1 : Int32)) hx hb dX6_bits_14 (by decide) ?_
        refine lv_iand hx hb dX6_bits_15 ?_
        refine lv_iadd hx hb dX6_bits_16 ?_
        refine lv_istore_n (lv' := [(1, .int (x1 + ((x0 >>> (x2 &&& 31)) &&& ((1 : Int32))))), (0, .int x0), (2, .int x2)]) hx hb dX6_bits_17 rfl hl (by decide) rfl (fun ls hl => ?_)
        refine lv_iinc (v := x2 + (1 : Int32)) (lv' := [(2, .int (x2 + (1 : Int32))), (1, .int (x1 + ((x0 >>> (x2 &&& 31)) &&& ((1 : Int32))))), (0, .int x0)]) hx hb dX6_bits_18 hl (k := 2) rfl rfl (by decide) rfl (fun ls hl => ?_)
        refine lv_goto (tgt := 4) hx hb dX6_bits_21 (by decide) ?_
        exact ih x0 (x1 + ((x0 >>> (x2 &&& 31)) &&& ((1 : Int32)))) (x2 + (1 : Int32)) ls h (lv_sub hl [2, 1, 0] rfl)
  exact LOOP4 F a0 ((0 : Int32)) ((0 : Int32)) ls h (lv_sub hl [2, 1, 0] rfl)
