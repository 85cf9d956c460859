theorem kc0 : KC 0 RX0 TX0 3 := ⟨rfl, rfl, by decide +kernel, tyX0_ok, nmX0⟩
theorem vc0 : vwCl[0]? = some (RX0, TX0, 3) := rfl
theorem dv0 : ∀ j, j < 3 → defaultValue (kTy 0 j) = match tk (kTy 0 j) with | 0 => .int 0 | 2 => .long 0 | _ => .null := by decide +kernel
theorem kc1 : KC 1 RX1 TX1 6 := ⟨rfl, rfl, by decide +kernel, tyX1_ok, nmX1⟩
theorem vc1 : vwCl[1]? = some (RX1, TX1, 6) := rfl
theorem dv1 : ∀ j, j < 6 → defaultValue (kTy 1 j) = match tk (kTy 1 j) with | 0 => .int 0 | 2 => .long 0 | _ => .null := by decide +kernel
theorem kc2 : KC 2 RX2 TX2 3 := ⟨rfl, rfl, by decide +kernel, tyX2_ok, nmX2⟩
theorem vc2 : vwCl[2]? = some (RX2, TX2, 3) := rfl
theorem dv2 : ∀ j, j < 3 → defaultValue (kTy 2 j) = match tk (kTy 2 j) with | 0 => .int 0 | 2 => .long 0 | _ => .null := by decide +kernel
theorem kc3 : KC 3 RX3 TX3 9 := ⟨rfl, rfl, by decide +kernel, tyX3_ok, nmX3⟩
theorem vc3 : vwCl[3]? = some (RX3, TX3, 9) := rfl
theorem dv3 : ∀ j, j < 9 → defaultValue (kTy 3 j) = match tk (kTy 3 j) with | 0 => .int 0 | 2 => .long 0 | _ => .null := by decide +kernel
theorem kc4 : KC 4 RX4 TX4 15 := ⟨rfl, rfl, by decide +kernel, tyX4_ok, nmX4⟩
theorem vc4 : vwCl[4]? = some (RX4, TX4, 15) := rfl
theorem dv4 : ∀ j, j < 15 → defaultValue (kTy 4 j) = match tk (kTy 4 j) with | 0 => .int 0 | 2 => .long 0 | _ => .null := by decide +kernel
theorem kc5 : KC 5 RX5 TX5 8 := ⟨rfl, rfl, by decide +kernel, tyX5_ok, nmX5⟩
theorem vc5 : vwCl[5]? = some (RX5, TX5, 8) := rfl
theorem dv5 : ∀ j, j < 8 → defaultValue (kTy 5 j) = match tk (kTy 5 j) with | 0 => .int 0 | 2 => .long 0 | _ => .null := by decide +kernel
theorem kc6 : KC 6 RX6 TX6 7 := ⟨rfl, rfl, by decide +kernel, tyX6_ok, nmX6⟩
theorem vc6 : vwCl[6]? = some (RX6, TX6, 7) := rfl
theorem dv6 : ∀ j, j < 7 → defaultValue (kTy 6 j) = match tk (kTy 6 j) with | 0 => .int 0 | 2 => .long 0 | _ => .null := by decide +kernel
theorem kc7 : KC 7 RX7 TX7 8 := ⟨rfl, rfl, by decide +kernel, tyX7_ok, nmX7⟩
theorem vc7 : vwCl[7]? = some (RX7, TX7, 8) := rfl
theorem dv7 : ∀ j, j < 8 → defaultValue (kTy 7 j) = match tk (kTy 7 j) with | 0 => .int 0 | 2 => .long 0 | _ => .null := by decide +kernel
theorem kc8 : KC 8 RX8 TX8 3 := ⟨rfl, rfl, by decide +kernel, tyX8_ok, nmX8⟩
theorem vc8 : vwCl[8]? = some (RX8, TX8, 3) := rfl
theorem dv8 : ∀ j, j < 3 → defaultValue (kTy 8 j) = match tk (kTy 8 j) with | 0 => .int 0 | 2 => .long 0 | _ => .null := by decide +kernel
theorem kc9 : KC 9 RX9 TX9 4 := ⟨rfl, rfl, by decide +kernel, tyX9_ok, nmX9⟩
theorem vc9 : vwCl[9]? = some (RX9, TX9, 4) := rfl
theorem dv9 : ∀ j, j < 4 → defaultValue (kTy 9 j) = match tk (kTy 9 j) with | 0 => .int 0 | 2 => .long 0 | _ => .null := by decide +kernel
theorem kc10 : KC 10 RX10 TX10 20 := ⟨rfl, rfl, by decide +kernel, tyX10_ok, nmX10⟩
theorem vc10 : vwCl[10]? = some (RX10, TX10, 20) := rfl
theorem dv10 : ∀ j, j < 20 → defaultValue (kTy 10 j) = match tk (kTy 10 j) with | 0 => .int 0 | 2 => .long 0 | _ => .null := by decide +kernel
theorem kc11 : KC 11 RX11 TX11 54 := ⟨rfl, rfl, by decide +kernel, tyX11_ok, nmX11⟩
theorem vc11 : vwCl[11]? = some (RX11, TX11, 54) := rfl
theorem dv11 : ∀ j, j < 54 → defaultValue (kTy 11 j) = match tk (kTy 11 j) with | 0 => .int 0 | 2 => .long 0 | _ => .null := by decide +kernel
theorem ii10 : Cond.initialized RX10 ∈ LW := inLW (List.mem_of_getElem? (i := 1) (by decide +kernel)) (by decide +kernel)
theorem ii4 : Cond.initialized RX4 ∈ LW := inLW (List.mem_of_getElem? (i := 2) (by decide +kernel)) (by decide +kernel)
theorem ii5 : Cond.initialized RX5 ∈ LW := inLW (List.mem_of_getElem? (i := 3) (by decide +kernel)) (by decide +kernel)
theorem ii6 : Cond.initialized RX6 ∈ LW := inLW (List.mem_of_getElem? (i := 4) (by decide +kernel)) (by decide +kernel)
theorem ii8 : Cond.initialized RX8 ∈ LW := inLW (List.mem_of_getElem? (i := 5) (by decide +kernel)) (by decide +kernel)
theorem ii2 : Cond.initialized RX2 ∈ LW := inLW (List.mem_of_getElem? (i := 6) (by decide +kernel)) (by decide +kernel)
theorem ii3 : Cond.initialized RX3 ∈ LW := inLW (List.mem_of_getElem? (i := 7) (by decide +kernel)) (by decide +kernel)
theorem ii0 : Cond.initialized RX0 ∈ LW := inLW (List.mem_of_getElem? (i := 8) (by decide +kernel)) (by decide +kernel)
theorem ii7 : Cond.initialized RX7 ∈ LW := inLW (List.mem_of_getElem? (i := 9) (by decide +kernel)) (by decide +kernel)
theorem ii11 : Cond.initialized RX11 ∈ LW := inLW (List.mem_of_getElem? (i := 10) (by decide +kernel)) (by decide +kernel)
theorem ii1 : Cond.initialized RX1 ∈ LW := inLW (List.mem_of_getElem? (i := 23) (by decide +kernel)) (by decide +kernel)
theorem ii9 : Cond.initialized RX9 ∈ LW := inLW (List.mem_of_getElem? (i := 24) (by decide +kernel)) (by decide +kernel)
theorem clL_8 : Cond.classLink RL 8 RX10 ∈ LW := inLW (List.mem_of_getElem? (i := 25) (by decide +kernel)) (by decide +kernel)
theorem it10 : Cond.instantiable RX10 20 ∈ LW := inLW (List.mem_of_getElem? (i := 26) (by decide +kernel)) (by decide +kernel)
theorem mlL_99 : Cond.methodLink RL 99 yX10_init ∈ LW := inLW (List.mem_of_getElem? (i := 27) (by decide +kernel)) (by decide +kernel)
theorem mlX10_1 : Cond.methodLink RX10 1 objectInit ∈ LW := inLW (List.mem_of_getElem? (i := 30) (by decide +kernel)) (by decide +kernel)
theorem clX10_17 : Cond.classLink RX10 17 RX4 ∈ LW := inLW (List.mem_of_getElem? (i := 33) (by decide +kernel)) (by decide +kernel)
theorem it4 : Cond.instantiable RX4 15 ∈ LW := inLW (List.mem_of_getElem? (i := 34) (by decide +kernel)) (by decide +kernel)
theorem mnX10_19 : Cond.methodLinkNest RX10 19 yX4_init "TunnelPlan" ∈ NW := inNW (List.mem_of_getElem? (i := 35) (by decide +kernel)) (by decide +kernel)
theorem mlX4_3 : Cond.methodLink RX4 3 objectInit ∈ LW := inLW (List.mem_of_getElem? (i := 38) (by decide +kernel)) (by decide +kernel)
theorem flX4_9 : FL RX4 9 4 0 := ⟨_, _, _, kc4, by decide, Or.inl (inLW (List.mem_of_getElem? (i := 39) (by decide +kernel)) (by decide +kernel))⟩
theorem fpX4_9 : FP RX4 9 4 0 := ⟨_, _, _, kc4, by decide, rfl, Or.inl (inLW (List.mem_of_getElem? (i := 39) (by decide +kernel)) (by decide +kernel))⟩
theorem flX5_51 : FL RX5 51 4 0 := ⟨_, _, _, kc4, by decide, Or.inr ⟨"TunnelPlan", inNW (List.mem_of_getElem? (i := 40) (by decide +kernel)) (by decide +kernel)⟩⟩
theorem fpX5_51 : FP RX5 51 4 0 := ⟨_, _, _, kc4, by decide, rfl, Or.inr ⟨"TunnelPlan", inNW (List.mem_of_getElem? (i := 40) (by decide +kernel)) (by decide +kernel)⟩⟩
theorem flX10_132 : FL RX10 132 4 0 := ⟨_, _, _, kc4, by decide, Or.inr ⟨"TunnelPlan", inNW (List.mem_of_getElem? (i := 41) (by decide +kernel)) (by decide +kernel)⟩⟩
theorem flX4_52 : FL RX4 52 4 1 := ⟨_, _, _, kc4, by decide, Or.inl (inLW (List.mem_of_getElem? (i := 42) (by decide +kernel)) (by decide +kernel))⟩
theorem fpX4_52 : FP RX4 52 4 1 := ⟨_, _, _, kc4, by decide, rfl, Or.inl (inLW (List.mem_of_getElem? (i := 42) (by decide +kernel)) (by decide +kernel))⟩
theorem flX8_23 : FL RX8 23 4 1 := ⟨_, _, _, kc4, by decide, Or.inr ⟨"TunnelPlan", inNW (List.mem_of_getElem? (i := 43) (by decide +kernel)) (by decide +kernel)⟩⟩
theorem flX6_31 : FL RX6 31 4 1 := ⟨_, _, _, kc4, by decide, Or.inr ⟨"TunnelPlan", inNW (List.mem_of_getElem? (i := 44) (by decide +kernel)) (by decide +kernel)⟩⟩
theorem flX5_61 : FL RX5 61 4 1 := ⟨_, _, _, kc4, by decide, Or.inr ⟨"TunnelPlan", inNW (List.mem_of_getElem? (i := 45) (by decide +kernel)) (by decide +kernel)⟩⟩
theorem fpX5_61 : FP RX5 61 4 1 := ⟨_, _, _, kc4, by decide, rfl, Or.inr ⟨"TunnelPlan", inNW (List.mem_of_getElem? (i := 45) (by decide +kernel)) (by decide +kernel)⟩⟩
theorem flX9_26 : FL RX9 26 4 1 := ⟨_, _, _, kc4, by decide, Or.inr ⟨"TunnelPlan", inNW (List.mem_of_getElem? (i := 46) (by decide +kernel)) (by decide +kernel)⟩⟩
theorem flX1_55 : FL RX1 55 4 1 := ⟨_, _, _, kc4, by decide, Or.inr ⟨"TunnelPlan", inNW (List.mem_of_getElem? (i := 47) (by decide +kernel)) (by decide +kernel)⟩⟩
theorem flX7_38 : FL RX7 38 4 1 := ⟨_, _, _, kc4, by decide, Or.inr ⟨"TunnelPlan", inNW (List.mem_of_getElem? (i := 48) (by decide +kernel)) (by decide +kernel)⟩⟩
theorem flX2_48 : FL RX2 48 4 1 := ⟨_, _, _, kc4, by decide, Or.inr ⟨"TunnelPlan", inNW (List.mem_of_getElem? (i := 49) (by decide +kernel)) (by decide +kernel)⟩⟩
theorem flX10_135 : FL RX10 135 4 1 := ⟨_, _, _, kc4, by decide, Or.inr ⟨"TunnelPlan", inNW (List.mem_of_getElem? (i := 50) (by decide +kernel)) (by decide +kernel)⟩⟩
theorem flX3_107 : FL RX3 107 4 1 := ⟨_, _, _, kc4, by decide, Or.inr ⟨"TunnelPlan", inNW (List.mem_of_getElem? (i := 51) (by decide +kernel)) (by decide +kernel)⟩⟩
theorem flX2_23 : FL RX2 23 4 2 := ⟨_, _, _, kc4, by decide, Or.inr ⟨"TunnelPlan", inNW (List.mem_of_getElem? (i := 52) (by decide +kernel)) (by decide +kernel)⟩⟩
theorem flX4_55 : FL RX4 55 4 2 := ⟨_, _, _, kc4, by decide, Or.inl (inLW (List.mem_of_getElem? (i := 53) (by decide +kernel)) (by decide +kernel))⟩
theorem fpX4_55 : FP RX4 55 4 2 := ⟨_, _, _, kc4, by decide, rfl, Or.inl (inLW (List.mem_of_getElem? (i := 53) (by decide +kernel)) (by decide +kernel))⟩
theorem flX5_70 : FL RX5 70 4 2 := ⟨_, _, _, kc4, by decide, Or.inr ⟨"TunnelPlan", inNW (List.mem_of_getElem? (i := 54) (by decide +kernel)) (by decide +kernel)⟩⟩
theorem fpX5_70 : FP RX5 70 4 2 := ⟨_, _, _, kc4, by decide, rfl, Or.inr ⟨"TunnelPlan", inNW (List.mem_of_getElem? (i := 54) (by decide +kernel)) (by decide +kernel)⟩⟩
theorem flX3_59 : FL RX3 59 4 2 := ⟨_, _, _, kc4, by decide, Or.inr ⟨"TunnelPlan", inNW (List.mem_of_getElem? (i := 55) (by decide +kernel)) (by decide +kernel)⟩⟩
theorem flX9_35 : FL RX9 35 4 2 := ⟨_, _, _, kc4, by decide, Or.inr ⟨"TunnelPlan", inNW (List.mem_of_getElem? (i := 56) (by decide +kernel)) (by decide +kernel)⟩⟩
theorem flX10_138 : FL RX10 138 4 2 := ⟨_, _, _, kc4, by decide, Or.inr ⟨"TunnelPlan", inNW (List.mem_of_getElem? (i := 57) (by decide +kernel)) (by decide +kernel)⟩⟩
theorem flX4_15 : FL RX4 15 4 3 := ⟨_, _, _, kc4, by decide, Or.inl (inLW (List.mem_of_getElem? (i := 58) (by decide +kernel)) (by decide +kernel))⟩
theorem ffX4_15 : FF RX4 15 4 3 := ⟨_, _, _, kc4, by decide, rfl, rfl, inLW (List.mem_of_getElem? (i := 58) (by decide +kernel)) (by decide +kernel)⟩
theorem flX6_37 : FL RX6 37 4 3 := ⟨_, _, _, kc4, by decide, Or.inr ⟨"TunnelPlan", inNW (List.mem_of_getElem? (i := 59) (by decide +kernel)) (by decide +kernel)⟩⟩
theorem flX5_80 : FL RX5 80 4 3 := ⟨_, _, _, kc4, by decide, Or.inr ⟨"TunnelPlan", inNW (List.mem_of_getElem? (i := 60) (by decide +kernel)) (by decide +kernel)⟩⟩
theorem flX1_61 : FL RX1 61 4 3 := ⟨_, _, _, kc4, by decide, Or.inr ⟨"TunnelPlan", inNW (List.mem_of_getElem? (i := 61) (by decide +kernel)) (by decide +kernel)⟩⟩
theorem flX10_218 : FL RX10 218 4 3 := ⟨_, _, _, kc4, by decide, Or.inr ⟨"TunnelPlan", inNW (List.mem_of_getElem? (i := 62) (by decide +kernel)) (by decide +kernel)⟩⟩
theorem flX4_19 : FL RX4 19 4 4 := ⟨_, _, _, kc4, by decide, Or.inl (inLW (List.mem_of_getElem? (i := 63) (by decide +kernel)) (by decide +kernel))⟩
theorem ffX4_19 : FF RX4 19 4 4 := ⟨_, _, _, kc4, by decide, rfl, rfl, inLW (List.mem_of_getElem? (i := 63) (by decide +kernel)) (by decide +kernel)⟩
theorem flX6_40 : FL RX6 40 4 4 := ⟨_, _, _, kc4, by decide, Or.inr ⟨"TunnelPlan", inNW (List.mem_of_getElem? (i := 64) (by decide +kernel)) (by decide +kernel)⟩⟩
theorem flX5_87 : FL RX5 87 4 4 := ⟨_, _, _, kc4, by decide, Or.inr ⟨"TunnelPlan", inNW (List.mem_of_getElem? (i := 65) (by decide +kernel)) (by decide +kernel)⟩⟩
theorem flX1_58 : FL RX1 58 4 4 := ⟨_, _, _, kc4, by decide, Or.inr ⟨"TunnelPlan", inNW (List.mem_of_getElem? (i := 66) (by decide +kernel)) (by decide +kernel)⟩⟩
theorem flX10_222 : FL RX10 222 4 4 := ⟨_, _, _, kc4, by decide, Or.inr ⟨"TunnelPlan", inNW (List.mem_of_getElem? (i := 67) (by decide +kernel)) (by decide +kernel)⟩⟩
theorem flX4_22 : FL RX4 22 4 5 := ⟨_, _, _, kc4, by decide, Or.inl (inLW (List.mem_of_getElem? (i := 68) (by decide +kernel)) (by decide +kernel))⟩
theorem ffX4_22 : FF RX4 22 4 5 := ⟨_, _, _, kc4, by decide, rfl, rfl, inLW (List.mem_of_getElem? (i := 68) (by decide +kernel)) (by decide +kernel)⟩
theorem flX5_90 : FL RX5 90 4 5 := ⟨_, _, _, kc4, by decide, Or.inr ⟨"TunnelPlan", inNW (List.mem_of_getElem? (i := 69) (by decide +kernel)) (by decide +kernel)⟩⟩
theorem flX6_53 : FL RX6 53 4 5 := ⟨_, _, _, kc4, by decide, Or.inr ⟨"TunnelPlan", inNW (List.mem_of_getElem? (i := 70) (by decide +kernel)) (by decide +kernel)⟩⟩
theorem flX1_64 : FL RX1 64 4 5 := ⟨_, _, _, kc4, by decide, Or.inr ⟨"TunnelPlan", inNW (List.mem_of_getElem? (i := 71) (by decide +kernel)) (by decide +kernel)⟩⟩
theorem flX10_225 : FL RX10 225 4 5 := ⟨_, _, _, kc4, by decide, Or.inr ⟨"TunnelPlan", inNW (List.mem_of_getElem? (i := 72) (by decide +kernel)) (by decide +kernel)⟩⟩
theorem flX4_25 : FL RX4 25 4 6 := ⟨_, _, _, kc4, by decide, Or.inl (inLW (List.mem_of_getElem? (i := 73) (by decide +kernel)) (by decide +kernel))⟩
theorem ffX4_25 : FF RX4 25 4 6 := ⟨_, _, _, kc4, by decide, rfl, rfl, inLW (List.mem_of_getElem? (i := 73) (by decide +kernel)) (by decide +kernel)⟩
theorem flX5_93 : FL RX5 93 4 6 := ⟨_, _, _, kc4, by decide, Or.inr ⟨"TunnelPlan", inNW (List.mem_of_getElem? (i := 74) (by decide +kernel)) (by decide +kernel)⟩⟩
theorem flX2_35 : FL RX2 35 4 6 := ⟨_, _, _, kc4, by decide, Or.inr ⟨"TunnelPlan", inNW (List.mem_of_getElem? (i := 75) (by decide +kernel)) (by decide +kernel)⟩⟩
theorem flX7_73 : FL RX7 73 4 6 := ⟨_, _, _, kc4, by decide, Or.inr ⟨"TunnelPlan", inNW (List.mem_of_getElem? (i := 76) (by decide +kernel)) (by decide +kernel)⟩⟩
theorem flX3_110 : FL RX3 110 4 6 := ⟨_, _, _, kc4, by decide, Or.inr ⟨"TunnelPlan", inNW (List.mem_of_getElem? (i := 77) (by decide +kernel)) (by decide +kernel)⟩⟩
theorem flX10_228 : FL RX10 228 4 6 := ⟨_, _, _, kc4, by decide, Or.inr ⟨"TunnelPlan", inNW (List.mem_of_getElem? (i := 78) (by decide +kernel)) (by decide +kernel)⟩⟩
theorem flX4_28 : FL RX4 28 4 7 := ⟨_, _, _, kc4, by decide, Or.inl (inLW (List.mem_of_getElem? (i := 79) (by decide +kernel)) (by decide +kernel))⟩
theorem ffX4_28 : FF RX4 28 4 7 := ⟨_, _, _, kc4, by decide, rfl, rfl, inLW (List.mem_of_getElem? (i := 79) (by decide +kernel)) (by decide +kernel)⟩
theorem flX5_96 : FL RX5 96 4 7 := ⟨_, _, _, kc4, by decide, Or.inr ⟨"TunnelPlan", inNW (List.mem_of_getElem? (i := 80) (by decide +kernel)) (by decide +kernel)⟩⟩
theorem flX2_69 : FL RX2 69 4 7 := ⟨_, _, _, kc4, by decide, Or.inr ⟨"TunnelPlan", inNW (List.mem_of_getElem? (i := 81) (by decide +kernel)) (by decide +kernel)⟩⟩
theorem flX10_231 : FL RX10 231 4 7 := ⟨_, _, _, kc4, by decide, Or.inr ⟨"TunnelPlan", inNW (List.mem_of_getElem? (i := 82) (by decide +kernel)) (by decide +kernel)⟩⟩
theorem flX4_31 : FL RX4 31 4 8 := ⟨_, _, _, kc4, by decide, Or.inl (inLW (List.mem_of_getElem? (i := 83) (by decide +kernel)) (by decide +kernel))⟩
theorem ffX4_31 : FF RX4 31 4 8 := ⟨_, _, _, kc4, by decide, rfl, rfl, inLW (List.mem_of_getElem? (i := 83) (by decide +kernel)) (by decide +kernel)⟩
theorem flX5_99 : FL RX5 99 4 8 := ⟨_, _, _, kc4, by decide, Or.inr ⟨"TunnelPlan", inNW (List.mem_of_getElem? (i := 84) (by decide +kernel)) (by decide +kernel)⟩⟩
theorem flX2_78 : FL RX2 78 4 8 := ⟨_, _, _, kc4, by decide, Or.inr ⟨"TunnelPlan", inNW (List.mem_of_getElem? (i := 85) (by decide +kernel)) (by decide +kernel)⟩⟩
theorem flX10_252 : FL RX10 252 4 8 := ⟨_, _, _, kc4, by decide, Or.inr ⟨"TunnelPlan", inNW (List.mem_of_getElem? (i := 86) (by decide +kernel)) (by decide +kernel)⟩⟩
theorem flX4_34 : FL RX4 34 4 9 := ⟨_, _, _, kc4, by decide, Or.inl (inLW (List.mem_of_getElem? (i := 87) (by decide +kernel)) (by decide +kernel))⟩
theorem ffX4_34 : FF RX4 34 4 9 := ⟨_, _, _, kc4, by decide, rfl, rfl, inLW (List.mem_of_getElem? (i := 87) (by decide +kernel)) (by decide +kernel)⟩
theorem flX5_102 : FL RX5 102 4 9 := ⟨_, _, _, kc4, by decide, Or.inr ⟨"TunnelPlan", inNW (List.mem_of_getElem? (i := 88) (by decide +kernel)) (by decide +kernel)⟩⟩
theorem flX2_81 : FL RX2 81 4 9 := ⟨_, _, _, kc4, by decide, Or.inr ⟨"TunnelPlan", inNW (List.mem_of_getElem? (i := 89) (by decide +kernel)) (by decide +kernel)⟩⟩
theorem flX10_255 : FL RX10 255 4 9 := ⟨_, _, _, kc4, by decide, Or.inr ⟨"TunnelPlan", inNW (List.mem_of_getElem? (i := 90) (by decide +kernel)) (by decide +kernel)⟩⟩
theorem flX4_37 : FL RX4 37 4 10 := ⟨_, _, _, kc4, by decide, Or.inl (inLW (List.mem_of_getElem? (i := 91) (by decide +kernel)) (by decide +kernel))⟩
theorem ffX4_37 : FF RX4 37 4 10 := ⟨_, _, _, kc4, by decide, rfl, rfl, inLW (List.mem_of_getElem? (i := 91) (by decide +kernel)) (by decide +kernel)⟩
theorem flX8_18 : FL RX8 18 4 10 := ⟨_, _, _, kc4, by decide, Or.inr ⟨"TunnelPlan", inNW (List.mem_of_getElem? (i := 92) (by decide +kernel)) (by decide +kernel)⟩⟩
theorem flX5_105 : FL RX5 105 4 10 := ⟨_, _, _, kc4, by decide, Or.inr ⟨"TunnelPlan", inNW (List.mem_of_getElem? (i := 93) (by decide +kernel)) (by decide +kernel)⟩⟩
theorem flX4_40 : FL RX4 40 4 11 := ⟨_, _, _, kc4, by decide, Or.inl (inLW (List.mem_of_getElem? (i := 94) (by decide +kernel)) (by decide +kernel))⟩
theorem ffX4_40 : FF RX4 40 4 11 := ⟨_, _, _, kc4, by decide, rfl, rfl, inLW (List.mem_of_getElem? (i := 94) (by decide +kernel)) (by decide +kernel)⟩
theorem flX3_77 : FL RX3 77 4 11 := ⟨_, _, _, kc4, by decide, Or.inr ⟨"TunnelPlan", inNW (List.mem_of_getElem? (i := 95) (by decide +kernel)) (by decide +kernel)⟩⟩
theorem flX5_108 : FL RX5 108 4 11 := ⟨_, _, _, kc4, by decide, Or.inr ⟨"TunnelPlan", inNW (List.mem_of_getElem? (i := 96) (by decide +kernel)) (by decide +kernel)⟩⟩
theorem flX2_91 : FL RX2 91 4 11 := ⟨_, _, _, kc4, by decide, Or.inr ⟨"TunnelPlan", inNW (List.mem_of_getElem? (i := 97) (by decide +kernel)) (by decide +kernel)⟩⟩
theorem flX10_261 : FL RX10 261 4 11 := ⟨_, _, _, kc4, by decide, Or.inr ⟨"TunnelPlan", inNW (List.mem_of_getElem? (i := 98) (by decide +kernel)) (by decide +kernel)⟩⟩
theorem flX4_43 : FL RX4 43 4 12 := ⟨_, _, _, kc4, by decide, Or.inl (inLW (List.mem_of_getElem? (i := 99) (by decide +kernel)) (by decide +kernel))⟩
theorem ffX4_43 : FF RX4 43 4 12 := ⟨_, _, _, kc4, by decide, rfl, rfl, inLW (List.mem_of_getElem? (i := 99) (by decide +kernel)) (by decide +kernel)⟩
theorem flX3_80 : FL RX3 80 4 12 := ⟨_, _, _, kc4, by decide, Or.inr ⟨"TunnelPlan", inNW (List.mem_of_getElem? (i := 100) (by decide +kernel)) (by decide +kernel)⟩⟩
theorem flX5_111 : FL RX5 111 4 12 := ⟨_, _, _, kc4, by decide, Or.inr ⟨"TunnelPlan", inNW (List.mem_of_getElem? (i := 101) (by decide +kernel)) (by decide +kernel)⟩⟩
theorem flX2_42 : FL RX2 42 4 12 := ⟨_, _, _, kc4, by decide, Or.inr ⟨"TunnelPlan", inNW (List.mem_of_getElem? (i := 102) (by decide +kernel)) (by decide +kernel)⟩⟩
theorem flX10_264 : FL RX10 264 4 12 := ⟨_, _, _, kc4, by decide, Or.inr ⟨"TunnelPlan", inNW (List.mem_of_getElem? (i := 103) (by decide +kernel)) (by decide +kernel)⟩⟩
theorem flX4_46 : FL RX4 46 4 13 := ⟨_, _, _, kc4, by decide, Or.inl (inLW (List.mem_of_getElem? (i := 104) (by decide +kernel)) (by decide +kernel))⟩
theorem ffX4_46 : FF RX4 46 4 13 := ⟨_, _, _, kc4, by decide, rfl, rfl, inLW (List.mem_of_getElem? (i := 104) (by decide +kernel)) (by decide +kernel)⟩
theorem flX5_114 : FL RX5 114 4 13 := ⟨_, _, _, kc4, by decide, Or.inr ⟨"TunnelPlan", inNW (List.mem_of_getElem? (i := 105) (by decide +kernel)) (by decide +kernel)⟩⟩
theorem flX2_72 : FL RX2 72 4 13 := ⟨_, _, _, kc4, by decide, Or.inr ⟨"TunnelPlan", inNW (List.mem_of_getElem? (i := 106) (by decide +kernel)) (by decide +kernel)⟩⟩
theorem flX10_267 : FL RX10 267 4 13 := ⟨_, _, _, kc4, by decide, Or.inr ⟨"TunnelPlan", inNW (List.mem_of_getElem? (i := 107) (by decide +kernel)) (by decide +kernel)⟩⟩
theorem flX4_49 : FL RX4 49 4 14 := ⟨_, _, _, kc4, by decide, Or.inl (inLW (List.mem_of_getElem? (i := 108) (by decide +kernel)) (by decide +kernel))⟩
theorem ffX4_49 : FF RX4 49 4 14 := ⟨_, _, _, kc4, by decide, rfl, rfl, inLW (List.mem_of_getElem? (i := 108) (by decide +kernel)) (by decide +kernel)⟩
theorem flX5_117 : FL RX5 117 4 14 := ⟨_, _, _, kc4, by decide, Or.inr ⟨"TunnelPlan", inNW (List.mem_of_getElem? (i := 109) (by decide +kernel)) (by decide +kernel)⟩⟩
theorem flX2_84 : FL RX2 84 4 14 := ⟨_, _, _, kc4, by decide, Or.inr ⟨"TunnelPlan", inNW (List.mem_of_getElem? (i := 110) (by decide +kernel)) (by decide +kernel)⟩⟩
theorem flX10_270 : FL RX10 270 4 14 := ⟨_, _, _, kc4, by decide, Or.inr ⟨"TunnelPlan", inNW (List.mem_of_getElem? (i := 111) (by decide +kernel)) (by decide +kernel)⟩⟩
theorem ac_byte : Cond.arrayClass .byte ∈ LW := inLW (List.mem_of_getElem? (i := 143) (by decide +kernel)) (by decide +kernel)
theorem ac_int : Cond.arrayClass .int ∈ LW := inLW (List.mem_of_getElem? (i := 144) (by decide +kernel)) (by decide +kernel)
theorem clX10_27 : Cond.classLink RX10 27 RX5 ∈ LW := inLW (List.mem_of_getElem? (i := 145) (by decide +kernel)) (by decide +kernel)
theorem it5 : Cond.instantiable RX5 8 ∈ LW := inLW (List.mem_of_getElem? (i := 146) (by decide +kernel)) (by decide +kernel)
theorem mnX10_29 : Cond.methodLinkNest RX10 29 yX5_init "TunnelPlan" ∈ NW := inNW (List.mem_of_getElem? (i := 147) (by decide +kernel)) (by decide +kernel)
theorem mlX5_3 : Cond.methodLink RX5 3 objectInit ∈ LW := inLW (List.mem_of_getElem? (i := 150) (by decide +kernel)) (by decide +kernel)
theorem flX5_9 : FL RX5 9 5 0 := ⟨_, _, _, kc5, by decide, Or.inl (inLW (List.mem_of_getElem? (i := 151) (by decide +kernel)) (by decide +kernel))⟩
theorem fpX5_9 : FP RX5 9 5 0 := ⟨_, _, _, kc5, by decide, rfl, Or.inl (inLW (List.mem_of_getElem? (i := 151) (by decide +kernel)) (by decide +kernel))⟩
theorem flX5_25 : FL RX5 25 5 1 := ⟨_, _, _, kc5, by decide, Or.inl (inLW (List.mem_of_getElem? (i := 152) (by decide +kernel)) (by decide +kernel))⟩
theorem fpX5_25 : FP RX5 25 5 1 := ⟨_, _, _, kc5, by decide, rfl, Or.inl (inLW (List.mem_of_getElem? (i := 152) (by decide +kernel)) (by decide +kernel))⟩
theorem flX5_56 : FL RX5 56 5 2 := ⟨_, _, _, kc5, by decide, Or.inl (inLW (List.mem_of_getElem? (i := 153) (by decide +kernel)) (by decide +kernel))⟩
theorem fpX5_56 : FP RX5 56 5 2 := ⟨_, _, _, kc5, by decide, rfl, Or.inl (inLW (List.mem_of_getElem? (i := 153) (by decide +kernel)) (by decide +kernel))⟩
theorem flX5_120 : FL RX5 120 5 3 := ⟨_, _, _, kc5, by decide, Or.inl (inLW (List.mem_of_getElem? (i := 154) (by decide +kernel)) (by decide +kernel))⟩
theorem fpX5_120 : FP RX5 120 5 3 := ⟨_, _, _, kc5, by decide, rfl, Or.inl (inLW (List.mem_of_getElem? (i := 154) (by decide +kernel)) (by decide +kernel))⟩
theorem flX5_31 : FL RX5 31 5 4 := ⟨_, _, _, kc5, by decide, Or.inl (inLW (List.mem_of_getElem? (i := 155) (by decide +kernel)) (by decide +kernel))⟩
theorem fpX5_31 : FP RX5 31 5 4 := ⟨_, _, _, kc5, by decide, rfl, Or.inl (inLW (List.mem_of_getElem? (i := 155) (by decide +kernel)) (by decide +kernel))⟩
theorem flX5_123 : FL RX5 123 5 5 := ⟨_, _, _, kc5, by decide, Or.inl (inLW (List.mem_of_getElem? (i := 156) (by decide +kernel)) (by decide +kernel))⟩
theorem fpX5_123 : FP RX5 123 5 5 := ⟨_, _, _, kc5, by decide, rfl, Or.inl (inLW (List.mem_of_getElem? (i := 156) (by decide +kernel)) (by decide +kernel))⟩
theorem flX5_28 : FL RX5 28 5 6 := ⟨_, _, _, kc5, by decide, Or.inl (inLW (List.mem_of_getElem? (i := 157) (by decide +kernel)) (by decide +kernel))⟩
theorem fpX5_28 : FP RX5 28 5 6 := ⟨_, _, _, kc5, by decide, rfl, Or.inl (inLW (List.mem_of_getElem? (i := 157) (by decide +kernel)) (by decide +kernel))⟩
theorem flX5_15 : FL RX5 15 5 7 := ⟨_, _, _, kc5, by decide, Or.inl (inLW (List.mem_of_getElem? (i := 158) (by decide +kernel)) (by decide +kernel))⟩
theorem fpX5_15 : FP RX5 15 5 7 := ⟨_, _, _, kc5, by decide, rfl, Or.inl (inLW (List.mem_of_getElem? (i := 158) (by decide +kernel)) (by decide +kernel))⟩
theorem flX10_112 : FL RX10 112 5 7 := ⟨_, _, _, kc5, by decide, Or.inr ⟨"TunnelPlan", inNW (List.mem_of_getElem? (i := 159) (by decide +kernel)) (by decide +kernel)⟩⟩
theorem clX10_34 : Cond.classLink RX10 34 RX6 ∈ LW := inLW (List.mem_of_getElem? (i := 177) (by decide +kernel)) (by decide +kernel)
theorem it6 : Cond.instantiable RX6 7 ∈ LW := inLW (List.mem_of_getElem? (i := 178) (by decide +kernel)) (by decide +kernel)
theorem mnX10_36 : Cond.methodLinkNest RX10 36 yX6_init "TunnelPlan" ∈ NW := inNW (List.mem_of_getElem? (i := 179) (by decide +kernel)) (by decide +kernel)
theorem mlX6_3 : Cond.methodLink RX6 3 objectInit ∈ LW := inLW (List.mem_of_getElem? (i := 182) (by decide +kernel)) (by decide +kernel)
theorem flX6_27 : FL RX6 27 6 0 := ⟨_, _, _, kc6, by decide, Or.inl (inLW (List.mem_of_getElem? (i := 183) (by decide +kernel)) (by decide +kernel))⟩
theorem ffX6_27 : FF RX6 27 6 0 := ⟨_, _, _, kc6, by decide, rfl, rfl, inLW (List.mem_of_getElem? (i := 183) (by decide +kernel)) (by decide +kernel)⟩
theorem flX6_9 : FL RX6 9 6 1 := ⟨_, _, _, kc6, by decide, Or.inl (inLW (List.mem_of_getElem? (i := 184) (by decide +kernel)) (by decide +kernel))⟩
theorem ffX6_9 : FF RX6 9 6 1 := ⟨_, _, _, kc6, by decide, rfl, rfl, inLW (List.mem_of_getElem? (i := 184) (by decide +kernel)) (by decide +kernel)⟩
theorem flX2_51 : FL RX2 51 6 1 := ⟨_, _, _, kc6, by decide, Or.inr ⟨"TunnelPlan", inNW (List.mem_of_getElem? (i := 185) (by decide +kernel)) (by decide +kernel)⟩⟩
theorem flX6_15 : FL RX6 15 6 2 := ⟨_, _, _, kc6, by decide, Or.inl (inLW (List.mem_of_getElem? (i := 186) (by decide +kernel)) (by decide +kernel))⟩
theorem ffX6_15 : FF RX6 15 6 2 := ⟨_, _, _, kc6, by decide, rfl, rfl, inLW (List.mem_of_getElem? (i := 186) (by decide +kernel)) (by decide +kernel)⟩
theorem flX6_18 : FL RX6 18 6 3 := ⟨_, _, _, kc6, by decide, Or.inl (inLW (List.mem_of_getElem? (i := 187) (by decide +kernel)) (by decide +kernel))⟩
theorem ffX6_18 : FF RX6 18 6 3 := ⟨_, _, _, kc6, by decide, rfl, rfl, inLW (List.mem_of_getElem? (i := 187) (by decide +kernel)) (by decide +kernel)⟩
theorem flX6_21 : FL RX6 21 6 4 := ⟨_, _, _, kc6, by decide, Or.inl (inLW (List.mem_of_getElem? (i := 188) (by decide +kernel)) (by decide +kernel))⟩
theorem ffX6_21 : FF RX6 21 6 4 := ⟨_, _, _, kc6, by decide, rfl, rfl, inLW (List.mem_of_getElem? (i := 188) (by decide +kernel)) (by decide +kernel)⟩
theorem flX6_24 : FL RX6 24 6 5 := ⟨_, _, _, kc6, by decide, Or.inl (inLW (List.mem_of_getElem? (i := 189) (by decide +kernel)) (by decide +kernel))⟩
theorem ffX6_24 : FF RX6 24 6 5 := ⟨_, _, _, kc6, by decide, rfl, rfl, inLW (List.mem_of_getElem? (i := 189) (by decide +kernel)) (by decide +kernel)⟩
theorem flX6_44 : FL RX6 44 6 6 := ⟨_, _, _, kc6, by decide, Or.inl (inLW (List.mem_of_getElem? (i := 190) (by decide +kernel)) (by decide +kernel))⟩
theorem fpX6_44 : FP RX6 44 6 6 := ⟨_, _, _, kc6, by decide, rfl, Or.inl (inLW (List.mem_of_getElem? (i := 190) (by decide +kernel)) (by decide +kernel))⟩
theorem clX10_43 : Cond.classLink RX10 43 RX8 ∈ LW := inLW (List.mem_of_getElem? (i := 206) (by decide +kernel)) (by decide +kernel)
theorem it8 : Cond.instantiable RX8 3 ∈ LW := inLW (List.mem_of_getElem? (i := 207) (by decide +kernel)) (by decide +kernel)
theorem mnX10_45 : Cond.methodLinkNest RX10 45 yX8_init "TunnelPlan" ∈ NW := inNW (List.mem_of_getElem? (i := 208) (by decide +kernel)) (by decide +kernel)
theorem mlX8_3 : Cond.methodLink RX8 3 objectInit ∈ LW := inLW (List.mem_of_getElem? (i := 211) (by decide +kernel)) (by decide +kernel)
theorem flX8_9 : FL RX8 9 8 0 := ⟨_, _, _, kc8, by decide, Or.inl (inLW (List.mem_of_getElem? (i := 212) (by decide +kernel)) (by decide +kernel))⟩
theorem ffX8_9 : FF RX8 9 8 0 := ⟨_, _, _, kc8, by decide, rfl, rfl, inLW (List.mem_of_getElem? (i := 212) (by decide +kernel)) (by decide +kernel)⟩
theorem flX3_48 : FL RX3 48 8 0 := ⟨_, _, _, kc8, by decide, Or.inr ⟨"TunnelPlan", inNW (List.mem_of_getElem? (i := 213) (by decide +kernel)) (by decide +kernel)⟩⟩
theorem flX2_29 : FL RX2 29 8 0 := ⟨_, _, _, kc8, by decide, Or.inr ⟨"TunnelPlan", inNW (List.mem_of_getElem? (i := 214) (by decide +kernel)) (by decide +kernel)⟩⟩
theorem flX9_47 : FL RX9 47 8 0 := ⟨_, _, _, kc8, by decide, Or.inr ⟨"TunnelPlan", inNW (List.mem_of_getElem? (i := 215) (by decide +kernel)) (by decide +kernel)⟩⟩
theorem flX10_249 : FL RX10 249 8 0 := ⟨_, _, _, kc8, by decide, Or.inr ⟨"TunnelPlan", inNW (List.mem_of_getElem? (i := 216) (by decide +kernel)) (by decide +kernel)⟩⟩
theorem flX8_15 : FL RX8 15 8 1 := ⟨_, _, _, kc8, by decide, Or.inl (inLW (List.mem_of_getElem? (i := 217) (by decide +kernel)) (by decide +kernel))⟩
theorem ffX8_15 : FF RX8 15 8 1 := ⟨_, _, _, kc8, by decide, rfl, rfl, inLW (List.mem_of_getElem? (i := 217) (by decide +kernel)) (by decide +kernel)⟩
theorem flX3_69 : FL RX3 69 8 1 := ⟨_, _, _, kc8, by decide, Or.inr ⟨"TunnelPlan", inNW (List.mem_of_getElem? (i := 218) (by decide +kernel)) (by decide +kernel)⟩⟩
theorem flX2_45 : FL RX2 45 8 1 := ⟨_, _, _, kc8, by decide, Or.inr ⟨"TunnelPlan", inNW (List.mem_of_getElem? (i := 219) (by decide +kernel)) (by decide +kernel)⟩⟩
theorem flX10_258 : FL RX10 258 8 1 := ⟨_, _, _, kc8, by decide, Or.inr ⟨"TunnelPlan", inNW (List.mem_of_getElem? (i := 220) (by decide +kernel)) (by decide +kernel)⟩⟩
theorem flX8_27 : FL RX8 27 8 2 := ⟨_, _, _, kc8, by decide, Or.inl (inLW (List.mem_of_getElem? (i := 221) (by decide +kernel)) (by decide +kernel))⟩
theorem fpX8_27 : FP RX8 27 8 2 := ⟨_, _, _, kc8, by decide, rfl, Or.inl (inLW (List.mem_of_getElem? (i := 221) (by decide +kernel)) (by decide +kernel))⟩
theorem flX9_59 : FL RX9 59 8 2 := ⟨_, _, _, kc8, by decide, Or.inr ⟨"TunnelPlan", inNW (List.mem_of_getElem? (i := 222) (by decide +kernel)) (by decide +kernel)⟩⟩
theorem fpX9_59 : FP RX9 59 8 2 := ⟨_, _, _, kc8, by decide, rfl, Or.inr ⟨"TunnelPlan", inNW (List.mem_of_getElem? (i := 222) (by decide +kernel)) (by decide +kernel)⟩⟩
theorem flX7_51 : FL RX7 51 8 2 := ⟨_, _, _, kc8, by decide, Or.inr ⟨"TunnelPlan", inNW (List.mem_of_getElem? (i := 223) (by decide +kernel)) (by decide +kernel)⟩⟩
theorem flX10_145 : FL RX10 145 8 2 := ⟨_, _, _, kc8, by decide, Or.inr ⟨"TunnelPlan", inNW (List.mem_of_getElem? (i := 224) (by decide +kernel)) (by decide +kernel)⟩⟩
theorem fpX10_145 : FP RX10 145 8 2 := ⟨_, _, _, kc8, by decide, rfl, Or.inr ⟨"TunnelPlan", inNW (List.mem_of_getElem? (i := 224) (by decide +kernel)) (by decide +kernel)⟩⟩
theorem flX2_63 : FL RX2 63 8 2 := ⟨_, _, _, kc8, by decide, Or.inr ⟨"TunnelPlan", inNW (List.mem_of_getElem? (i := 225) (by decide +kernel)) (by decide +kernel)⟩⟩
theorem fpX2_63 : FP RX2 63 8 2 := ⟨_, _, _, kc8, by decide, rfl, Or.inr ⟨"TunnelPlan", inNW (List.mem_of_getElem? (i := 225) (by decide +kernel)) (by decide +kernel)⟩⟩
theorem clX10_53 : Cond.classLink RX10 53 RX2 ∈ LW := inLW (List.mem_of_getElem? (i := 233) (by decide +kernel)) (by decide +kernel)
theorem it2 : Cond.instantiable RX2 3 ∈ LW := inLW (List.mem_of_getElem? (i := 234) (by decide +kernel)) (by decide +kernel)
theorem mnX10_55 : Cond.methodLinkNest RX10 55 yX2_init "TunnelPlan" ∈ NW := inNW (List.mem_of_getElem? (i := 235) (by decide +kernel)) (by decide +kernel)
theorem mlX2_3 : Cond.methodLink RX2 3 objectInit ∈ LW := inLW (List.mem_of_getElem? (i := 238) (by decide +kernel)) (by decide +kernel)
theorem flX2_9 : FL RX2 9 2 0 := ⟨_, _, _, kc2, by decide, Or.inl (inLW (List.mem_of_getElem? (i := 239) (by decide +kernel)) (by decide +kernel))⟩
theorem ffX2_9 : FF RX2 9 2 0 := ⟨_, _, _, kc2, by decide, rfl, rfl, inLW (List.mem_of_getElem? (i := 239) (by decide +kernel)) (by decide +kernel)⟩
theorem flX7_32 : FL RX7 32 2 0 := ⟨_, _, _, kc2, by decide, Or.inr ⟨"TunnelPlan", inNW (List.mem_of_getElem? (i := 240) (by decide +kernel)) (by decide +kernel)⟩⟩
theorem flX2_15 : FL RX2 15 2 1 := ⟨_, _, _, kc2, by decide, Or.inl (inLW (List.mem_of_getElem? (i := 241) (by decide +kernel)) (by decide +kernel))⟩
theorem ffX2_15 : FF RX2 15 2 1 := ⟨_, _, _, kc2, by decide, rfl, rfl, inLW (List.mem_of_getElem? (i := 241) (by decide +kernel)) (by decide +kernel)⟩
theorem flX2_19 : FL RX2 19 2 2 := ⟨_, _, _, kc2, by decide, Or.inl (inLW (List.mem_of_getElem? (i := 242) (by decide +kernel)) (by decide +kernel))⟩
theorem ffX2_19 : FF RX2 19 2 2 := ⟨_, _, _, kc2, by decide, rfl, rfl, inLW (List.mem_of_getElem? (i := 242) (by decide +kernel)) (by decide +kernel)⟩
theorem flX3_36 : FL RX3 36 2 2 := ⟨_, _, _, kc2, by decide, Or.inr ⟨"TunnelPlan", inNW (List.mem_of_getElem? (i := 243) (by decide +kernel)) (by decide +kernel)⟩⟩
theorem flX9_43 : FL RX9 43 2 2 := ⟨_, _, _, kc2, by decide, Or.inr ⟨"TunnelPlan", inNW (List.mem_of_getElem? (i := 244) (by decide +kernel)) (by decide +kernel)⟩⟩
theorem flX7_47 : FL RX7 47 2 2 := ⟨_, _, _, kc2, by decide, Or.inr ⟨"TunnelPlan", inNW (List.mem_of_getElem? (i := 245) (by decide +kernel)) (by decide +kernel)⟩⟩
theorem clX10_62 : Cond.classLink RX10 62 RX3 ∈ LW := inLW (List.mem_of_getElem? (i := 253) (by decide +kernel)) (by decide +kernel)
theorem it3 : Cond.instantiable RX3 9 ∈ LW := inLW (List.mem_of_getElem? (i := 254) (by decide +kernel)) (by decide +kernel)
theorem mnX10_64 : Cond.methodLinkNest RX10 64 yX3_init "TunnelPlan" ∈ NW := inNW (List.mem_of_getElem? (i := 255) (by decide +kernel)) (by decide +kernel)
theorem mlX3_3 : Cond.methodLink RX3 3 objectInit ∈ LW := inLW (List.mem_of_getElem? (i := 258) (by decide +kernel)) (by decide +kernel)
theorem clX3_9 : Cond.classLink RX3 9 RX8 ∈ LW := inLW (List.mem_of_getElem? (i := 259) (by decide +kernel)) (by decide +kernel)
theorem mnX3_11 : Cond.methodLinkNest RX3 11 yX8_init "TunnelPlan" ∈ NW := inNW (List.mem_of_getElem? (i := 260) (by decide +kernel)) (by decide +kernel)
theorem clX3_37 : Cond.classLink RX3 37 RX2 ∈ LW := inLW (List.mem_of_getElem? (i := 261) (by decide +kernel)) (by decide +kernel)
theorem mnX3_42 : Cond.methodLinkNest RX3 42 yX2_init "TunnelPlan" ∈ NW := inNW (List.mem_of_getElem? (i := 262) (by decide +kernel)) (by decide +kernel)
theorem flX3_28 : FL RX3 28 3 0 := ⟨_, _, _, kc3, by decide, Or.inl (inLW (List.mem_of_getElem? (i := 263) (by decide +kernel)) (by decide +kernel))⟩
theorem ffX3_28 : FF RX3 28 3 0 := ⟨_, _, _, kc3, by decide, rfl, rfl, inLW (List.mem_of_getElem? (i := 263) (by decide +kernel)) (by decide +kernel)⟩
theorem flX3_32 : FL RX3 32 3 1 := ⟨_, _, _, kc3, by decide, Or.inl (inLW (List.mem_of_getElem? (i := 264) (by decide +kernel)) (by decide +kernel))⟩
theorem ffX3_32 : FF RX3 32 3 1 := ⟨_, _, _, kc3, by decide, rfl, rfl, inLW (List.mem_of_getElem? (i := 264) (by decide +kernel)) (by decide +kernel)⟩
theorem flX3_41 : FL RX3 41 3 2 := ⟨_, _, _, kc3, by decide, Or.inl (inLW (List.mem_of_getElem? (i := 265) (by decide +kernel)) (by decide +kernel))⟩
theorem ffX3_41 : FF RX3 41 3 2 := ⟨_, _, _, kc3, by decide, rfl, rfl, inLW (List.mem_of_getElem? (i := 265) (by decide +kernel)) (by decide +kernel)⟩
theorem flX3_12 : FL RX3 12 3 3 := ⟨_, _, _, kc3, by decide, Or.inl (inLW (List.mem_of_getElem? (i := 266) (by decide +kernel)) (by decide +kernel))⟩
theorem ffX3_12 : FF RX3 12 3 3 := ⟨_, _, _, kc3, by decide, rfl, rfl, inLW (List.mem_of_getElem? (i := 266) (by decide +kernel)) (by decide +kernel)⟩
theorem flX3_45 : FL RX3 45 3 4 := ⟨_, _, _, kc3, by decide, Or.inl (inLW (List.mem_of_getElem? (i := 267) (by decide +kernel)) (by decide +kernel))⟩
theorem ffX3_45 : FF RX3 45 3 4 := ⟨_, _, _, kc3, by decide, rfl, rfl, inLW (List.mem_of_getElem? (i := 267) (by decide +kernel)) (by decide +kernel)⟩
theorem flX3_18 : FL RX3 18 3 5 := ⟨_, _, _, kc3, by decide, Or.inl (inLW (List.mem_of_getElem? (i := 268) (by decide +kernel)) (by decide +kernel))⟩
theorem ffX3_18 : FF RX3 18 3 5 := ⟨_, _, _, kc3, by decide, rfl, rfl, inLW (List.mem_of_getElem? (i := 268) (by decide +kernel)) (by decide +kernel)⟩
theorem flX3_22 : FL RX3 22 3 6 := ⟨_, _, _, kc3, by decide, Or.inl (inLW (List.mem_of_getElem? (i := 269) (by decide +kernel)) (by decide +kernel))⟩
theorem ffX3_22 : FF RX3 22 3 6 := ⟨_, _, _, kc3, by decide, rfl, rfl, inLW (List.mem_of_getElem? (i := 269) (by decide +kernel)) (by decide +kernel)⟩
theorem flX3_25 : FL RX3 25 3 7 := ⟨_, _, _, kc3, by decide, Or.inl (inLW (List.mem_of_getElem? (i := 270) (by decide +kernel)) (by decide +kernel))⟩
theorem ffX3_25 : FF RX3 25 3 7 := ⟨_, _, _, kc3, by decide, rfl, rfl, inLW (List.mem_of_getElem? (i := 270) (by decide +kernel)) (by decide +kernel)⟩
theorem flX3_113 : FL RX3 113 3 8 := ⟨_, _, _, kc3, by decide, Or.inl (inLW (List.mem_of_getElem? (i := 271) (by decide +kernel)) (by decide +kernel))⟩
theorem fpX3_113 : FP RX3 113 3 8 := ⟨_, _, _, kc3, by decide, rfl, Or.inl (inLW (List.mem_of_getElem? (i := 271) (by decide +kernel)) (by decide +kernel))⟩
theorem clX10_71 : Cond.classLink RX10 71 RX0 ∈ LW := inLW (List.mem_of_getElem? (i := 291) (by decide +kernel)) (by decide +kernel)
theorem it0 : Cond.instantiable RX0 3 ∈ LW := inLW (List.mem_of_getElem? (i := 292) (by decide +kernel)) (by decide +kernel)
theorem mnX10_73 : Cond.methodLinkNest RX10 73 yX0_init "TunnelPlan" ∈ NW := inNW (List.mem_of_getElem? (i := 293) (by decide +kernel)) (by decide +kernel)
theorem mlX0_3 : Cond.methodLink RX0 3 objectInit ∈ LW := inLW (List.mem_of_getElem? (i := 296) (by decide +kernel)) (by decide +kernel)
theorem clX0_9 : Cond.classLink RX0 9 RX8 ∈ LW := inLW (List.mem_of_getElem? (i := 297) (by decide +kernel)) (by decide +kernel)
theorem mnX0_17 : Cond.methodLinkNest RX0 17 yX8_init "TunnelPlan" ∈ NW := inNW (List.mem_of_getElem? (i := 299) (by decide +kernel)) (by decide +kernel)
theorem flX0_11 : FL RX0 11 0 0 := ⟨_, _, _, kc0, by decide, Or.inl (inLW (List.mem_of_getElem? (i := 300) (by decide +kernel)) (by decide +kernel))⟩
theorem ffX0_11 : FF RX0 11 0 0 := ⟨_, _, _, kc0, by decide, rfl, rfl, inLW (List.mem_of_getElem? (i := 300) (by decide +kernel)) (by decide +kernel)⟩
theorem flX0_22 : FL RX0 22 0 1 := ⟨_, _, _, kc0, by decide, Or.inl (inLW (List.mem_of_getElem? (i := 301) (by decide +kernel)) (by decide +kernel))⟩
theorem fpX0_22 : FP RX0 22 0 1 := ⟨_, _, _, kc0, by decide, rfl, Or.inl (inLW (List.mem_of_getElem? (i := 301) (by decide +kernel)) (by decide +kernel))⟩
theorem flX0_18 : FL RX0 18 0 2 := ⟨_, _, _, kc0, by decide, Or.inl (inLW (List.mem_of_getElem? (i := 302) (by decide +kernel)) (by decide +kernel))⟩
theorem fpX0_18 : FP RX0 18 0 2 := ⟨_, _, _, kc0, by decide, rfl, Or.inl (inLW (List.mem_of_getElem? (i := 302) (by decide +kernel)) (by decide +kernel))⟩
theorem flX10_167 : FL RX10 167 0 2 := ⟨_, _, _, kc0, by decide, Or.inr ⟨"TunnelPlan", inNW (List.mem_of_getElem? (i := 303) (by decide +kernel)) (by decide +kernel)⟩⟩
theorem clX10_78 : Cond.classLink RX10 78 RX7 ∈ LW := inLW (List.mem_of_getElem? (i := 311) (by decide +kernel)) (by decide +kernel)
theorem it7 : Cond.instantiable RX7 8 ∈ LW := inLW (List.mem_of_getElem? (i := 312) (by decide +kernel)) (by decide +kernel)
theorem mnX10_80 : Cond.methodLinkNest RX10 80 yX7_init "TunnelPlan" ∈ NW := inNW (List.mem_of_getElem? (i := 313) (by decide +kernel)) (by decide +kernel)
theorem mlX7_3 : Cond.methodLink RX7 3 objectInit ∈ LW := inLW (List.mem_of_getElem? (i := 316) (by decide +kernel)) (by decide +kernel)
theorem flX7_9 : FL RX7 9 7 0 := ⟨_, _, _, kc7, by decide, Or.inl (inLW (List.mem_of_getElem? (i := 317) (by decide +kernel)) (by decide +kernel))⟩
theorem ffX7_9 : FF RX7 9 7 0 := ⟨_, _, _, kc7, by decide, rfl, rfl, inLW (List.mem_of_getElem? (i := 317) (by decide +kernel)) (by decide +kernel)⟩
theorem flX7_15 : FL RX7 15 7 1 := ⟨_, _, _, kc7, by decide, Or.inl (inLW (List.mem_of_getElem? (i := 318) (by decide +kernel)) (by decide +kernel))⟩
theorem ffX7_15 : FF RX7 15 7 1 := ⟨_, _, _, kc7, by decide, rfl, rfl, inLW (List.mem_of_getElem? (i := 318) (by decide +kernel)) (by decide +kernel)⟩
theorem flX7_18 : FL RX7 18 7 2 := ⟨_, _, _, kc7, by decide, Or.inl (inLW (List.mem_of_getElem? (i := 319) (by decide +kernel)) (by decide +kernel))⟩
theorem ffX7_18 : FF RX7 18 7 2 := ⟨_, _, _, kc7, by decide, rfl, rfl, inLW (List.mem_of_getElem? (i := 319) (by decide +kernel)) (by decide +kernel)⟩
theorem flX7_21 : FL RX7 21 7 3 := ⟨_, _, _, kc7, by decide, Or.inl (inLW (List.mem_of_getElem? (i := 320) (by decide +kernel)) (by decide +kernel))⟩
theorem ffX7_21 : FF RX7 21 7 3 := ⟨_, _, _, kc7, by decide, rfl, rfl, inLW (List.mem_of_getElem? (i := 320) (by decide +kernel)) (by decide +kernel)⟩
theorem flX7_24 : FL RX7 24 7 4 := ⟨_, _, _, kc7, by decide, Or.inl (inLW (List.mem_of_getElem? (i := 321) (by decide +kernel)) (by decide +kernel))⟩
theorem ffX7_24 : FF RX7 24 7 4 := ⟨_, _, _, kc7, by decide, rfl, rfl, inLW (List.mem_of_getElem? (i := 321) (by decide +kernel)) (by decide +kernel)⟩
theorem flX7_28 : FL RX7 28 7 5 := ⟨_, _, _, kc7, by decide, Or.inl (inLW (List.mem_of_getElem? (i := 322) (by decide +kernel)) (by decide +kernel))⟩
theorem fpX7_28 : FP RX7 28 7 5 := ⟨_, _, _, kc7, by decide, rfl, Or.inl (inLW (List.mem_of_getElem? (i := 322) (by decide +kernel)) (by decide +kernel))⟩
theorem flX10_170 : FL RX10 170 7 5 := ⟨_, _, _, kc7, by decide, Or.inr ⟨"TunnelPlan", inNW (List.mem_of_getElem? (i := 323) (by decide +kernel)) (by decide +kernel)⟩⟩
theorem flX7_66 : FL RX7 66 7 6 := ⟨_, _, _, kc7, by decide, Or.inl (inLW (List.mem_of_getElem? (i := 324) (by decide +kernel)) (by decide +kernel))⟩
theorem fpX7_66 : FP RX7 66 7 6 := ⟨_, _, _, kc7, by decide, rfl, Or.inl (inLW (List.mem_of_getElem? (i := 324) (by decide +kernel)) (by decide +kernel))⟩
theorem flX10_384 : FL RX10 384 7 6 := ⟨_, _, _, kc7, by decide, Or.inr ⟨"TunnelPlan", inNW (List.mem_of_getElem? (i := 325) (by decide +kernel)) (by decide +kernel)⟩⟩
theorem flX7_70 : FL RX7 70 7 7 := ⟨_, _, _, kc7, by decide, Or.inl (inLW (List.mem_of_getElem? (i := 326) (by decide +kernel)) (by decide +kernel))⟩
theorem fpX7_70 : FP RX7 70 7 7 := ⟨_, _, _, kc7, by decide, rfl, Or.inl (inLW (List.mem_of_getElem? (i := 326) (by decide +kernel)) (by decide +kernel))⟩
theorem flX10_393 : FL RX10 393 7 7 := ⟨_, _, _, kc7, by decide, Or.inr ⟨"TunnelPlan", inNW (List.mem_of_getElem? (i := 327) (by decide +kernel)) (by decide +kernel)⟩⟩
theorem ac_boolean : Cond.arrayClass .boolean ∈ LW := inLW (List.mem_of_getElem? (i := 345) (by decide +kernel)) (by decide +kernel)
theorem flX10_9 : FL RX10 9 10 0 := ⟨_, _, _, kc10, by decide, Or.inl (inLW (List.mem_of_getElem? (i := 346) (by decide +kernel)) (by decide +kernel))⟩
theorem ffX10_9 : FF RX10 9 10 0 := ⟨_, _, _, kc10, by decide, rfl, rfl, inLW (List.mem_of_getElem? (i := 346) (by decide +kernel)) (by decide +kernel)⟩
theorem flX10_94 : FL RX10 94 10 1 := ⟨_, _, _, kc10, by decide, Or.inl (inLW (List.mem_of_getElem? (i := 347) (by decide +kernel)) (by decide +kernel))⟩
theorem fpX10_94 : FP RX10 94 10 1 := ⟨_, _, _, kc10, by decide, rfl, Or.inl (inLW (List.mem_of_getElem? (i := 347) (by decide +kernel)) (by decide +kernel))⟩
theorem flX10_13 : FL RX10 13 10 2 := ⟨_, _, _, kc10, by decide, Or.inl (inLW (List.mem_of_getElem? (i := 348) (by decide +kernel)) (by decide +kernel))⟩
theorem fpX10_13 : FP RX10 13 10 2 := ⟨_, _, _, kc10, by decide, rfl, Or.inl (inLW (List.mem_of_getElem? (i := 348) (by decide +kernel)) (by decide +kernel))⟩
theorem flX10_115 : FL RX10 115 10 3 := ⟨_, _, _, kc10, by decide, Or.inl (inLW (List.mem_of_getElem? (i := 349) (by decide +kernel)) (by decide +kernel))⟩
theorem fpX10_115 : FP RX10 115 10 3 := ⟨_, _, _, kc10, by decide, rfl, Or.inl (inLW (List.mem_of_getElem? (i := 349) (by decide +kernel)) (by decide +kernel))⟩
theorem flX10_171 : FL RX10 171 10 4 := ⟨_, _, _, kc10, by decide, Or.inl (inLW (List.mem_of_getElem? (i := 350) (by decide +kernel)) (by decide +kernel))⟩
theorem fpX10_171 : FP RX10 171 10 4 := ⟨_, _, _, kc10, by decide, rfl, Or.inl (inLW (List.mem_of_getElem? (i := 350) (by decide +kernel)) (by decide +kernel))⟩
theorem flX10_174 : FL RX10 174 10 5 := ⟨_, _, _, kc10, by decide, Or.inl (inLW (List.mem_of_getElem? (i := 351) (by decide +kernel)) (by decide +kernel))⟩
theorem fpX10_174 : FP RX10 174 10 5 := ⟨_, _, _, kc10, by decide, rfl, Or.inl (inLW (List.mem_of_getElem? (i := 351) (by decide +kernel)) (by decide +kernel))⟩
theorem flX10_20 : FL RX10 20 10 6 := ⟨_, _, _, kc10, by decide, Or.inl (inLW (List.mem_of_getElem? (i := 352) (by decide +kernel)) (by decide +kernel))⟩
theorem ffX10_20 : FF RX10 20 10 6 := ⟨_, _, _, kc10, by decide, rfl, rfl, inLW (List.mem_of_getElem? (i := 352) (by decide +kernel)) (by decide +kernel)⟩
theorem flX10_24 : FL RX10 24 10 7 := ⟨_, _, _, kc10, by decide, Or.inl (inLW (List.mem_of_getElem? (i := 353) (by decide +kernel)) (by decide +kernel))⟩
theorem ffX10_24 : FF RX10 24 10 7 := ⟨_, _, _, kc10, by decide, rfl, rfl, inLW (List.mem_of_getElem? (i := 353) (by decide +kernel)) (by decide +kernel)⟩
theorem flX10_30 : FL RX10 30 10 8 := ⟨_, _, _, kc10, by decide, Or.inl (inLW (List.mem_of_getElem? (i := 354) (by decide +kernel)) (by decide +kernel))⟩
theorem ffX10_30 : FF RX10 30 10 8 := ⟨_, _, _, kc10, by decide, rfl, rfl, inLW (List.mem_of_getElem? (i := 354) (by decide +kernel)) (by decide +kernel)⟩
theorem flX10_39 : FL RX10 39 10 9 := ⟨_, _, _, kc10, by decide, Or.inl (inLW (List.mem_of_getElem? (i := 355) (by decide +kernel)) (by decide +kernel))⟩
theorem ffX10_39 : FF RX10 39 10 9 := ⟨_, _, _, kc10, by decide, rfl, rfl, inLW (List.mem_of_getElem? (i := 355) (by decide +kernel)) (by decide +kernel)⟩
theorem flX10_46 : FL RX10 46 10 10 := ⟨_, _, _, kc10, by decide, Or.inl (inLW (List.mem_of_getElem? (i := 356) (by decide +kernel)) (by decide +kernel))⟩
theorem ffX10_46 : FF RX10 46 10 10 := ⟨_, _, _, kc10, by decide, rfl, rfl, inLW (List.mem_of_getElem? (i := 356) (by decide +kernel)) (by decide +kernel)⟩
theorem flX10_50 : FL RX10 50 10 11 := ⟨_, _, _, kc10, by decide, Or.inl (inLW (List.mem_of_getElem? (i := 357) (by decide +kernel)) (by decide +kernel))⟩
theorem ffX10_50 : FF RX10 50 10 11 := ⟨_, _, _, kc10, by decide, rfl, rfl, inLW (List.mem_of_getElem? (i := 357) (by decide +kernel)) (by decide +kernel)⟩
theorem flX10_58 : FL RX10 58 10 12 := ⟨_, _, _, kc10, by decide, Or.inl (inLW (List.mem_of_getElem? (i := 358) (by decide +kernel)) (by decide +kernel))⟩
theorem ffX10_58 : FF RX10 58 10 12 := ⟨_, _, _, kc10, by decide, rfl, rfl, inLW (List.mem_of_getElem? (i := 358) (by decide +kernel)) (by decide +kernel)⟩
theorem flX10_67 : FL RX10 67 10 13 := ⟨_, _, _, kc10, by decide, Or.inl (inLW (List.mem_of_getElem? (i := 359) (by decide +kernel)) (by decide +kernel))⟩
theorem ffX10_67 : FF RX10 67 10 13 := ⟨_, _, _, kc10, by decide, rfl, rfl, inLW (List.mem_of_getElem? (i := 359) (by decide +kernel)) (by decide +kernel)⟩
theorem flX10_74 : FL RX10 74 10 14 := ⟨_, _, _, kc10, by decide, Or.inl (inLW (List.mem_of_getElem? (i := 360) (by decide +kernel)) (by decide +kernel))⟩
theorem ffX10_74 : FF RX10 74 10 14 := ⟨_, _, _, kc10, by decide, rfl, rfl, inLW (List.mem_of_getElem? (i := 360) (by decide +kernel)) (by decide +kernel)⟩
theorem flX10_81 : FL RX10 81 10 15 := ⟨_, _, _, kc10, by decide, Or.inl (inLW (List.mem_of_getElem? (i := 361) (by decide +kernel)) (by decide +kernel))⟩
theorem ffX10_81 : FF RX10 81 10 15 := ⟨_, _, _, kc10, by decide, rfl, rfl, inLW (List.mem_of_getElem? (i := 361) (by decide +kernel)) (by decide +kernel)⟩
theorem flX10_128 : FL RX10 128 10 16 := ⟨_, _, _, kc10, by decide, Or.inl (inLW (List.mem_of_getElem? (i := 362) (by decide +kernel)) (by decide +kernel))⟩
theorem fpX10_128 : FP RX10 128 10 16 := ⟨_, _, _, kc10, by decide, rfl, Or.inl (inLW (List.mem_of_getElem? (i := 362) (by decide +kernel)) (by decide +kernel))⟩
theorem flX10_85 : FL RX10 85 10 17 := ⟨_, _, _, kc10, by decide, Or.inl (inLW (List.mem_of_getElem? (i := 363) (by decide +kernel)) (by decide +kernel))⟩
theorem ffX10_85 : FF RX10 85 10 17 := ⟨_, _, _, kc10, by decide, rfl, rfl, inLW (List.mem_of_getElem? (i := 363) (by decide +kernel)) (by decide +kernel)⟩
theorem flX10_88 : FL RX10 88 10 18 := ⟨_, _, _, kc10, by decide, Or.inl (inLW (List.mem_of_getElem? (i := 364) (by decide +kernel)) (by decide +kernel))⟩
theorem ffX10_88 : FF RX10 88 10 18 := ⟨_, _, _, kc10, by decide, rfl, rfl, inLW (List.mem_of_getElem? (i := 364) (by decide +kernel)) (by decide +kernel)⟩
theorem flX10_91 : FL RX10 91 10 19 := ⟨_, _, _, kc10, by decide, Or.inl (inLW (List.mem_of_getElem? (i := 365) (by decide +kernel)) (by decide +kernel))⟩
theorem ffX10_91 : FF RX10 91 10 19 := ⟨_, _, _, kc10, by decide, rfl, rfl, inLW (List.mem_of_getElem? (i := 365) (by decide +kernel)) (by decide +kernel)⟩
theorem mlL_103 : Cond.methodLink RL 103 yX10_feed ∈ LW := inLW (List.mem_of_getElem? (i := 407) (by decide +kernel)) (by decide +kernel)
theorem mlX10_97 : Cond.methodLink RX10 97 yX10_putBytes ∈ LW := inLW (List.mem_of_getElem? (i := 411) (by decide +kernel)) (by decide +kernel)
theorem mlL_118 : Cond.methodLink RL 118 yX10_fault ∈ LW := inLW (List.mem_of_getElem? (i := 415) (by decide +kernel)) (by decide +kernel)
theorem mlL_162 : Cond.methodLink RL 162 yX10_undo ∈ LW := inLW (List.mem_of_getElem? (i := 419) (by decide +kernel)) (by decide +kernel)
theorem mnX10_312 : Cond.methodLinkNest RX10 312 yX0_takeBack "TunnelPlan" ∈ NW := inNW (List.mem_of_getElem? (i := 423) (by decide +kernel)) (by decide +kernel)
theorem mnX0_25 : Cond.methodLinkNest RX0 25 yX8_copyFrom "TunnelPlan" ∈ NW := inNW (List.mem_of_getElem? (i := 427) (by decide +kernel)) (by decide +kernel)
theorem mlL_172 : Cond.methodLink RL 172 yX10_toBreak ∈ LW := inLW (List.mem_of_getElem? (i := 431) (by decide +kernel)) (by decide +kernel)
theorem mnX10_315 : Cond.methodLinkNest RX10 315 yX3_makePlan "TunnelPlan" ∈ NW := inNW (List.mem_of_getElem? (i := 435) (by decide +kernel)) (by decide +kernel)
theorem mnX3_51 : Cond.methodLinkNest RX3 51 yX8_copyFrom "TunnelPlan" ∈ NW := inNW (List.mem_of_getElem? (i := 439) (by decide +kernel)) (by decide +kernel)
theorem mnX3_55 : Cond.methodLinkNest RX3 55 yX2_drop "TunnelPlan" ∈ NW := inNW (List.mem_of_getElem? (i := 440) (by decide +kernel)) (by decide +kernel)
theorem mlX3_65 : Cond.methodLink RX3 65 yX3_firstOf ∈ LW := inLW (List.mem_of_getElem? (i := 444) (by decide +kernel)) (by decide +kernel)
theorem koX3_76 : Cond.constant RX3 76 (1000000) ∈ LW := inLW (List.mem_of_getElem? (i := 448) (by decide +kernel)) (by decide +kernel)
theorem mnX3_72 : Cond.methodLinkNest RX3 72 yX2_bestWay "TunnelPlan" ∈ NW := inNW (List.mem_of_getElem? (i := 449) (by decide +kernel)) (by decide +kernel)
theorem mlX2_97 : Cond.methodLink RX2 97 yX2_fitting ∈ LW := inLW (List.mem_of_getElem? (i := 453) (by decide +kernel)) (by decide +kernel)
theorem mlX2_75 : Cond.methodLink RX2 75 yX2_openTo ∈ LW := inLW (List.mem_of_getElem? (i := 457) (by decide +kernel)) (by decide +kernel)
theorem mlX2_38 : Cond.methodLink RX2 38 yX2_poolWithout ∈ LW := inLW (List.mem_of_getElem? (i := 461) (by decide +kernel)) (by decide +kernel)
theorem mlX2_100 : Cond.methodLink RX2 100 yX2_showPools ∈ LW := inLW (List.mem_of_getElem? (i := 465) (by decide +kernel)) (by decide +kernel)
theorem mnX2_104 : Cond.methodLinkNest RX2 104 yX6_bestOf "TunnelPlan" ∈ NW := inNW (List.mem_of_getElem? (i := 469) (by decide +kernel)) (by decide +kernel)
theorem mlX6_56 : Cond.methodLink RX6 56 yX6_leastMetric ∈ LW := inLW (List.mem_of_getElem? (i := 473) (by decide +kernel)) (by decide +kernel)
theorem koX6_43 : Cond.constant RX6 43 (1000000) ∈ LW := inLW (List.mem_of_getElem? (i := 477) (by decide +kernel)) (by decide +kernel)
theorem mlX6_47 : Cond.methodLink RX6 47 arraycopyName ∈ LW := inLW (List.mem_of_getElem? (i := 478) (by decide +kernel)) (by decide +kernel)
theorem mlX6_60 : Cond.methodLink RX6 60 yX6_spanBestWays ∈ LW := inLW (List.mem_of_getElem? (i := 481) (by decide +kernel)) (by decide +kernel)
theorem koX6_67 : Cond.constant RX6 67 (-1000000) ∈ LW := inLW (List.mem_of_getElem? (i := 485) (by decide +kernel)) (by decide +kernel)
theorem mlX6_68 : Cond.methodLink RX6 68 Lib.Math.min.name ∈ LW := inLW (List.mem_of_getElem? (i := 486) (by decide +kernel)) (by decide +kernel)
theorem mlX6_74 : Cond.methodLink RX6 74 Lib.Math.max.name ∈ LW := inLW (List.mem_of_getElem? (i := 489) (by decide +kernel)) (by decide +kernel)
theorem mlX6_64 : Cond.methodLink RX6 64 yX6_firstStep ∈ LW := inLW (List.mem_of_getElem? (i := 492) (by decide +kernel)) (by decide +kernel)
theorem mnX10_324 : Cond.methodLinkNest RX10 324 yX3_fewestToBreak "TunnelPlan" ∈ NW := inNW (List.mem_of_getElem? (i := 496) (by decide +kernel)) (by decide +kernel)
theorem mlX3_83 : Cond.methodLink RX3 83 yX3_movers ∈ LW := inLW (List.mem_of_getElem? (i := 500) (by decide +kernel)) (by decide +kernel)
theorem mlX3_96 : Cond.methodLink RX3 96 yX3_endFits ∈ LW := inLW (List.mem_of_getElem? (i := 504) (by decide +kernel)) (by decide +kernel)
theorem mlX3_100 : Cond.methodLink RX3 100 yX3_countTaken ∈ LW := inLW (List.mem_of_getElem? (i := 508) (by decide +kernel)) (by decide +kernel)
theorem mnX3_119 : Cond.methodLinkNest RX3 119 yX2_taken "TunnelPlan" ∈ NW := inNW (List.mem_of_getElem? (i := 512) (by decide +kernel)) (by decide +kernel)
theorem mlX3_103 : Cond.methodLink RX3 103 yX3_book ∈ LW := inLW (List.mem_of_getElem? (i := 516) (by decide +kernel)) (by decide +kernel)
theorem mlX3_87 : Cond.methodLink RX3 87 yJ6_bitCount_0f7a4 ∈ LW := inLW (List.mem_of_getElem? (i := 520) (by decide +kernel)) (by decide +kernel)
theorem koJ6_265 : Cond.constant RJ6 265 (1431655765) ∈ LW := inLW (List.mem_of_getElem? (i := 523) (by decide +kernel)) (by decide +kernel)
theorem koJ6_266 : Cond.constant RJ6 266 (858993459) ∈ LW := inLW (List.mem_of_getElem? (i := 524) (by decide +kernel)) (by decide +kernel)
theorem koJ6_267 : Cond.constant RJ6 267 (252645135) ∈ LW := inLW (List.mem_of_getElem? (i := 525) (by decide +kernel)) (by decide +kernel)
theorem mlX3_92 : Cond.methodLink RX3 92 yX3_canMove ∈ LW := inLW (List.mem_of_getElem? (i := 526) (by decide +kernel)) (by decide +kernel)
theorem mlX3_116 : Cond.methodLink RX3 116 yX3_moveRest ∈ LW := inLW (List.mem_of_getElem? (i := 530) (by decide +kernel)) (by decide +kernel)
theorem mlX3_121 : Cond.methodLink RX3 121 yX3_mayMove ∈ LW := inLW (List.mem_of_getElem? (i := 534) (by decide +kernel)) (by decide +kernel)
theorem mlL_202 : Cond.methodLink RL 202 yX10_forget ∈ LW := inLW (List.mem_of_getElem? (i := 538) (by decide +kernel)) (by decide +kernel)
theorem mnX10_127 : Cond.methodLinkNest RX10 127 yX7_clear "TunnelPlan" ∈ NW := inNW (List.mem_of_getElem? (i := 542) (by decide +kernel)) (by decide +kernel)
theorem mlL_215 : Cond.methodLink RL 215 yX10_image ∈ LW := inLW (List.mem_of_getElem? (i := 546) (by decide +kernel)) (by decide +kernel)
theorem mnX10_185 : Cond.methodLinkNest RX10 185 yX8_copyFrom "TunnelPlan" ∈ NW := inNW (List.mem_of_getElem? (i := 550) (by decide +kernel)) (by decide +kernel)
theorem mnX10_419 : Cond.methodLinkNest RX10 419 yX0_copyFrom "TunnelPlan" ∈ NW := inNW (List.mem_of_getElem? (i := 551) (by decide +kernel)) (by decide +kernel)
theorem mnX10_422 : Cond.methodLinkNest RX10 422 yX7_copyFrom "TunnelPlan" ∈ NW := inNW (List.mem_of_getElem? (i := 555) (by decide +kernel)) (by decide +kernel)
theorem mlL_219 : Cond.methodLink RL 219 yX10_restore ∈ LW := inLW (List.mem_of_getElem? (i := 559) (by decide +kernel)) (by decide +kernel)
theorem mlL_108 : Cond.methodLink RL 108 yL_network ∈ LW := inLW (List.mem_of_getElem? (i := 563) (by decide +kernel)) (by decide +kernel)
theorem clL_13 : Cond.classLink RL 13 "java/lang/IllegalArgumentException" ∈ LW := inLW (List.mem_of_getElem? (i := 566) (by decide +kernel)) (by decide +kernel)
theorem mlL_7 : Cond.methodLink RL 7 yX10_network ∈ LW := inLW (List.mem_of_getElem? (i := 567) (by decide +kernel)) (by decide +kernel)
theorem clX10_101 : Cond.classLink RX10 101 "java/lang/IllegalArgumentException" ∈ LW := inLW (List.mem_of_getElem? (i := 571) (by decide +kernel)) (by decide +kernel)
theorem mnX10_108 : Cond.methodLinkNest RX10 108 yX5_read "TunnelPlan" ∈ NW := inNW (List.mem_of_getElem? (i := 637) (by decide +kernel)) (by decide +kernel)
theorem mlX5_19 : Cond.methodLink RX5 19 Lib.Math.min.name ∈ LW := inLW (List.mem_of_getElem? (i := 641) (by decide +kernel)) (by decide +kernel)
theorem mnX5_34 : Cond.methodLinkNest RX5 34 yX4_clear "TunnelPlan" ∈ NW := inNW (List.mem_of_getElem? (i := 642) (by decide +kernel)) (by decide +kernel)
theorem mlX5_39 : Cond.methodLink RX5 39 yX5_next ∈ LW := inLW (List.mem_of_getElem? (i := 646) (by decide +kernel)) (by decide +kernel)
theorem mlX5_130 : Cond.methodLink RX5 130 yX5_isBlank ∈ LW := inLW (List.mem_of_getElem? (i := 650) (by decide +kernel)) (by decide +kernel)
theorem mlX5_134 : Cond.methodLink RX5 134 yX5_endOfRow ∈ LW := inLW (List.mem_of_getElem? (i := 653) (by decide +kernel)) (by decide +kernel)
theorem mlX5_138 : Cond.methodLink RX5 138 yX5_valueOfRow ∈ LW := inLW (List.mem_of_getElem? (i := 657) (by decide +kernel)) (by decide +kernel)
theorem koX5_142 : Cond.constant RX5 142 (1000000) ∈ LW := inLW (List.mem_of_getElem? (i := 661) (by decide +kernel)) (by decide +kernel)
theorem mlX5_44 : Cond.methodLink RX5 44 yX5_isWord ∈ LW := inLW (List.mem_of_getElem? (i := 663) (by decide +kernel)) (by decide +kernel)
theorem mlX5_143 : Cond.methodLink RX5 143 yJ0_length_8abf5 ∈ LW := inLW (List.mem_of_getElem? (i := 667) (by decide +kernel)) (by decide +kernel)
theorem mlX5_147 : Cond.methodLink RX5 147 yJ0_charAt_5068e ∈ LW := inLW (List.mem_of_getElem? (i := 677) (by decide +kernel)) (by decide +kernel)
theorem mlX5_48 : Cond.methodLink RX5 48 yX5_number ∈ LW := inLW (List.mem_of_getElem? (i := 715) (by decide +kernel)) (by decide +kernel)
theorem mlX5_76 : Cond.methodLink RX5 76 yX5_flag ∈ LW := inLW (List.mem_of_getElem? (i := 719) (by decide +kernel)) (by decide +kernel)
theorem mlX5_126 : Cond.methodLink RX5 126 yX5_accept ∈ LW := inLW (List.mem_of_getElem? (i := 723) (by decide +kernel)) (by decide +kernel)
theorem mlX5_53 : Cond.methodLink RX5 53 yX5_semicolon ∈ LW := inLW (List.mem_of_getElem? (i := 727) (by decide +kernel)) (by decide +kernel)
theorem mlX5_64 : Cond.methodLink RX5 64 yX5_readLink ∈ LW := inLW (List.mem_of_getElem? (i := 732) (by decide +kernel)) (by decide +kernel)
theorem mlX5_84 : Cond.methodLink RX5 84 yX5_node ∈ LW := inLW (List.mem_of_getElem? (i := 736) (by decide +kernel)) (by decide +kernel)
theorem mlX5_73 : Cond.methodLink RX5 73 yX5_readTunnel ∈ LW := inLW (List.mem_of_getElem? (i := 741) (by decide +kernel)) (by decide +kernel)
theorem mnX10_118 : Cond.methodLinkNest RX10 118 yX4_copyFrom "TunnelPlan" ∈ NW := inNW (List.mem_of_getElem? (i := 745) (by decide +kernel)) (by decide +kernel)
theorem mlX4_58 : Cond.methodLink RX4 58 arraycopyName ∈ LW := inLW (List.mem_of_getElem? (i := 749) (by decide +kernel)) (by decide +kernel)
theorem mnX10_121 : Cond.methodLinkNest RX10 121 yX8_begin "TunnelPlan" ∈ NW := inNW (List.mem_of_getElem? (i := 750) (by decide +kernel)) (by decide +kernel)
theorem mnX10_124 : Cond.methodLinkNest RX10 124 yX0_clear "TunnelPlan" ∈ NW := inNW (List.mem_of_getElem? (i := 754) (by decide +kernel)) (by decide +kernel)
theorem mlL_122 : Cond.methodLink RL 122 yL_count ∈ LW := inLW (List.mem_of_getElem? (i := 758) (by decide +kernel)) (by decide +kernel)
theorem clL_18 : Cond.classLink RL 18 "java/util/NoSuchElementException" ∈ LW := inLW (List.mem_of_getElem? (i := 761) (by decide +kernel)) (by decide +kernel)
theorem mlL_15 : Cond.methodLink RL 15 yX10_count ∈ LW := inLW (List.mem_of_getElem? (i := 762) (by decide +kernel)) (by decide +kernel)
theorem mnX10_141 : Cond.methodLinkNest RX10 141 yX2_standing "TunnelPlan" ∈ NW := inNW (List.mem_of_getElem? (i := 766) (by decide +kernel)) (by decide +kernel)
theorem mnX10_148 : Cond.methodLinkNest RX10 148 yX2_takenOfAll "TunnelPlan" ∈ NW := inNW (List.mem_of_getElem? (i := 770) (by decide +kernel)) (by decide +kernel)
theorem mlX2_56 : Cond.methodLink RX2 56 yX2_taken ∈ LW := inLW (List.mem_of_getElem? (i := 774) (by decide +kernel)) (by decide +kernel)
theorem mnX10_151 : Cond.methodLinkNest RX10 151 yX2_metricOfAll "TunnelPlan" ∈ NW := inNW (List.mem_of_getElem? (i := 775) (by decide +kernel)) (by decide +kernel)
theorem mnX2_60 : Cond.methodLinkNest RX2 60 yX4_metricOf "TunnelPlan" ∈ NW := inNW (List.mem_of_getElem? (i := 779) (by decide +kernel)) (by decide +kernel)
theorem mnX10_154 : Cond.methodLinkNest RX10 154 yX2_fullestLink "TunnelPlan" ∈ NW := inNW (List.mem_of_getElem? (i := 783) (by decide +kernel)) (by decide +kernel)
theorem mlX2_66 : Cond.methodLink RX2 66 yX2_percentOf ∈ LW := inLW (List.mem_of_getElem? (i := 787) (by decide +kernel)) (by decide +kernel)
theorem mnX10_157 : Cond.methodLinkNest RX10 157 yX2_percentOf "TunnelPlan" ∈ NW := inNW (List.mem_of_getElem? (i := 791) (by decide +kernel)) (by decide +kernel)
theorem mlX10_161 : Cond.methodLink RX10 161 yX10_worstLink ∈ LW := inLW (List.mem_of_getElem? (i := 792) (by decide +kernel)) (by decide +kernel)
theorem mlX10_164 : Cond.methodLink RX10 164 yX10_lostBy ∈ LW := inLW (List.mem_of_getElem? (i := 796) (by decide +kernel)) (by decide +kernel)
theorem mnX10_182 : Cond.methodLinkNest RX10 182 yX2_tunnelsOn "TunnelPlan" ∈ NW := inNW (List.mem_of_getElem? (i := 800) (by decide +kernel)) (by decide +kernel)
theorem mnX10_188 : Cond.methodLinkNest RX10 188 yX2_breakLink "TunnelPlan" ∈ NW := inNW (List.mem_of_getElem? (i := 804) (by decide +kernel)) (by decide +kernel)
theorem mlX2_111 : Cond.methodLink RX2 111 yX2_tunnelsOn ∈ LW := inLW (List.mem_of_getElem? (i := 808) (by decide +kernel)) (by decide +kernel)
theorem mlX2_114 : Cond.methodLink RX2 114 yX2_drop ∈ LW := inLW (List.mem_of_getElem? (i := 809) (by decide +kernel)) (by decide +kernel)
theorem mnX10_191 : Cond.methodLinkNest RX10 191 yX2_settle "TunnelPlan" ∈ NW := inNW (List.mem_of_getElem? (i := 810) (by decide +kernel)) (by decide +kernel)
theorem mlX2_118 : Cond.methodLink RX2 118 yX2_strongest ∈ LW := inLW (List.mem_of_getElem? (i := 814) (by decide +kernel)) (by decide +kernel)
theorem koX2_129 : Cond.constant RX2 129 (1000000) ∈ LW := inLW (List.mem_of_getElem? (i := 818) (by decide +kernel)) (by decide +kernel)
theorem mlX2_94 : Cond.methodLink RX2 94 yX2_bestWay ∈ LW := inLW (List.mem_of_getElem? (i := 819) (by decide +kernel)) (by decide +kernel)
theorem mlX2_121 : Cond.methodLink RX2 121 yX2_whomToPush ∈ LW := inLW (List.mem_of_getElem? (i := 820) (by decide +kernel)) (by decide +kernel)
theorem mlX2_130 : Cond.methodLink RX2 130 yX2_overbooked ∈ LW := inLW (List.mem_of_getElem? (i := 824) (by decide +kernel)) (by decide +kernel)
theorem mlX2_133 : Cond.methodLink RX2 133 yX2_weakerOn ∈ LW := inLW (List.mem_of_getElem? (i := 828) (by decide +kernel)) (by decide +kernel)
theorem mlX2_137 : Cond.methodLink RX2 137 yX2_costOf ∈ LW := inLW (List.mem_of_getElem? (i := 832) (by decide +kernel)) (by decide +kernel)
theorem mlX2_140 : Cond.methodLink RX2 140 yX2_relieves ∈ LW := inLW (List.mem_of_getElem? (i := 836) (by decide +kernel)) (by decide +kernel)
theorem mlX2_124 : Cond.methodLink RX2 124 yJ6_bitCount_0f7a4 ∈ LW := inLW (List.mem_of_getElem? (i := 840) (by decide +kernel)) (by decide +kernel)
theorem mlX10_194 : Cond.methodLink RX10 194 yJ6_bitCount_0f7a4 ∈ LW := inLW (List.mem_of_getElem? (i := 841) (by decide +kernel)) (by decide +kernel)
theorem clX10_177 : Cond.classLink RX10 177 "java/util/NoSuchElementException" ∈ LW := inLW (List.mem_of_getElem? (i := 842) (by decide +kernel)) (by decide +kernel)
theorem mlL_125 : Cond.methodLink RL 125 yL_link ∈ LW := inLW (List.mem_of_getElem? (i := 858) (by decide +kernel)) (by decide +kernel)
theorem mlL_20 : Cond.methodLink RL 20 yX10_link ∈ LW := inLW (List.mem_of_getElem? (i := 861) (by decide +kernel)) (by decide +kernel)
theorem mlX10_215 : Cond.methodLink RX10 215 yX10_checkLink ∈ LW := inLW (List.mem_of_getElem? (i := 865) (by decide +kernel)) (by decide +kernel)
theorem mnX10_234 : Cond.methodLinkNest RX10 234 yX2_taken "TunnelPlan" ∈ NW := inNW (List.mem_of_getElem? (i := 870) (by decide +kernel)) (by decide +kernel)
theorem mlL_129 : Cond.methodLink RL 129 yL_pool ∈ LW := inLW (List.mem_of_getElem? (i := 872) (by decide +kernel)) (by decide +kernel)
theorem mlL_24 : Cond.methodLink RL 24 yX10_pool ∈ LW := inLW (List.mem_of_getElem? (i := 875) (by decide +kernel)) (by decide +kernel)
theorem mlX10_239 : Cond.methodLink RX10 239 yX10_checkPriority ∈ LW := inLW (List.mem_of_getElem? (i := 879) (by decide +kernel)) (by decide +kernel)
theorem mlX10_207 : Cond.methodLink RX10 207 yX10_isPriority ∈ LW := inLW (List.mem_of_getElem? (i := 882) (by decide +kernel)) (by decide +kernel)
theorem mnX10_242 : Cond.methodLinkNest RX10 242 yX2_poolWithout "TunnelPlan" ∈ NW := inNW (List.mem_of_getElem? (i := 886) (by decide +kernel)) (by decide +kernel)
theorem mlL_132 : Cond.methodLink RL 132 yL_tunnel ∈ LW := inLW (List.mem_of_getElem? (i := 887) (by decide +kernel)) (by decide +kernel)
theorem mlL_27 : Cond.methodLink RL 27 yX10_tunnel ∈ LW := inLW (List.mem_of_getElem? (i := 890) (by decide +kernel)) (by decide +kernel)
theorem mlX10_246 : Cond.methodLink RX10 246 yX10_checkTunnel ∈ LW := inLW (List.mem_of_getElem? (i := 894) (by decide +kernel)) (by decide +kernel)
theorem mnX10_273 : Cond.methodLinkNest RX10 273 yX4_metricOf "TunnelPlan" ∈ NW := inNW (List.mem_of_getElem? (i := 899) (by decide +kernel)) (by decide +kernel)
theorem mnX10_276 : Cond.methodLinkNest RX10 276 yX2_leastMetric "TunnelPlan" ∈ NW := inNW (List.mem_of_getElem? (i := 900) (by decide +kernel)) (by decide +kernel)
theorem mnX2_87 : Cond.methodLinkNest RX2 87 yX6_leastMetric "TunnelPlan" ∈ NW := inNW (List.mem_of_getElem? (i := 904) (by decide +kernel)) (by decide +kernel)
theorem mlL_135 : Cond.methodLink RL 135 yL_way ∈ LW := inLW (List.mem_of_getElem? (i := 906) (by decide +kernel)) (by decide +kernel)
theorem mlL_30 : Cond.methodLink RL 30 yX10_way ∈ LW := inLW (List.mem_of_getElem? (i := 909) (by decide +kernel)) (by decide +kernel)
theorem mlX10_281 : Cond.methodLink RX10 281 yX10_checkPlace ∈ LW := inLW (List.mem_of_getElem? (i := 913) (by decide +kernel)) (by decide +kernel)
theorem mnX10_284 : Cond.methodLinkNest RX10 284 yX4_linkAt "TunnelPlan" ∈ NW := inNW (List.mem_of_getElem? (i := 917) (by decide +kernel)) (by decide +kernel)
theorem mlX4_64 : Cond.methodLink RX4 64 yX4_linkFrom ∈ LW := inLW (List.mem_of_getElem? (i := 921) (by decide +kernel)) (by decide +kernel)
theorem mlL_138 : Cond.methodLink RL 138 yL_best ∈ LW := inLW (List.mem_of_getElem? (i := 926) (by decide +kernel)) (by decide +kernel)
theorem mlL_33 : Cond.methodLink RL 33 yX10_best ∈ LW := inLW (List.mem_of_getElem? (i := 929) (by decide +kernel)) (by decide +kernel)
theorem mnX10_289 : Cond.methodLinkNest RX10 289 yX2_bestNow "TunnelPlan" ∈ NW := inNW (List.mem_of_getElem? (i := 933) (by decide +kernel)) (by decide +kernel)
theorem mlL_141 : Cond.methodLink RL 141 yL_pushes ∈ LW := inLW (List.mem_of_getElem? (i := 937) (by decide +kernel)) (by decide +kernel)
theorem mlL_36 : Cond.methodLink RL 36 yX10_pushes ∈ LW := inLW (List.mem_of_getElem? (i := 940) (by decide +kernel)) (by decide +kernel)
theorem mnX10_294 : Cond.methodLinkNest RX10 294 yX2_whomToPush "TunnelPlan" ∈ NW := inNW (List.mem_of_getElem? (i := 945) (by decide +kernel)) (by decide +kernel)
theorem mnX10_297 : Cond.methodLinkNest RX10 297 yX2_drop "TunnelPlan" ∈ NW := inNW (List.mem_of_getElem? (i := 946) (by decide +kernel)) (by decide +kernel)
theorem mlL_144 : Cond.methodLink RL 144 yL_setUp ∈ LW := inLW (List.mem_of_getElem? (i := 947) (by decide +kernel)) (by decide +kernel)
theorem mlL_39 : Cond.methodLink RL 39 yX10_setUp ∈ LW := inLW (List.mem_of_getElem? (i := 950) (by decide +kernel)) (by decide +kernel)
theorem mlX10_300 : Cond.methodLink RX10 300 yX10_refuseAct ∈ LW := inLW (List.mem_of_getElem? (i := 954) (by decide +kernel)) (by decide +kernel)
theorem mnX10_303 : Cond.methodLinkNest RX10 303 yX0_keep "TunnelPlan" ∈ NW := inNW (List.mem_of_getElem? (i := 958) (by decide +kernel)) (by decide +kernel)
theorem mlL_147 : Cond.methodLink RL 147 yL_tearDown ∈ LW := inLW (List.mem_of_getElem? (i := 962) (by decide +kernel)) (by decide +kernel)
theorem mlL_42 : Cond.methodLink RL 42 yX10_tearDown ∈ LW := inLW (List.mem_of_getElem? (i := 965) (by decide +kernel)) (by decide +kernel)
theorem mlL_150 : Cond.methodLink RL 150 yL_move ∈ LW := inLW (List.mem_of_getElem? (i := 969) (by decide +kernel)) (by decide +kernel)
theorem mlL_46 : Cond.methodLink RL 46 yX10_move ∈ LW := inLW (List.mem_of_getElem? (i := 972) (by decide +kernel)) (by decide +kernel)
theorem mlL_153 : Cond.methodLink RL 153 yL_resize ∈ LW := inLW (List.mem_of_getElem? (i := 976) (by decide +kernel)) (by decide +kernel)
theorem mlL_49 : Cond.methodLink RL 49 yX10_resize ∈ LW := inLW (List.mem_of_getElem? (i := 979) (by decide +kernel)) (by decide +kernel)
theorem mlX10_306 : Cond.methodLink RX10 306 yX10_isAmount ∈ LW := inLW (List.mem_of_getElem? (i := 983) (by decide +kernel)) (by decide +kernel)
theorem mnX10_309 : Cond.methodLinkNest RX10 309 yX2_bestWay "TunnelPlan" ∈ NW := inNW (List.mem_of_getElem? (i := 986) (by decide +kernel)) (by decide +kernel)
theorem mlL_156 : Cond.methodLink RL 156 yL_fail ∈ LW := inLW (List.mem_of_getElem? (i := 987) (by decide +kernel)) (by decide +kernel)
theorem mlL_52 : Cond.methodLink RL 52 yX10_fail ∈ LW := inLW (List.mem_of_getElem? (i := 990) (by decide +kernel)) (by decide +kernel)
theorem mlL_159 : Cond.methodLink RL 159 yL_mend ∈ LW := inLW (List.mem_of_getElem? (i := 994) (by decide +kernel)) (by decide +kernel)
theorem mlL_55 : Cond.methodLink RL 55 yX10_mend ∈ LW := inLW (List.mem_of_getElem? (i := 997) (by decide +kernel)) (by decide +kernel)
theorem mlL_166 : Cond.methodLink RL 166 yL_planned ∈ LW := inLW (List.mem_of_getElem? (i := 1001) (by decide +kernel)) (by decide +kernel)
theorem mlL_58 : Cond.methodLink RL 58 yX10_planned ∈ LW := inLW (List.mem_of_getElem? (i := 1004) (by decide +kernel)) (by decide +kernel)
theorem mnX10_318 : Cond.methodLinkNest RX10 318 yX3_plannedWay "TunnelPlan" ∈ NW := inNW (List.mem_of_getElem? (i := 1008) (by decide +kernel)) (by decide +kernel)
theorem mlL_169 : Cond.methodLink RL 169 yL_order ∈ LW := inLW (List.mem_of_getElem? (i := 1012) (by decide +kernel)) (by decide +kernel)
theorem mlL_61 : Cond.methodLink RL 61 yX10_order ∈ LW := inLW (List.mem_of_getElem? (i := 1015) (by decide +kernel)) (by decide +kernel)
theorem mnX10_321 : Cond.methodLinkNest RX10 321 yX3_inRow "TunnelPlan" ∈ NW := inNW (List.mem_of_getElem? (i := 1019) (by decide +kernel)) (by decide +kernel)
theorem mlL_176 : Cond.methodLink RL 176 yL_widest ∈ LW := inLW (List.mem_of_getElem? (i := 1023) (by decide +kernel)) (by decide +kernel)
theorem mlL_64 : Cond.methodLink RL 64 yX10_widest ∈ LW := inLW (List.mem_of_getElem? (i := 1026) (by decide +kernel)) (by decide +kernel)
theorem mlX10_327 : Cond.methodLink RX10 327 yX10_checkNodes ∈ LW := inLW (List.mem_of_getElem? (i := 1030) (by decide +kernel)) (by decide +kernel)
theorem mlX10_331 : Cond.methodLink RX10 331 yX10_checkUnlike ∈ LW := inLW (List.mem_of_getElem? (i := 1035) (by decide +kernel)) (by decide +kernel)
theorem mnX10_334 : Cond.methodLinkNest RX10 334 yX2_showPools "TunnelPlan" ∈ NW := inNW (List.mem_of_getElem? (i := 1039) (by decide +kernel)) (by decide +kernel)
theorem mnX10_337 : Cond.methodLinkNest RX10 337 yX6_widestOf "TunnelPlan" ∈ NW := inNW (List.mem_of_getElem? (i := 1040) (by decide +kernel)) (by decide +kernel)
theorem mlL_180 : Cond.methodLink RL 180 yL_apart ∈ LW := inLW (List.mem_of_getElem? (i := 1044) (by decide +kernel)) (by decide +kernel)
theorem mlL_68 : Cond.methodLink RL 68 yX10_apart ∈ LW := inLW (List.mem_of_getElem? (i := 1047) (by decide +kernel)) (by decide +kernel)
theorem clX10_341 : Cond.classLink RX10 341 RX1 ∈ LW := inLW (List.mem_of_getElem? (i := 1051) (by decide +kernel)) (by decide +kernel)
theorem it1 : Cond.instantiable RX1 6 ∈ LW := inLW (List.mem_of_getElem? (i := 1052) (by decide +kernel)) (by decide +kernel)
theorem mnX10_343 : Cond.methodLinkNest RX10 343 yX2_openTo "TunnelPlan" ∈ NW := inNW (List.mem_of_getElem? (i := 1053) (by decide +kernel)) (by decide +kernel)
theorem mnX10_346 : Cond.methodLinkNest RX10 346 yX1_init "TunnelPlan" ∈ NW := inNW (List.mem_of_getElem? (i := 1054) (by decide +kernel)) (by decide +kernel)
theorem mlX1_3 : Cond.methodLink RX1 3 objectInit ∈ LW := inLW (List.mem_of_getElem? (i := 1057) (by decide +kernel)) (by decide +kernel)
theorem koX1_9 : Cond.constant RX1 9 (1000000) ∈ LW := inLW (List.mem_of_getElem? (i := 1058) (by decide +kernel)) (by decide +kernel)
theorem flX1_16 : FL RX1 16 1 0 := ⟨_, _, _, kc1, by decide, Or.inl (inLW (List.mem_of_getElem? (i := 1059) (by decide +kernel)) (by decide +kernel))⟩
theorem ffX1_16 : FF RX1 16 1 0 := ⟨_, _, _, kc1, by decide, rfl, rfl, inLW (List.mem_of_getElem? (i := 1059) (by decide +kernel)) (by decide +kernel)⟩
theorem flX1_20 : FL RX1 20 1 1 := ⟨_, _, _, kc1, by decide, Or.inl (inLW (List.mem_of_getElem? (i := 1060) (by decide +kernel)) (by decide +kernel))⟩
theorem ffX1_20 : FF RX1 20 1 1 := ⟨_, _, _, kc1, by decide, rfl, rfl, inLW (List.mem_of_getElem? (i := 1060) (by decide +kernel)) (by decide +kernel)⟩
theorem flX1_24 : FL RX1 24 1 2 := ⟨_, _, _, kc1, by decide, Or.inl (inLW (List.mem_of_getElem? (i := 1061) (by decide +kernel)) (by decide +kernel))⟩
theorem ffX1_24 : FF RX1 24 1 2 := ⟨_, _, _, kc1, by decide, rfl, rfl, inLW (List.mem_of_getElem? (i := 1061) (by decide +kernel)) (by decide +kernel)⟩
theorem flX1_27 : FL RX1 27 1 3 := ⟨_, _, _, kc1, by decide, Or.inl (inLW (List.mem_of_getElem? (i := 1062) (by decide +kernel)) (by decide +kernel))⟩
theorem ffX1_27 : FF RX1 27 1 3 := ⟨_, _, _, kc1, by decide, rfl, rfl, inLW (List.mem_of_getElem? (i := 1062) (by decide +kernel)) (by decide +kernel)⟩
theorem flX1_30 : FL RX1 30 1 4 := ⟨_, _, _, kc1, by decide, Or.inl (inLW (List.mem_of_getElem? (i := 1063) (by decide +kernel)) (by decide +kernel))⟩
theorem ffX1_30 : FF RX1 30 1 4 := ⟨_, _, _, kc1, by decide, rfl, rfl, inLW (List.mem_of_getElem? (i := 1063) (by decide +kernel)) (by decide +kernel)⟩
theorem flX1_10 : FL RX1 10 1 5 := ⟨_, _, _, kc1, by decide, Or.inl (inLW (List.mem_of_getElem? (i := 1064) (by decide +kernel)) (by decide +kernel))⟩
theorem fpX1_10 : FP RX1 10 1 5 := ⟨_, _, _, kc1, by decide, rfl, Or.inl (inLW (List.mem_of_getElem? (i := 1064) (by decide +kernel)) (by decide +kernel))⟩
theorem mnX10_349 : Cond.methodLinkNest RX10 349 yX1_leastSum "TunnelPlan" ∈ NW := inNW (List.mem_of_getElem? (i := 1078) (by decide +kernel)) (by decide +kernel)
theorem mlX1_33 : Cond.methodLink RX1 33 yX1_tryFirst ∈ LW := inLW (List.mem_of_getElem? (i := 1082) (by decide +kernel)) (by decide +kernel)
theorem mnX1_37 : Cond.methodLinkNest RX1 37 yX6_leastMetric "TunnelPlan" ∈ NW := inNW (List.mem_of_getElem? (i := 1086) (by decide +kernel)) (by decide +kernel)
theorem mlX1_43 : Cond.methodLink RX1 43 Lib.Math.min.name ∈ LW := inLW (List.mem_of_getElem? (i := 1087) (by decide +kernel)) (by decide +kernel)
theorem mlX1_49 : Cond.methodLink RX1 49 yJ6_bitCount_0f7a4 ∈ LW := inLW (List.mem_of_getElem? (i := 1088) (by decide +kernel)) (by decide +kernel)
theorem mlL_183 : Cond.methodLink RL 183 yL_cuts ∈ LW := inLW (List.mem_of_getElem? (i := 1089) (by decide +kernel)) (by decide +kernel)
theorem mlL_71 : Cond.methodLink RL 71 yX10_cuts ∈ LW := inLW (List.mem_of_getElem? (i := 1092) (by decide +kernel)) (by decide +kernel)
theorem mnX10_352 : Cond.methodLinkNest RX10 352 yX6_reaches "TunnelPlan" ∈ NW := inNW (List.mem_of_getElem? (i := 1096) (by decide +kernel)) (by decide +kernel)
theorem mlL_186 : Cond.methodLink RL 186 yL_flow ∈ LW := inLW (List.mem_of_getElem? (i := 1100) (by decide +kernel)) (by decide +kernel)
theorem mlL_74 : Cond.methodLink RL 74 yX10_flow ∈ LW := inLW (List.mem_of_getElem? (i := 1103) (by decide +kernel)) (by decide +kernel)
theorem mnX10_356 : Cond.methodLinkNest RX10 356 yX6_mostFlow "TunnelPlan" ∈ NW := inNW (List.mem_of_getElem? (i := 1107) (by decide +kernel)) (by decide +kernel)
theorem mlX6_77 : Cond.methodLink RX6 77 yX6_findMore ∈ LW := inLW (List.mem_of_getElem? (i := 1111) (by decide +kernel)) (by decide +kernel)
theorem mlX6_81 : Cond.methodLink RX6 81 yX6_sendMore ∈ LW := inLW (List.mem_of_getElem? (i := 1115) (by decide +kernel)) (by decide +kernel)
theorem mlL_189 : Cond.methodLink RL 189 yL_distance ∈ LW := inLW (List.mem_of_getElem? (i := 1119) (by decide +kernel)) (by decide +kernel)
theorem mlL_77 : Cond.methodLink RL 77 yX10_distance ∈ LW := inLW (List.mem_of_getElem? (i := 1122) (by decide +kernel)) (by decide +kernel)
theorem mnX10_359 : Cond.methodLinkNest RX10 359 yX6_leastMetric "TunnelPlan" ∈ NW := inNW (List.mem_of_getElem? (i := 1126) (by decide +kernel)) (by decide +kernel)
theorem koX10_361 : Cond.constant RX10 361 (1000000) ∈ LW := inLW (List.mem_of_getElem? (i := 1127) (by decide +kernel)) (by decide +kernel)
theorem mlL_192 : Cond.methodLink RL 192 yL_room ∈ LW := inLW (List.mem_of_getElem? (i := 1128) (by decide +kernel)) (by decide +kernel)
theorem mlL_80 : Cond.methodLink RL 80 yX10_room ∈ LW := inLW (List.mem_of_getElem? (i := 1131) (by decide +kernel)) (by decide +kernel)
theorem mlL_195 : Cond.methodLink RL 195 yL_saved ∈ LW := inLW (List.mem_of_getElem? (i := 1135) (by decide +kernel)) (by decide +kernel)
theorem mlL_83 : Cond.methodLink RL 83 yX10_saved ∈ LW := inLW (List.mem_of_getElem? (i := 1138) (by decide +kernel)) (by decide +kernel)
theorem mnX10_362 : Cond.methodLinkNest RX10 362 yX2_hasWayWithout "TunnelPlan" ∈ NW := inNW (List.mem_of_getElem? (i := 1142) (by decide +kernel)) (by decide +kernel)
theorem mnX2_107 : Cond.methodLinkNest RX2 107 yX6_reaches "TunnelPlan" ∈ NW := inNW (List.mem_of_getElem? (i := 1146) (by decide +kernel)) (by decide +kernel)
theorem mlL_198 : Cond.methodLink RL 198 yL_see ∈ LW := inLW (List.mem_of_getElem? (i := 1147) (by decide +kernel)) (by decide +kernel)
theorem mlL_86 : Cond.methodLink RL 86 yX10_see ∈ LW := inLW (List.mem_of_getElem? (i := 1150) (by decide +kernel)) (by decide +kernel)
theorem mnX10_366 : Cond.methodLinkNest RX10 366 yX7_add "TunnelPlan" ∈ NW := inNW (List.mem_of_getElem? (i := 1154) (by decide +kernel)) (by decide +kernel)
theorem mlL_206 : Cond.methodLink RL 206 yL_other ∈ LW := inLW (List.mem_of_getElem? (i := 1158) (by decide +kernel)) (by decide +kernel)
theorem mlL_90 : Cond.methodLink RL 90 yX10_other ∈ LW := inLW (List.mem_of_getElem? (i := 1161) (by decide +kernel)) (by decide +kernel)
theorem mnX10_372 : Cond.methodLinkNest RX10 372 yX7_isSo "TunnelPlan" ∈ NW := inNW (List.mem_of_getElem? (i := 1166) (by decide +kernel)) (by decide +kernel)
theorem mlX7_56 : Cond.methodLink RX7 56 yX7_wideEnough ∈ LW := inLW (List.mem_of_getElem? (i := 1170) (by decide +kernel)) (by decide +kernel)
theorem mnX7_43 : Cond.methodLinkNest RX7 43 yX2_poolWithout "TunnelPlan" ∈ NW := inNW (List.mem_of_getElem? (i := 1174) (by decide +kernel)) (by decide +kernel)
theorem mnX7_60 : Cond.methodLinkNest RX7 60 yX6_reaches "TunnelPlan" ∈ NW := inNW (List.mem_of_getElem? (i := 1175) (by decide +kernel)) (by decide +kernel)
theorem mlX10_376 : Cond.methodLink RX10 376 yX10_otherCapacities ∈ LW := inLW (List.mem_of_getElem? (i := 1176) (by decide +kernel)) (by decide +kernel)
theorem mnX10_380 : Cond.methodLinkNest RX10 380 yX7_bound "TunnelPlan" ∈ NW := inNW (List.mem_of_getElem? (i := 1180) (by decide +kernel)) (by decide +kernel)
theorem koX7_69 : Cond.constant RX7 69 (1000000) ∈ LW := inLW (List.mem_of_getElem? (i := 1184) (by decide +kernel)) (by decide +kernel)
theorem mlX7_76 : Cond.methodLink RX7 76 Lib.Math.max.name ∈ LW := inLW (List.mem_of_getElem? (i := 1185) (by decide +kernel)) (by decide +kernel)
theorem mlX7_82 : Cond.methodLink RX7 82 Lib.Math.min.name ∈ LW := inLW (List.mem_of_getElem? (i := 1186) (by decide +kernel)) (by decide +kernel)
theorem mlX10_387 : Cond.methodLink RX10 387 Lib.Math.max.name ∈ LW := inLW (List.mem_of_getElem? (i := 1187) (by decide +kernel)) (by decide +kernel)
theorem mlX10_396 : Cond.methodLink RX10 396 Lib.Math.min.name ∈ LW := inLW (List.mem_of_getElem? (i := 1188) (by decide +kernel)) (by decide +kernel)
theorem mlL_209 : Cond.methodLink RL 209 yL_luck ∈ LW := inLW (List.mem_of_getElem? (i := 1189) (by decide +kernel)) (by decide +kernel)
theorem mlL_93 : Cond.methodLink RL 93 yX10_luck ∈ LW := inLW (List.mem_of_getElem? (i := 1192) (by decide +kernel)) (by decide +kernel)
theorem mlX10_401 : Cond.methodLink RX10 401 yX10_power ∈ LW := inLW (List.mem_of_getElem? (i := 1197) (by decide +kernel)) (by decide +kernel)
theorem mlL_212 : Cond.methodLink RL 212 yL_years ∈ LW := inLW (List.mem_of_getElem? (i := 1200) (by decide +kernel)) (by decide +kernel)
theorem mlL_96 : Cond.methodLink RL 96 yX10_years ∈ LW := inLW (List.mem_of_getElem? (i := 1203) (by decide +kernel)) (by decide +kernel)
theorem clX10_408 : Cond.classLink RX10 408 RX9 ∈ LW := inLW (List.mem_of_getElem? (i := 1209) (by decide +kernel)) (by decide +kernel)
theorem it9 : Cond.instantiable RX9 4 ∈ LW := inLW (List.mem_of_getElem? (i := 1210) (by decide +kernel)) (by decide +kernel)
theorem mnX10_410 : Cond.methodLinkNest RX10 410 yX9_init "TunnelPlan" ∈ NW := inNW (List.mem_of_getElem? (i := 1211) (by decide +kernel)) (by decide +kernel)
theorem mlX9_1 : Cond.methodLink RX9 1 objectInit ∈ LW := inLW (List.mem_of_getElem? (i := 1214) (by decide +kernel)) (by decide +kernel)
theorem flX9_7 : FL RX9 7 9 0 := ⟨_, _, _, kc9, by decide, Or.inl (inLW (List.mem_of_getElem? (i := 1215) (by decide +kernel)) (by decide +kernel))⟩
theorem ffX9_7 : FF RX9 7 9 0 := ⟨_, _, _, kc9, by decide, rfl, rfl, inLW (List.mem_of_getElem? (i := 1215) (by decide +kernel)) (by decide +kernel)⟩
theorem flX9_13 : FL RX9 13 9 1 := ⟨_, _, _, kc9, by decide, Or.inl (inLW (List.mem_of_getElem? (i := 1216) (by decide +kernel)) (by decide +kernel))⟩
theorem ffX9_13 : FF RX9 13 9 1 := ⟨_, _, _, kc9, by decide, rfl, rfl, inLW (List.mem_of_getElem? (i := 1216) (by decide +kernel)) (by decide +kernel)⟩
theorem flX9_17 : FL RX9 17 9 2 := ⟨_, _, _, kc9, by decide, Or.inl (inLW (List.mem_of_getElem? (i := 1217) (by decide +kernel)) (by decide +kernel))⟩
theorem fpX9_17 : FP RX9 17 9 2 := ⟨_, _, _, kc9, by decide, rfl, Or.inl (inLW (List.mem_of_getElem? (i := 1217) (by decide +kernel)) (by decide +kernel))⟩
theorem flX9_53 : FL RX9 53 9 3 := ⟨_, _, _, kc9, by decide, Or.inl (inLW (List.mem_of_getElem? (i := 1218) (by decide +kernel)) (by decide +kernel))⟩
theorem fpX9_53 : FP RX9 53 9 3 := ⟨_, _, _, kc9, by decide, rfl, Or.inl (inLW (List.mem_of_getElem? (i := 1218) (by decide +kernel)) (by decide +kernel))⟩
theorem flX10_416 : FL RX10 416 9 3 := ⟨_, _, _, kc9, by decide, Or.inr ⟨"TunnelPlan", inNW (List.mem_of_getElem? (i := 1219) (by decide +kernel)) (by decide +kernel)⟩⟩
theorem mnX10_413 : Cond.methodLinkNest RX10 413 yX9_pass "TunnelPlan" ∈ NW := inNW (List.mem_of_getElem? (i := 1229) (by decide +kernel)) (by decide +kernel)
theorem mlX9_22 : Cond.methodLink RX9 22 yX9_draw ∈ LW := inLW (List.mem_of_getElem? (i := 1233) (by decide +kernel)) (by decide +kernel)
theorem koX9_21 : Cond.constant RX9 21 (1103515245) ∈ LW := inLW (List.mem_of_getElem? (i := 1237) (by decide +kernel)) (by decide +kernel)
theorem mlX9_31 : Cond.methodLink RX9 31 yX9_turnLink ∈ LW := inLW (List.mem_of_getElem? (i := 1238) (by decide +kernel)) (by decide +kernel)
theorem mnX9_62 : Cond.methodLinkNest RX9 62 yX2_breakLink "TunnelPlan" ∈ NW := inNW (List.mem_of_getElem? (i := 1242) (by decide +kernel)) (by decide +kernel)
theorem mnX9_56 : Cond.methodLinkNest RX9 56 yX2_settle "TunnelPlan" ∈ NW := inNW (List.mem_of_getElem? (i := 1243) (by decide +kernel)) (by decide +kernel)
theorem mnX9_38 : Cond.methodLinkNest RX9 38 yX2_drop "TunnelPlan" ∈ NW := inNW (List.mem_of_getElem? (i := 1244) (by decide +kernel)) (by decide +kernel)
theorem clL_100 : Cond.classLink RL 100 RX11 ∈ LW := inLW (List.mem_of_getElem? (i := 1245) (by decide +kernel)) (by decide +kernel)
theorem it11 : Cond.instantiable RX11 54 ∈ LW := inLW (List.mem_of_getElem? (i := 1246) (by decide +kernel)) (by decide +kernel)
theorem mlL_102 : Cond.methodLink RL 102 yX11_init ∈ LW := inLW (List.mem_of_getElem? (i := 1247) (by decide +kernel)) (by decide +kernel)
theorem mlX11_1 : Cond.methodLink RX11 1 objectInit ∈ LW := inLW (List.mem_of_getElem? (i := 1250) (by decide +kernel)) (by decide +kernel)
theorem flX11_96 : FL RX11 96 11 0 := ⟨_, _, _, kc11, by decide, Or.inl (inLW (List.mem_of_getElem? (i := 1251) (by decide +kernel)) (by decide +kernel))⟩
theorem fpX11_96 : FP RX11 96 11 0 := ⟨_, _, _, kc11, by decide, rfl, Or.inl (inLW (List.mem_of_getElem? (i := 1251) (by decide +kernel)) (by decide +kernel))⟩
theorem flX11_7 : FL RX11 7 11 1 := ⟨_, _, _, kc11, by decide, Or.inl (inLW (List.mem_of_getElem? (i := 1252) (by decide +kernel)) (by decide +kernel))⟩
theorem ffX11_7 : FF RX11 7 11 1 := ⟨_, _, _, kc11, by decide, rfl, rfl, inLW (List.mem_of_getElem? (i := 1252) (by decide +kernel)) (by decide +kernel)⟩
theorem flX11_99 : FL RX11 99 11 2 := ⟨_, _, _, kc11, by decide, Or.inl (inLW (List.mem_of_getElem? (i := 1253) (by decide +kernel)) (by decide +kernel))⟩
theorem fpX11_99 : FP RX11 99 11 2 := ⟨_, _, _, kc11, by decide, rfl, Or.inl (inLW (List.mem_of_getElem? (i := 1253) (by decide +kernel)) (by decide +kernel))⟩
theorem flX11_141 : FL RX11 141 11 3 := ⟨_, _, _, kc11, by decide, Or.inl (inLW (List.mem_of_getElem? (i := 1254) (by decide +kernel)) (by decide +kernel))⟩
theorem fpX11_141 : FP RX11 141 11 3 := ⟨_, _, _, kc11, by decide, rfl, Or.inl (inLW (List.mem_of_getElem? (i := 1254) (by decide +kernel)) (by decide +kernel))⟩
theorem flX11_13 : FL RX11 13 11 4 := ⟨_, _, _, kc11, by decide, Or.inl (inLW (List.mem_of_getElem? (i := 1255) (by decide +kernel)) (by decide +kernel))⟩
theorem fpX11_13 : FP RX11 13 11 4 := ⟨_, _, _, kc11, by decide, rfl, Or.inl (inLW (List.mem_of_getElem? (i := 1255) (by decide +kernel)) (by decide +kernel))⟩
theorem flX11_17 : FL RX11 17 11 5 := ⟨_, _, _, kc11, by decide, Or.inl (inLW (List.mem_of_getElem? (i := 1256) (by decide +kernel)) (by decide +kernel))⟩
theorem ffX11_17 : FF RX11 17 11 5 := ⟨_, _, _, kc11, by decide, rfl, rfl, inLW (List.mem_of_getElem? (i := 1256) (by decide +kernel)) (by decide +kernel)⟩
theorem flX11_106 : FL RX11 106 11 6 := ⟨_, _, _, kc11, by decide, Or.inl (inLW (List.mem_of_getElem? (i := 1257) (by decide +kernel)) (by decide +kernel))⟩
theorem fpX11_106 : FP RX11 106 11 6 := ⟨_, _, _, kc11, by decide, rfl, Or.inl (inLW (List.mem_of_getElem? (i := 1257) (by decide +kernel)) (by decide +kernel))⟩
theorem flX11_109 : FL RX11 109 11 7 := ⟨_, _, _, kc11, by decide, Or.inl (inLW (List.mem_of_getElem? (i := 1258) (by decide +kernel)) (by decide +kernel))⟩
theorem fpX11_109 : FP RX11 109 11 7 := ⟨_, _, _, kc11, by decide, rfl, Or.inl (inLW (List.mem_of_getElem? (i := 1258) (by decide +kernel)) (by decide +kernel))⟩
theorem flX11_126 : FL RX11 126 11 8 := ⟨_, _, _, kc11, by decide, Or.inl (inLW (List.mem_of_getElem? (i := 1259) (by decide +kernel)) (by decide +kernel))⟩
theorem fpX11_126 : FP RX11 126 11 8 := ⟨_, _, _, kc11, by decide, rfl, Or.inl (inLW (List.mem_of_getElem? (i := 1259) (by decide +kernel)) (by decide +kernel))⟩
theorem flX11_116 : FL RX11 116 11 9 := ⟨_, _, _, kc11, by decide, Or.inl (inLW (List.mem_of_getElem? (i := 1260) (by decide +kernel)) (by decide +kernel))⟩
theorem fpX11_116 : FP RX11 116 11 9 := ⟨_, _, _, kc11, by decide, rfl, Or.inl (inLW (List.mem_of_getElem? (i := 1260) (by decide +kernel)) (by decide +kernel))⟩
theorem flX11_136 : FL RX11 136 11 10 := ⟨_, _, _, kc11, by decide, Or.inl (inLW (List.mem_of_getElem? (i := 1261) (by decide +kernel)) (by decide +kernel))⟩
theorem fpX11_136 : FP RX11 136 11 10 := ⟨_, _, _, kc11, by decide, rfl, Or.inl (inLW (List.mem_of_getElem? (i := 1261) (by decide +kernel)) (by decide +kernel))⟩
theorem flX11_123 : FL RX11 123 11 11 := ⟨_, _, _, kc11, by decide, Or.inl (inLW (List.mem_of_getElem? (i := 1262) (by decide +kernel)) (by decide +kernel))⟩
theorem fpX11_123 : FP RX11 123 11 11 := ⟨_, _, _, kc11, by decide, rfl, Or.inl (inLW (List.mem_of_getElem? (i := 1262) (by decide +kernel)) (by decide +kernel))⟩
theorem flX11_119 : FL RX11 119 11 12 := ⟨_, _, _, kc11, by decide, Or.inl (inLW (List.mem_of_getElem? (i := 1263) (by decide +kernel)) (by decide +kernel))⟩
theorem fpX11_119 : FP RX11 119 11 12 := ⟨_, _, _, kc11, by decide, rfl, Or.inl (inLW (List.mem_of_getElem? (i := 1263) (by decide +kernel)) (by decide +kernel))⟩
theorem flX11_20 : FL RX11 20 11 13 := ⟨_, _, _, kc11, by decide, Or.inl (inLW (List.mem_of_getElem? (i := 1264) (by decide +kernel)) (by decide +kernel))⟩
theorem fpX11_20 : FP RX11 20 11 13 := ⟨_, _, _, kc11, by decide, rfl, Or.inl (inLW (List.mem_of_getElem? (i := 1264) (by decide +kernel)) (by decide +kernel))⟩
theorem flX11_199 : FL RX11 199 11 14 := ⟨_, _, _, kc11, by decide, Or.inl (inLW (List.mem_of_getElem? (i := 1265) (by decide +kernel)) (by decide +kernel))⟩
theorem fpX11_199 : FP RX11 199 11 14 := ⟨_, _, _, kc11, by decide, rfl, Or.inl (inLW (List.mem_of_getElem? (i := 1265) (by decide +kernel)) (by decide +kernel))⟩
theorem flX11_202 : FL RX11 202 11 15 := ⟨_, _, _, kc11, by decide, Or.inl (inLW (List.mem_of_getElem? (i := 1266) (by decide +kernel)) (by decide +kernel))⟩
theorem fpX11_202 : FP RX11 202 11 15 := ⟨_, _, _, kc11, by decide, rfl, Or.inl (inLW (List.mem_of_getElem? (i := 1266) (by decide +kernel)) (by decide +kernel))⟩
theorem flX11_154 : FL RX11 154 11 16 := ⟨_, _, _, kc11, by decide, Or.inl (inLW (List.mem_of_getElem? (i := 1267) (by decide +kernel)) (by decide +kernel))⟩
theorem fpX11_154 : FP RX11 154 11 16 := ⟨_, _, _, kc11, by decide, rfl, Or.inl (inLW (List.mem_of_getElem? (i := 1267) (by decide +kernel)) (by decide +kernel))⟩
theorem flX11_157 : FL RX11 157 11 17 := ⟨_, _, _, kc11, by decide, Or.inl (inLW (List.mem_of_getElem? (i := 1268) (by decide +kernel)) (by decide +kernel))⟩
theorem fpX11_157 : FP RX11 157 11 17 := ⟨_, _, _, kc11, by decide, rfl, Or.inl (inLW (List.mem_of_getElem? (i := 1268) (by decide +kernel)) (by decide +kernel))⟩
theorem flX11_167 : FL RX11 167 11 18 := ⟨_, _, _, kc11, by decide, Or.inl (inLW (List.mem_of_getElem? (i := 1269) (by decide +kernel)) (by decide +kernel))⟩
theorem fpX11_167 : FP RX11 167 11 18 := ⟨_, _, _, kc11, by decide, rfl, Or.inl (inLW (List.mem_of_getElem? (i := 1269) (by decide +kernel)) (by decide +kernel))⟩
theorem flX11_23 : FL RX11 23 11 19 := ⟨_, _, _, kc11, by decide, Or.inl (inLW (List.mem_of_getElem? (i := 1270) (by decide +kernel)) (by decide +kernel))⟩
theorem ffX11_23 : FF RX11 23 11 19 := ⟨_, _, _, kc11, by decide, rfl, rfl, inLW (List.mem_of_getElem? (i := 1270) (by decide +kernel)) (by decide +kernel)⟩
theorem flX11_26 : FL RX11 26 11 20 := ⟨_, _, _, kc11, by decide, Or.inl (inLW (List.mem_of_getElem? (i := 1271) (by decide +kernel)) (by decide +kernel))⟩
theorem ffX11_26 : FF RX11 26 11 20 := ⟨_, _, _, kc11, by decide, rfl, rfl, inLW (List.mem_of_getElem? (i := 1271) (by decide +kernel)) (by decide +kernel)⟩
theorem flX11_29 : FL RX11 29 11 21 := ⟨_, _, _, kc11, by decide, Or.inl (inLW (List.mem_of_getElem? (i := 1272) (by decide +kernel)) (by decide +kernel))⟩
theorem ffX11_29 : FF RX11 29 11 21 := ⟨_, _, _, kc11, by decide, rfl, rfl, inLW (List.mem_of_getElem? (i := 1272) (by decide +kernel)) (by decide +kernel)⟩
theorem flX11_32 : FL RX11 32 11 22 := ⟨_, _, _, kc11, by decide, Or.inl (inLW (List.mem_of_getElem? (i := 1273) (by decide +kernel)) (by decide +kernel))⟩
theorem ffX11_32 : FF RX11 32 11 22 := ⟨_, _, _, kc11, by decide, rfl, rfl, inLW (List.mem_of_getElem? (i := 1273) (by decide +kernel)) (by decide +kernel)⟩
theorem flX11_35 : FL RX11 35 11 23 := ⟨_, _, _, kc11, by decide, Or.inl (inLW (List.mem_of_getElem? (i := 1274) (by decide +kernel)) (by decide +kernel))⟩
theorem ffX11_35 : FF RX11 35 11 23 := ⟨_, _, _, kc11, by decide, rfl, rfl, inLW (List.mem_of_getElem? (i := 1274) (by decide +kernel)) (by decide +kernel)⟩
theorem flX11_38 : FL RX11 38 11 24 := ⟨_, _, _, kc11, by decide, Or.inl (inLW (List.mem_of_getElem? (i := 1275) (by decide +kernel)) (by decide +kernel))⟩
theorem ffX11_38 : FF RX11 38 11 24 := ⟨_, _, _, kc11, by decide, rfl, rfl, inLW (List.mem_of_getElem? (i := 1275) (by decide +kernel)) (by decide +kernel)⟩
theorem flX11_209 : FL RX11 209 11 25 := ⟨_, _, _, kc11, by decide, Or.inl (inLW (List.mem_of_getElem? (i := 1276) (by decide +kernel)) (by decide +kernel))⟩
theorem fpX11_209 : FP RX11 209 11 25 := ⟨_, _, _, kc11, by decide, rfl, Or.inl (inLW (List.mem_of_getElem? (i := 1276) (by decide +kernel)) (by decide +kernel))⟩
theorem flX11_41 : FL RX11 41 11 26 := ⟨_, _, _, kc11, by decide, Or.inl (inLW (List.mem_of_getElem? (i := 1277) (by decide +kernel)) (by decide +kernel))⟩
theorem ffX11_41 : FF RX11 41 11 26 := ⟨_, _, _, kc11, by decide, rfl, rfl, inLW (List.mem_of_getElem? (i := 1277) (by decide +kernel)) (by decide +kernel)⟩
theorem flX11_45 : FL RX11 45 11 27 := ⟨_, _, _, kc11, by decide, Or.inl (inLW (List.mem_of_getElem? (i := 1278) (by decide +kernel)) (by decide +kernel))⟩
theorem ffX11_45 : FF RX11 45 11 27 := ⟨_, _, _, kc11, by decide, rfl, rfl, inLW (List.mem_of_getElem? (i := 1278) (by decide +kernel)) (by decide +kernel)⟩
theorem flX11_48 : FL RX11 48 11 28 := ⟨_, _, _, kc11, by decide, Or.inl (inLW (List.mem_of_getElem? (i := 1279) (by decide +kernel)) (by decide +kernel))⟩
theorem ffX11_48 : FF RX11 48 11 28 := ⟨_, _, _, kc11, by decide, rfl, rfl, inLW (List.mem_of_getElem? (i := 1279) (by decide +kernel)) (by decide +kernel)⟩
theorem flX11_51 : FL RX11 51 11 29 := ⟨_, _, _, kc11, by decide, Or.inl (inLW (List.mem_of_getElem? (i := 1280) (by decide +kernel)) (by decide +kernel))⟩
theorem ffX11_51 : FF RX11 51 11 29 := ⟨_, _, _, kc11, by decide, rfl, rfl, inLW (List.mem_of_getElem? (i := 1280) (by decide +kernel)) (by decide +kernel)⟩
theorem flX11_54 : FL RX11 54 11 30 := ⟨_, _, _, kc11, by decide, Or.inl (inLW (List.mem_of_getElem? (i := 1281) (by decide +kernel)) (by decide +kernel))⟩
theorem ffX11_54 : FF RX11 54 11 30 := ⟨_, _, _, kc11, by decide, rfl, rfl, inLW (List.mem_of_getElem? (i := 1281) (by decide +kernel)) (by decide +kernel)⟩
theorem flX11_57 : FL RX11 57 11 31 := ⟨_, _, _, kc11, by decide, Or.inl (inLW (List.mem_of_getElem? (i := 1282) (by decide +kernel)) (by decide +kernel))⟩
theorem ffX11_57 : FF RX11 57 11 31 := ⟨_, _, _, kc11, by decide, rfl, rfl, inLW (List.mem_of_getElem? (i := 1282) (by decide +kernel)) (by decide +kernel)⟩
theorem flX11_246 : FL RX11 246 11 32 := ⟨_, _, _, kc11, by decide, Or.inl (inLW (List.mem_of_getElem? (i := 1283) (by decide +kernel)) (by decide +kernel))⟩
theorem fpX11_246 : FP RX11 246 11 32 := ⟨_, _, _, kc11, by decide, rfl, Or.inl (inLW (List.mem_of_getElem? (i := 1283) (by decide +kernel)) (by decide +kernel))⟩
theorem flX11_249 : FL RX11 249 11 33 := ⟨_, _, _, kc11, by decide, Or.inl (inLW (List.mem_of_getElem? (i := 1284) (by decide +kernel)) (by decide +kernel))⟩
theorem fpX11_249 : FP RX11 249 11 33 := ⟨_, _, _, kc11, by decide, rfl, Or.inl (inLW (List.mem_of_getElem? (i := 1284) (by decide +kernel)) (by decide +kernel))⟩
theorem flX11_252 : FL RX11 252 11 34 := ⟨_, _, _, kc11, by decide, Or.inl (inLW (List.mem_of_getElem? (i := 1285) (by decide +kernel)) (by decide +kernel))⟩
theorem fpX11_252 : FP RX11 252 11 34 := ⟨_, _, _, kc11, by decide, rfl, Or.inl (inLW (List.mem_of_getElem? (i := 1285) (by decide +kernel)) (by decide +kernel))⟩
theorem flX11_243 : FL RX11 243 11 35 := ⟨_, _, _, kc11, by decide, Or.inl (inLW (List.mem_of_getElem? (i := 1286) (by decide +kernel)) (by decide +kernel))⟩
theorem fpX11_243 : FP RX11 243 11 35 := ⟨_, _, _, kc11, by decide, rfl, Or.inl (inLW (List.mem_of_getElem? (i := 1286) (by decide +kernel)) (by decide +kernel))⟩
theorem flX11_297 : FL RX11 297 11 36 := ⟨_, _, _, kc11, by decide, Or.inl (inLW (List.mem_of_getElem? (i := 1287) (by decide +kernel)) (by decide +kernel))⟩
theorem fpX11_297 : FP RX11 297 11 36 := ⟨_, _, _, kc11, by decide, rfl, Or.inl (inLW (List.mem_of_getElem? (i := 1287) (by decide +kernel)) (by decide +kernel))⟩
theorem flX11_60 : FL RX11 60 11 37 := ⟨_, _, _, kc11, by decide, Or.inl (inLW (List.mem_of_getElem? (i := 1288) (by decide +kernel)) (by decide +kernel))⟩
theorem ffX11_60 : FF RX11 60 11 37 := ⟨_, _, _, kc11, by decide, rfl, rfl, inLW (List.mem_of_getElem? (i := 1288) (by decide +kernel)) (by decide +kernel)⟩
theorem flX11_63 : FL RX11 63 11 38 := ⟨_, _, _, kc11, by decide, Or.inl (inLW (List.mem_of_getElem? (i := 1289) (by decide +kernel)) (by decide +kernel))⟩
theorem ffX11_63 : FF RX11 63 11 38 := ⟨_, _, _, kc11, by decide, rfl, rfl, inLW (List.mem_of_getElem? (i := 1289) (by decide +kernel)) (by decide +kernel)⟩
theorem flX11_66 : FL RX11 66 11 39 := ⟨_, _, _, kc11, by decide, Or.inl (inLW (List.mem_of_getElem? (i := 1290) (by decide +kernel)) (by decide +kernel))⟩
theorem ffX11_66 : FF RX11 66 11 39 := ⟨_, _, _, kc11, by decide, rfl, rfl, inLW (List.mem_of_getElem? (i := 1290) (by decide +kernel)) (by decide +kernel)⟩
theorem flX11_69 : FL RX11 69 11 40 := ⟨_, _, _, kc11, by decide, Or.inl (inLW (List.mem_of_getElem? (i := 1291) (by decide +kernel)) (by decide +kernel))⟩
theorem ffX11_69 : FF RX11 69 11 40 := ⟨_, _, _, kc11, by decide, rfl, rfl, inLW (List.mem_of_getElem? (i := 1291) (by decide +kernel)) (by decide +kernel)⟩
theorem flX11_72 : FL RX11 72 11 41 := ⟨_, _, _, kc11, by decide, Or.inl (inLW (List.mem_of_getElem? (i := 1292) (by decide +kernel)) (by decide +kernel))⟩
theorem ffX11_72 : FF RX11 72 11 41 := ⟨_, _, _, kc11, by decide, rfl, rfl, inLW (List.mem_of_getElem? (i := 1292) (by decide +kernel)) (by decide +kernel)⟩
theorem flX11_75 : FL RX11 75 11 42 := ⟨_, _, _, kc11, by decide, Or.inl (inLW (List.mem_of_getElem? (i := 1293) (by decide +kernel)) (by decide +kernel))⟩
theorem ffX11_75 : FF RX11 75 11 42 := ⟨_, _, _, kc11, by decide, rfl, rfl, inLW (List.mem_of_getElem? (i := 1293) (by decide +kernel)) (by decide +kernel)⟩
theorem flX11_78 : FL RX11 78 11 43 := ⟨_, _, _, kc11, by decide, Or.inl (inLW (List.mem_of_getElem? (i := 1294) (by decide +kernel)) (by decide +kernel))⟩
theorem ffX11_78 : FF RX11 78 11 43 := ⟨_, _, _, kc11, by decide, rfl, rfl, inLW (List.mem_of_getElem? (i := 1294) (by decide +kernel)) (by decide +kernel)⟩
theorem flX11_81 : FL RX11 81 11 44 := ⟨_, _, _, kc11, by decide, Or.inl (inLW (List.mem_of_getElem? (i := 1295) (by decide +kernel)) (by decide +kernel))⟩
theorem ffX11_81 : FF RX11 81 11 44 := ⟨_, _, _, kc11, by decide, rfl, rfl, inLW (List.mem_of_getElem? (i := 1295) (by decide +kernel)) (by decide +kernel)⟩
theorem flX11_212 : FL RX11 212 11 45 := ⟨_, _, _, kc11, by decide, Or.inl (inLW (List.mem_of_getElem? (i := 1296) (by decide +kernel)) (by decide +kernel))⟩
theorem fpX11_212 : FP RX11 212 11 45 := ⟨_, _, _, kc11, by decide, rfl, Or.inl (inLW (List.mem_of_getElem? (i := 1296) (by decide +kernel)) (by decide +kernel))⟩
theorem flX11_84 : FL RX11 84 11 46 := ⟨_, _, _, kc11, by decide, Or.inl (inLW (List.mem_of_getElem? (i := 1297) (by decide +kernel)) (by decide +kernel))⟩
theorem ffX11_84 : FF RX11 84 11 46 := ⟨_, _, _, kc11, by decide, rfl, rfl, inLW (List.mem_of_getElem? (i := 1297) (by decide +kernel)) (by decide +kernel)⟩
theorem flX11_393 : FL RX11 393 11 47 := ⟨_, _, _, kc11, by decide, Or.inl (inLW (List.mem_of_getElem? (i := 1298) (by decide +kernel)) (by decide +kernel))⟩
theorem fpX11_393 : FP RX11 393 11 47 := ⟨_, _, _, kc11, by decide, rfl, Or.inl (inLW (List.mem_of_getElem? (i := 1298) (by decide +kernel)) (by decide +kernel))⟩
theorem flX11_215 : FL RX11 215 11 48 := ⟨_, _, _, kc11, by decide, Or.inl (inLW (List.mem_of_getElem? (i := 1299) (by decide +kernel)) (by decide +kernel))⟩
theorem fpX11_215 : FP RX11 215 11 48 := ⟨_, _, _, kc11, by decide, rfl, Or.inl (inLW (List.mem_of_getElem? (i := 1299) (by decide +kernel)) (by decide +kernel))⟩
theorem flX11_403 : FL RX11 403 11 49 := ⟨_, _, _, kc11, by decide, Or.inl (inLW (List.mem_of_getElem? (i := 1300) (by decide +kernel)) (by decide +kernel))⟩
theorem fpX11_403 : FP RX11 403 11 49 := ⟨_, _, _, kc11, by decide, rfl, Or.inl (inLW (List.mem_of_getElem? (i := 1300) (by decide +kernel)) (by decide +kernel))⟩
theorem flX11_406 : FL RX11 406 11 50 := ⟨_, _, _, kc11, by decide, Or.inl (inLW (List.mem_of_getElem? (i := 1301) (by decide +kernel)) (by decide +kernel))⟩
theorem fpX11_406 : FP RX11 406 11 50 := ⟨_, _, _, kc11, by decide, rfl, Or.inl (inLW (List.mem_of_getElem? (i := 1301) (by decide +kernel)) (by decide +kernel))⟩
theorem flX11_87 : FL RX11 87 11 51 := ⟨_, _, _, kc11, by decide, Or.inl (inLW (List.mem_of_getElem? (i := 1302) (by decide +kernel)) (by decide +kernel))⟩
theorem ffX11_87 : FF RX11 87 11 51 := ⟨_, _, _, kc11, by decide, rfl, rfl, inLW (List.mem_of_getElem? (i := 1302) (by decide +kernel)) (by decide +kernel)⟩
theorem flX11_90 : FL RX11 90 11 52 := ⟨_, _, _, kc11, by decide, Or.inl (inLW (List.mem_of_getElem? (i := 1303) (by decide +kernel)) (by decide +kernel))⟩
theorem ffX11_90 : FF RX11 90 11 52 := ⟨_, _, _, kc11, by decide, rfl, rfl, inLW (List.mem_of_getElem? (i := 1303) (by decide +kernel)) (by decide +kernel)⟩
theorem flX11_93 : FL RX11 93 11 53 := ⟨_, _, _, kc11, by decide, Or.inl (inLW (List.mem_of_getElem? (i := 1304) (by decide +kernel)) (by decide +kernel))⟩
theorem ffX11_93 : FF RX11 93 11 53 := ⟨_, _, _, kc11, by decide, rfl, rfl, inLW (List.mem_of_getElem? (i := 1304) (by decide +kernel)) (by decide +kernel)⟩
theorem mlL_114 : Cond.methodLink RL 114 yX11_thrown ∈ LW := inLW (List.mem_of_getElem? (i := 1414) (by decide +kernel)) (by decide +kernel)
theorem mlL_107 : Cond.methodLink RL 107 yX11_feed ∈ LW := inLW (List.mem_of_getElem? (i := 1418) (by decide +kernel)) (by decide +kernel)
theorem mlX11_102 : Cond.methodLink RX11 102 yX11_lays ∈ LW := inLW (List.mem_of_getElem? (i := 1422) (by decide +kernel)) (by decide +kernel)
theorem mlL_113 : Cond.methodLink RL 113 yX11_network ∈ LW := inLW (List.mem_of_getElem? (i := 1426) (by decide +kernel)) (by decide +kernel)
theorem mlX11_192 : Cond.methodLink RX11 192 yX11_right ∈ LW := inLW (List.mem_of_getElem? (i := 1430) (by decide +kernel)) (by decide +kernel)
theorem mlX11_148 : Cond.methodLink RX11 148 yX11_goes ∈ LW := inLW (List.mem_of_getElem? (i := 1434) (by decide +kernel)) (by decide +kernel)
theorem mlX11_112 : Cond.methodLink RX11 112 yX11_byteAt ∈ LW := inLW (List.mem_of_getElem? (i := 1438) (by decide +kernel)) (by decide +kernel)
theorem mlX11_129 : Cond.methodLink RX11 129 yX11_isLetter ∈ LW := inLW (List.mem_of_getElem? (i := 1442) (by decide +kernel)) (by decide +kernel)
theorem mlX11_133 : Cond.methodLink RX11 133 yX11_isDigit ∈ LW := inLW (List.mem_of_getElem? (i := 1445) (by decide +kernel)) (by decide +kernel)
theorem mlX11_170 : Cond.methodLink RX11 170 yX11_spelled ∈ LW := inLW (List.mem_of_getElem? (i := 1448) (by decide +kernel)) (by decide +kernel)
theorem koX11_139 : Cond.constantLong RX11 139 (96) ∈ LW := inLW (List.mem_of_getElem? (i := 1451) (by decide +kernel)) (by decide +kernel)
theorem mlX11_174 : Cond.methodLink RX11 174 yX11_isWord ∈ LW := inLW (List.mem_of_getElem? (i := 1452) (by decide +kernel)) (by decide +kernel)
theorem mlX11_163 : Cond.methodLink RX11 163 yX11_number ∈ LW := inLW (List.mem_of_getElem? (i := 1456) (by decide +kernel)) (by decide +kernel)
theorem mlX11_144 : Cond.methodLink RX11 144 yX11_isGood ∈ LW := inLW (List.mem_of_getElem? (i := 1460) (by decide +kernel)) (by decide +kernel)
theorem mlX11_151 : Cond.methodLink RX11 151 yX11_wrong ∈ LW := inLW (List.mem_of_getElem? (i := 1464) (by decide +kernel)) (by decide +kernel)
theorem mlX11_188 : Cond.methodLink RX11 188 yX11_need ∈ LW := inLW (List.mem_of_getElem? (i := 1468) (by decide +kernel)) (by decide +kernel)
theorem mlX11_196 : Cond.methodLink RX11 196 yX11_line ∈ LW := inLW (List.mem_of_getElem? (i := 1472) (by decide +kernel)) (by decide +kernel)
theorem mlX11_178 : Cond.methodLink RX11 178 yX11_begins ∈ LW := inLW (List.mem_of_getElem? (i := 1476) (by decide +kernel)) (by decide +kernel)
theorem mlX11_182 : Cond.methodLink RX11 182 yX11_readsLink ∈ LW := inLW (List.mem_of_getElem? (i := 1480) (by decide +kernel)) (by decide +kernel)
theorem mlX11_160 : Cond.methodLink RX11 160 yX11_nodeBut ∈ LW := inLW (List.mem_of_getElem? (i := 1484) (by decide +kernel)) (by decide +kernel)
theorem mlX11_185 : Cond.methodLink RX11 185 yX11_readsTunnel ∈ LW := inLW (List.mem_of_getElem? (i := 1488) (by decide +kernel)) (by decide +kernel)
theorem mlX11_205 : Cond.methodLink RX11 205 yX11_copies ∈ LW := inLW (List.mem_of_getElem? (i := 1492) (by decide +kernel)) (by decide +kernel)
theorem mlL_121 : Cond.methodLink RL 121 yX11_fault ∈ LW := inLW (List.mem_of_getElem? (i := 1496) (by decide +kernel)) (by decide +kernel)
theorem mlL_165 : Cond.methodLink RL 165 yX11_undo ∈ LW := inLW (List.mem_of_getElem? (i := 1500) (by decide +kernel)) (by decide +kernel)
theorem mlL_124 : Cond.methodLink RL 124 yX11_count ∈ LW := inLW (List.mem_of_getElem? (i := 1504) (by decide +kernel)) (by decide +kernel)
theorem mlX11_318 : Cond.methodLink RX11 318 yX11_within ∈ LW := inLW (List.mem_of_getElem? (i := 1508) (by decide +kernel)) (by decide +kernel)
theorem mlX11_309 : Cond.methodLink RX11 309 yX11_standing ∈ LW := inLW (List.mem_of_getElem? (i := 1511) (by decide +kernel)) (by decide +kernel)
theorem mlX11_219 : Cond.methodLink RX11 219 yX11_doesStand ∈ LW := inLW (List.mem_of_getElem? (i := 1515) (by decide +kernel)) (by decide +kernel)
theorem mlX11_321 : Cond.methodLink RX11 321 yX11_takenAll ∈ LW := inLW (List.mem_of_getElem? (i := 1519) (by decide +kernel)) (by decide +kernel)
theorem mlX11_269 : Cond.methodLink RX11 269 yX11_takenAt ∈ LW := inLW (List.mem_of_getElem? (i := 1523) (by decide +kernel)) (by decide +kernel)
theorem mlX11_229 : Cond.methodLink RX11 229 yX11_poolAt ∈ LW := inLW (List.mem_of_getElem? (i := 1527) (by decide +kernel)) (by decide +kernel)
theorem mlX11_223 : Cond.methodLink RX11 223 yX11_holdOf ∈ LW := inLW (List.mem_of_getElem? (i := 1531) (by decide +kernel)) (by decide +kernel)
theorem mlX11_226 : Cond.methodLink RX11 226 yX11_wayBits ∈ LW := inLW (List.mem_of_getElem? (i := 1535) (by decide +kernel)) (by decide +kernel)
theorem mlX11_324 : Cond.methodLink RX11 324 yX11_metricAll ∈ LW := inLW (List.mem_of_getElem? (i := 1539) (by decide +kernel)) (by decide +kernel)
theorem mlX11_240 : Cond.methodLink RX11 240 yX11_metric ∈ LW := inLW (List.mem_of_getElem? (i := 1543) (by decide +kernel)) (by decide +kernel)
theorem mlX11_328 : Cond.methodLink RX11 328 yX11_heaviest ∈ LW := inLW (List.mem_of_getElem? (i := 1547) (by decide +kernel)) (by decide +kernel)
theorem mlX11_233 : Cond.methodLink RX11 233 yX11_isUp ∈ LW := inLW (List.mem_of_getElem? (i := 1551) (by decide +kernel)) (by decide +kernel)
theorem mlX11_312 : Cond.methodLink RX11 312 yX11_loadAt ∈ LW := inLW (List.mem_of_getElem? (i := 1555) (by decide +kernel)) (by decide +kernel)
theorem mlX11_331 : Cond.methodLink RX11 331 yX11_worst ∈ LW := inLW (List.mem_of_getElem? (i := 1559) (by decide +kernel)) (by decide +kernel)
theorem mlX11_315 : Cond.methodLink RX11 315 yX11_lossBy ∈ LW := inLW (List.mem_of_getElem? (i := 1563) (by decide +kernel)) (by decide +kernel)
theorem mlX11_303 : Cond.methodLink RX11 303 yX11_tries ∈ LW := inLW (List.mem_of_getElem? (i := 1567) (by decide +kernel)) (by decide +kernel)
theorem mlX11_306 : Cond.methodLink RX11 306 yX11_fails ∈ LW := inLW (List.mem_of_getElem? (i := 1571) (by decide +kernel)) (by decide +kernel)
theorem mlX11_300 : Cond.methodLink RX11 300 yX11_settles ∈ LW := inLW (List.mem_of_getElem? (i := 1575) (by decide +kernel)) (by decide +kernel)
theorem mlX11_258 : Cond.methodLink RX11 258 yX11_setupOf ∈ LW := inLW (List.mem_of_getElem? (i := 1579) (by decide +kernel)) (by decide +kernel)
theorem mlX11_287 : Cond.methodLink RX11 287 yX11_hasBest ∈ LW := inLW (List.mem_of_getElem? (i := 1583) (by decide +kernel)) (by decide +kernel)
theorem mlX11_261 : Cond.methodLink RX11 261 yX11_laysPools ∈ LW := inLW (List.mem_of_getElem? (i := 1587) (by decide +kernel)) (by decide +kernel)
theorem mlX11_265 : Cond.methodLink RX11 265 yX11_isFound ∈ LW := inLW (List.mem_of_getElem? (i := 1591) (by decide +kernel)) (by decide +kernel)
theorem mlX11_255 : Cond.methodLink RX11 255 yX11_laysBest ∈ LW := inLW (List.mem_of_getElem? (i := 1595) (by decide +kernel)) (by decide +kernel)
theorem koX11_236 : Cond.constant RX11 236 (999999) ∈ LW := inLW (List.mem_of_getElem? (i := 1599) (by decide +kernel)) (by decide +kernel)
theorem mlX11_237 : Cond.methodLink RX11 237 yX11_lesser ∈ LW := inLW (List.mem_of_getElem? (i := 1600) (by decide +kernel)) (by decide +kernel)
theorem mlX11_290 : Cond.methodLink RX11 290 yX11_takes ∈ LW := inLW (List.mem_of_getElem? (i := 1603) (by decide +kernel)) (by decide +kernel)
theorem mlX11_294 : Cond.methodLink RX11 294 yX11_pushedBy ∈ LW := inLW (List.mem_of_getElem? (i := 1607) (by decide +kernel)) (by decide +kernel)
theorem mlX11_281 : Cond.methodLink RX11 281 yX11_isEnough ∈ LW := inLW (List.mem_of_getElem? (i := 1611) (by decide +kernel)) (by decide +kernel)
theorem mlX11_284 : Cond.methodLink RX11 284 yX11_isLess ∈ LW := inLW (List.mem_of_getElem? (i := 1615) (by decide +kernel)) (by decide +kernel)
theorem mlX11_272 : Cond.methodLink RX11 272 yX11_harm ∈ LW := inLW (List.mem_of_getElem? (i := 1619) (by decide +kernel)) (by decide +kernel)
theorem mlX11_275 : Cond.methodLink RX11 275 yX11_bits ∈ LW := inLW (List.mem_of_getElem? (i := 1623) (by decide +kernel)) (by decide +kernel)
theorem mlX11_278 : Cond.methodLink RX11 278 yX11_bandOf ∈ LW := inLW (List.mem_of_getElem? (i := 1626) (by decide +kernel)) (by decide +kernel)
theorem mlL_128 : Cond.methodLink RL 128 yX11_link ∈ LW := inLW (List.mem_of_getElem? (i := 1630) (by decide +kernel)) (by decide +kernel)
theorem mlX11_335 : Cond.methodLink RX11 335 yX11_isLink ∈ LW := inLW (List.mem_of_getElem? (i := 1634) (by decide +kernel)) (by decide +kernel)
theorem mlX11_338 : Cond.methodLink RX11 338 yX11_isWhat ∈ LW := inLW (List.mem_of_getElem? (i := 1638) (by decide +kernel)) (by decide +kernel)
theorem mlX11_341 : Cond.methodLink RX11 341 yX11_onLink ∈ LW := inLW (List.mem_of_getElem? (i := 1642) (by decide +kernel)) (by decide +kernel)
theorem mlL_131 : Cond.methodLink RL 131 yX11_pool ∈ LW := inLW (List.mem_of_getElem? (i := 1646) (by decide +kernel)) (by decide +kernel)
theorem mlL_134 : Cond.methodLink RL 134 yX11_tunnel ∈ LW := inLW (List.mem_of_getElem? (i := 1650) (by decide +kernel)) (by decide +kernel)
theorem mlX11_347 : Cond.methodLink RX11 347 yX11_isTunnel ∈ LW := inLW (List.mem_of_getElem? (i := 1654) (by decide +kernel)) (by decide +kernel)
theorem mlX11_350 : Cond.methodLink RX11 350 yX11_stretch ∈ LW := inLW (List.mem_of_getElem? (i := 1658) (by decide +kernel)) (by decide +kernel)
theorem mlX11_344 : Cond.methodLink RX11 344 yX11_hasAny ∈ LW := inLW (List.mem_of_getElem? (i := 1662) (by decide +kernel)) (by decide +kernel)
theorem mlL_137 : Cond.methodLink RL 137 yX11_way ∈ LW := inLW (List.mem_of_getElem? (i := 1666) (by decide +kernel)) (by decide +kernel)
theorem mlL_140 : Cond.methodLink RL 140 yX11_best ∈ LW := inLW (List.mem_of_getElem? (i := 1670) (by decide +kernel)) (by decide +kernel)
theorem mlL_143 : Cond.methodLink RL 143 yX11_pushes ∈ LW := inLW (List.mem_of_getElem? (i := 1674) (by decide +kernel)) (by decide +kernel)
theorem mlL_146 : Cond.methodLink RL 146 yX11_setUp ∈ LW := inLW (List.mem_of_getElem? (i := 1678) (by decide +kernel)) (by decide +kernel)
theorem mlX11_353 : Cond.methodLink RX11 353 yX11_refuses ∈ LW := inLW (List.mem_of_getElem? (i := 1682) (by decide +kernel)) (by decide +kernel)
theorem mlX11_356 : Cond.methodLink RX11 356 yX11_keeps ∈ LW := inLW (List.mem_of_getElem? (i := 1686) (by decide +kernel)) (by decide +kernel)
theorem mlL_149 : Cond.methodLink RL 149 yX11_tearDown ∈ LW := inLW (List.mem_of_getElem? (i := 1690) (by decide +kernel)) (by decide +kernel)
theorem mlL_152 : Cond.methodLink RL 152 yX11_move ∈ LW := inLW (List.mem_of_getElem? (i := 1694) (by decide +kernel)) (by decide +kernel)
theorem mlX11_359 : Cond.methodLink RX11 359 yX11_isAsBest ∈ LW := inLW (List.mem_of_getElem? (i := 1698) (by decide +kernel)) (by decide +kernel)
theorem mlL_155 : Cond.methodLink RL 155 yX11_resize ∈ LW := inLW (List.mem_of_getElem? (i := 1702) (by decide +kernel)) (by decide +kernel)
theorem mlL_158 : Cond.methodLink RL 158 yX11_fail ∈ LW := inLW (List.mem_of_getElem? (i := 1706) (by decide +kernel)) (by decide +kernel)
theorem mlL_161 : Cond.methodLink RL 161 yX11_mend ∈ LW := inLW (List.mem_of_getElem? (i := 1710) (by decide +kernel)) (by decide +kernel)
theorem mlL_168 : Cond.methodLink RL 168 yX11_planned ∈ LW := inLW (List.mem_of_getElem? (i := 1714) (by decide +kernel)) (by decide +kernel)
theorem mlX11_365 : Cond.methodLink RX11 365 yX11_laysPlan ∈ LW := inLW (List.mem_of_getElem? (i := 1718) (by decide +kernel)) (by decide +kernel)
theorem mlX11_362 : Cond.methodLink RX11 362 yX11_isSooner ∈ LW := inLW (List.mem_of_getElem? (i := 1722) (by decide +kernel)) (by decide +kernel)
theorem mlL_171 : Cond.methodLink RL 171 yX11_order ∈ LW := inLW (List.mem_of_getElem? (i := 1726) (by decide +kernel)) (by decide +kernel)
theorem mlX11_371 : Cond.methodLink RX11 371 yX11_toMove ∈ LW := inLW (List.mem_of_getElem? (i := 1730) (by decide +kernel)) (by decide +kernel)
theorem mlX11_374 : Cond.methodLink RX11 374 yX11_laysCan ∈ LW := inLW (List.mem_of_getElem? (i := 1734) (by decide +kernel)) (by decide +kernel)
theorem mlX11_368 : Cond.methodLink RX11 368 yX11_isBooked ∈ LW := inLW (List.mem_of_getElem? (i := 1738) (by decide +kernel)) (by decide +kernel)
theorem mlL_175 : Cond.methodLink RL 175 yX11_toBreak ∈ LW := inLW (List.mem_of_getElem? (i := 1742) (by decide +kernel)) (by decide +kernel)
theorem mlL_179 : Cond.methodLink RL 179 yX11_widest ∈ LW := inLW (List.mem_of_getElem? (i := 1746) (by decide +kernel)) (by decide +kernel)
theorem mlX11_377 : Cond.methodLink RX11 377 yX11_isNode ∈ LW := inLW (List.mem_of_getElem? (i := 1750) (by decide +kernel)) (by decide +kernel)
theorem mlX11_380 : Cond.methodLink RX11 380 yX11_isFoundFor ∈ LW := inLW (List.mem_of_getElem? (i := 1754) (by decide +kernel)) (by decide +kernel)
theorem mlL_182 : Cond.methodLink RL 182 yX11_apart ∈ LW := inLW (List.mem_of_getElem? (i := 1758) (by decide +kernel)) (by decide +kernel)
theorem mlL_185 : Cond.methodLink RL 185 yX11_cuts ∈ LW := inLW (List.mem_of_getElem? (i := 1762) (by decide +kernel)) (by decide +kernel)
theorem mlX11_384 : Cond.methodLink RX11 384 yX11_doesReach ∈ LW := inLW (List.mem_of_getElem? (i := 1766) (by decide +kernel)) (by decide +kernel)
theorem mlL_188 : Cond.methodLink RL 188 yX11_flow ∈ LW := inLW (List.mem_of_getElem? (i := 1770) (by decide +kernel)) (by decide +kernel)
theorem mlX11_387 : Cond.methodLink RX11 387 yX11_isAugmented ∈ LW := inLW (List.mem_of_getElem? (i := 1774) (by decide +kernel)) (by decide +kernel)
theorem mlL_191 : Cond.methodLink RL 191 yX11_distance ∈ LW := inLW (List.mem_of_getElem? (i := 1778) (by decide +kernel)) (by decide +kernel)
theorem mlL_194 : Cond.methodLink RL 194 yX11_room ∈ LW := inLW (List.mem_of_getElem? (i := 1782) (by decide +kernel)) (by decide +kernel)
theorem mlL_197 : Cond.methodLink RL 197 yX11_saved ∈ LW := inLW (List.mem_of_getElem? (i := 1786) (by decide +kernel)) (by decide +kernel)
theorem mlL_201 : Cond.methodLink RL 201 yX11_see ∈ LW := inLW (List.mem_of_getElem? (i := 1790) (by decide +kernel)) (by decide +kernel)
theorem mlL_205 : Cond.methodLink RL 205 yX11_forget ∈ LW := inLW (List.mem_of_getElem? (i := 1794) (by decide +kernel)) (by decide +kernel)
theorem mlL_208 : Cond.methodLink RL 208 yX11_other ∈ LW := inLW (List.mem_of_getElem? (i := 1798) (by decide +kernel)) (by decide +kernel)
theorem mlX11_390 : Cond.methodLink RX11 390 yX11_isSeen ∈ LW := inLW (List.mem_of_getElem? (i := 1802) (by decide +kernel)) (by decide +kernel)
theorem mlL_211 : Cond.methodLink RL 211 yX11_luck ∈ LW := inLW (List.mem_of_getElem? (i := 1806) (by decide +kernel)) (by decide +kernel)
theorem mlL_214 : Cond.methodLink RL 214 yX11_years ∈ LW := inLW (List.mem_of_getElem? (i := 1810) (by decide +kernel)) (by decide +kernel)
theorem mlX11_400 : Cond.methodLink RX11 400 yX11_happens ∈ LW := inLW (List.mem_of_getElem? (i := 1814) (by decide +kernel)) (by decide +kernel)
theorem mlX11_397 : Cond.methodLink RX11 397 yX11_draw ∈ LW := inLW (List.mem_of_getElem? (i := 1818) (by decide +kernel)) (by decide +kernel)
theorem koX11_396 : Cond.constant RX11 396 (1103515245) ∈ LW := inLW (List.mem_of_getElem? (i := 1822) (by decide +kernel)) (by decide +kernel)
theorem mlL_218 : Cond.methodLink RL 218 yX11_image ∈ LW := inLW (List.mem_of_getElem? (i := 1823) (by decide +kernel)) (by decide +kernel)
theorem mlL_223 : Cond.methodLink RL 223 yX11_restore ∈ LW := inLW (List.mem_of_getElem? (i := 1827) (by decide +kernel)) (by decide +kernel)
theorem ac_long : Cond.arrayClass .long ∈ LW := inLW (List.mem_of_getElem? (i := 1831) (by decide +kernel)) (by decide +kernel)
theorem oi_1 : Cond.instanceMethod objectInit ∈ LW := inLW (List.mem_of_getElem? (i := 31) (by decide +kernel)) (by decide +kernel)
theorem oi_2 : Cond.code objectInit ⟨#[0xb1]⟩ 1 none ∈ LW := inLW (List.mem_of_getElem? (i := 32) (by decide +kernel)) (by decide +kernel)
theorem sy_1 : Cond.native arraycopyName ∈ LW := inLW (List.mem_of_getElem? (i := 480) (by decide +kernel)) (by decide +kernel)
theorem sy_2 : Cond.static arraycopyName ∈ LW := inLW (List.mem_of_getElem? (i := 479) (by decide +kernel)) (by decide +kernel)
theorem sy_3 : Cond.initialized "java/lang/System" ∈ LW := inLW (List.mem_of_getElem? (i := 20) (by decide +kernel)) (by decide +kernel)
theorem ma_max1 : Cond.static Lib.Math.max.name ∈ LW := inLW (List.mem_of_getElem? (i := 490) (by decide +kernel)) (by decide +kernel)
theorem ma_max3 : Cond.code Lib.Math.max.name Lib.Math.max.code 2 (some .int) ∈ LW := inLW (List.mem_append_right _ (List.mem_append_right _ (List.mem_append_left _ (List.mem_of_getElem? (i := 11) rfl)))) (by decide +kernel)
theorem ma_min1 : Cond.static Lib.Math.min.name ∈ LW := inLW (List.mem_of_getElem? (i := 487) (by decide +kernel)) (by decide +kernel)
theorem ma_min3 : Cond.code Lib.Math.min.name Lib.Math.min.code 2 (some .int) ∈ LW := inLW (List.mem_append_right _ (List.mem_append_right _ (List.mem_append_left _ (List.mem_of_getElem? (i := 8) rfl)))) (by decide +kernel)
theorem ma_2 : Cond.initialized "java/lang/Math" ∈ LW := inLW (List.mem_of_getElem? (i := 15) (by decide +kernel)) (by decide +kernel)
theorem lbX0_init : LkB yX0_init cX0_init 2 none 0 := ⟨inLW (List.mem_append_right _ (List.mem_append_left _ (List.mem_of_getElem? (i := 55) rfl))) (by decide +kernel), inLW (List.mem_of_getElem? (i := 8) (by decide +kernel)) (by decide +kernel), ⟨by decide +kernel, by decide +kernel, by decide +kernel⟩, by decide⟩
theorem imX0_init : Cond.instanceMethod yX0_init ∈ LW := inLW (List.mem_of_getElem? (i := 294) (by decide +kernel)) (by decide +kernel)
theorem lbX0_clear : LkB yX0_clear cX0_clear 1 none 0 := ⟨inLW (List.mem_append_right _ (List.mem_append_right _ (List.mem_append_right _ (List.mem_append_left _ (List.mem_of_getElem? (i := 37) rfl))))) (by decide +kernel), inLW (List.mem_of_getElem? (i := 8) (by decide +kernel)) (by decide +kernel), ⟨by decide +kernel, by decide +kernel, by decide +kernel⟩, by decide⟩
theorem imX0_clear : Cond.instanceMethod yX0_clear ∈ LW := inLW (List.mem_of_getElem? (i := 756) (by decide +kernel)) (by decide +kernel)
theorem seX0_clear : Cond.selects yX0_clear.cls yX0_clear yX0_clear ∈ LW := inLWs (List.mem_of_getElem? (i := 43) (by decide +kernel)) (by decide +kernel)
theorem lbX0_keep : LkB yX0_keep cX0_keep 2 none 1 := ⟨inLW (List.mem_append_right _ (List.mem_append_right _ (List.mem_append_right _ (List.mem_append_right _ (List.mem_append_left _ (List.mem_of_getElem? (i := 1) rfl)))))) (by decide +kernel), inLW (List.mem_of_getElem? (i := 8) (by decide +kernel)) (by decide +kernel), ⟨by decide +kernel, by decide +kernel, by decide +kernel⟩, by decide⟩
theorem imX0_keep : Cond.instanceMethod yX0_keep ∈ LW := inLW (List.mem_of_getElem? (i := 960) (by decide +kernel)) (by decide +kernel)
theorem seX0_keep : Cond.selects yX0_keep.cls yX0_keep yX0_keep ∈ LW := inLWs (List.mem_of_getElem? (i := 68) (by decide +kernel)) (by decide +kernel)
theorem lbX0_takeBack : LkB yX0_takeBack cX0_takeBack 2 none 1 := ⟨inLW (List.mem_append_right _ (List.mem_append_left _ (List.mem_of_getElem? (i := 186) rfl))) (by decide +kernel), inLW (List.mem_of_getElem? (i := 8) (by decide +kernel)) (by decide +kernel), ⟨by decide +kernel, by decide +kernel, by decide +kernel⟩, by decide⟩
theorem imX0_takeBack : Cond.instanceMethod yX0_takeBack ∈ LW := inLW (List.mem_of_getElem? (i := 425) (by decide +kernel)) (by decide +kernel)
theorem seX0_takeBack : Cond.selects yX0_takeBack.cls yX0_takeBack yX0_takeBack ∈ LW := inLWs (List.mem_of_getElem? (i := 1) (by decide +kernel)) (by decide +kernel)
theorem lbX0_copyFrom : LkB yX0_copyFrom cX0_copyFrom 3 none 1 := ⟨inLW (List.mem_append_right _ (List.mem_append_right _ (List.mem_append_left _ (List.mem_of_getElem? (i := 74) rfl)))) (by decide +kernel), inLW (List.mem_of_getElem? (i := 8) (by decide +kernel)) (by decide +kernel), ⟨by decide +kernel, by decide +kernel, by decide +kernel⟩, by decide⟩
theorem imX0_copyFrom : Cond.instanceMethod yX0_copyFrom ∈ LW := inLW (List.mem_of_getElem? (i := 553) (by decide +kernel)) (by decide +kernel)
theorem seX0_copyFrom : Cond.selects yX0_copyFrom.cls yX0_copyFrom yX0_copyFrom ∈ LW := inLWs (List.mem_of_getElem? (i := 25) (by decide +kernel)) (by decide +kernel)
theorem lbX1_init : LkB yX1_init cX1_init 6 none 5 := ⟨inLW (List.mem_append_right _ (List.mem_append_right _ (List.mem_append_right _ (List.mem_append_right _ (List.mem_append_left _ (List.mem_of_getElem? (i := 96) rfl)))))) (by decide +kernel), inLW (List.mem_of_getElem? (i := 23) (by decide +kernel)) (by decide +kernel), ⟨by decide +kernel, by decide +kernel, by decide +kernel⟩, by decide⟩
theorem imX1_init : Cond.instanceMethod yX1_init ∈ LW := inLW (List.mem_of_getElem? (i := 1055) (by decide +kernel)) (by decide +kernel)
theorem lbX1_leastSum : LkB yX1_leastSum cX1_leastSum 2 (some .int) 1 := ⟨inLW (List.mem_append_right _ (List.mem_append_right _ (List.mem_append_right _ (List.mem_append_right _ (List.mem_append_left _ (List.mem_of_getElem? (i := 121) rfl)))))) (by decide +kernel), inLW (List.mem_of_getElem? (i := 23) (by decide +kernel)) (by decide +kernel), ⟨by decide +kernel, by decide +kernel, by decide +kernel⟩, by decide⟩
theorem imX1_leastSum : Cond.instanceMethod yX1_leastSum ∈ LW := inLW (List.mem_of_getElem? (i := 1080) (by decide +kernel)) (by decide +kernel)
theorem seX1_leastSum : Cond.selects yX1_leastSum.cls yX1_leastSum yX1_leastSum ∈ LW := inLWs (List.mem_of_getElem? (i := 73) (by decide +kernel)) (by decide +kernel)
theorem lbX1_tryFirst : LkB yX1_tryFirst cX1_tryFirst 9 none 5 := ⟨inLW (List.mem_append_right _ (List.mem_append_right _ (List.mem_append_right _ (List.mem_append_right _ (List.mem_append_left _ (List.mem_of_getElem? (i := 125) rfl)))))) (by decide +kernel), inLW (List.mem_of_getElem? (i := 23) (by decide +kernel)) (by decide +kernel), ⟨by decide +kernel, by decide +kernel, by decide +kernel⟩, by decide⟩
theorem imX1_tryFirst : Cond.instanceMethod yX1_tryFirst ∈ LW := inLW (List.mem_of_getElem? (i := 1084) (by decide +kernel)) (by decide +kernel)
theorem seX1_tryFirst : Cond.selects yX1_tryFirst.cls yX1_tryFirst yX1_tryFirst ∈ LW := inLWs (List.mem_of_getElem? (i := 74) (by decide +kernel)) (by decide +kernel)
theorem lbX2_init : LkB yX2_init cX2_init 4 none 3 := ⟨inLW (List.mem_append_left _ (List.mem_of_getElem? (i := 237) rfl)) (by decide +kernel), inLW (List.mem_of_getElem? (i := 6) (by decide +kernel)) (by decide +kernel), ⟨by decide +kernel, by decide +kernel, by decide +kernel⟩, by decide⟩
theorem imX2_init : Cond.instanceMethod yX2_init ∈ LW := inLW (List.mem_of_getElem? (i := 236) (by decide +kernel)) (by decide +kernel)
theorem lbX2_standing : LkB yX2_standing cX2_standing 3 (some .int) 0 := ⟨inLW (List.mem_append_right _ (List.mem_append_right _ (List.mem_append_right _ (List.mem_append_left _ (List.mem_of_getElem? (i := 49) rfl))))) (by decide +kernel), inLW (List.mem_of_getElem? (i := 6) (by decide +kernel)) (by decide +kernel), ⟨by decide +kernel, by decide +kernel, by decide +kernel⟩, by decide⟩
theorem imX2_standing : Cond.instanceMethod yX2_standing ∈ LW := inLW (List.mem_of_getElem? (i := 768) (by decide +kernel)) (by decide +kernel)
theorem seX2_standing : Cond.selects yX2_standing.cls yX2_standing yX2_standing ∈ LW := inLWs (List.mem_of_getElem? (i := 44) (by decide +kernel)) (by decide +kernel)
theorem lbX2_tunnelsOn : LkB yX2_tunnelsOn cX2_tunnelsOn 4 (some .int) 1 := ⟨inLW (List.mem_append_right _ (List.mem_append_right _ (List.mem_append_right _ (List.mem_append_left _ (List.mem_of_getElem? (i := 83) rfl))))) (by decide +kernel), inLW (List.mem_of_getElem? (i := 6) (by decide +kernel)) (by decide +kernel), ⟨by decide +kernel, by decide +kernel, by decide +kernel⟩, by decide⟩
theorem imX2_tunnelsOn : Cond.instanceMethod yX2_tunnelsOn ∈ LW := inLW (List.mem_of_getElem? (i := 802) (by decide +kernel)) (by decide +kernel)
theorem seX2_tunnelsOn : Cond.selects yX2_tunnelsOn.cls yX2_tunnelsOn yX2_tunnelsOn ∈ LW := inLWs (List.mem_of_getElem? (i := 52) (by decide +kernel)) (by decide +kernel)
theorem lbX2_taken : LkB yX2_taken cX2_taken 2 (some .int) 1 := ⟨inLW (List.mem_append_right _ (List.mem_append_right _ (List.mem_append_left _ (List.mem_of_getElem? (i := 35) rfl)))) (by decide +kernel), inLW (List.mem_of_getElem? (i := 6) (by decide +kernel)) (by decide +kernel), ⟨by decide +kernel, by decide +kernel, by decide +kernel⟩, by decide⟩
theorem imX2_taken : Cond.instanceMethod yX2_taken ∈ LW := inLW (List.mem_of_getElem? (i := 514) (by decide +kernel)) (by decide +kernel)
theorem seX2_taken : Cond.selects yX2_taken.cls yX2_taken yX2_taken ∈ LW := inLWs (List.mem_of_getElem? (i := 19) (by decide +kernel)) (by decide +kernel)
theorem lbX2_poolWithout : LkB yX2_poolWithout cX2_poolWithout 6 (some .int) 3 := ⟨inLW (List.mem_append_right _ (List.mem_append_left _ (List.mem_of_getElem? (i := 224) rfl))) (by decide +kernel), inLW (List.mem_of_getElem? (i := 6) (by decide +kernel)) (by decide +kernel), ⟨by decide +kernel, by decide +kernel, by decide +kernel⟩, by decide⟩
theorem imX2_poolWithout : Cond.instanceMethod yX2_poolWithout ∈ LW := inLW (List.mem_of_getElem? (i := 463) (by decide +kernel)) (by decide +kernel)
theorem seX2_poolWithout : Cond.selects yX2_poolWithout.cls yX2_poolWithout yX2_poolWithout ∈ LW := inLWs (List.mem_of_getElem? (i := 9) (by decide +kernel)) (by decide +kernel)
theorem lbX2_showPools : LkB yX2_showPools cX2_showPools 4 none 2 := ⟨inLW (List.mem_append_right _ (List.mem_append_left _ (List.mem_of_getElem? (i := 228) rfl))) (by decide +kernel), inLW (List.mem_of_getElem? (i := 6) (by decide +kernel)) (by decide +kernel), ⟨by decide +kernel, by decide +kernel, by decide +kernel⟩, by decide⟩
theorem imX2_showPools : Cond.instanceMethod yX2_showPools ∈ LW := inLW (List.mem_of_getElem? (i := 467) (by decide +kernel)) (by decide +kernel)
theorem seX2_showPools : Cond.selects yX2_showPools.cls yX2_showPools yX2_showPools ∈ LW := inLWs (List.mem_of_getElem? (i := 10) (by decide +kernel)) (by decide +kernel)
theorem lbX2_takenOfAll : LkB yX2_takenOfAll cX2_takenOfAll 3 (some .int) 0 := ⟨inLW (List.mem_append_right _ (List.mem_append_right _ (List.mem_append_right _ (List.mem_append_left _ (List.mem_of_getElem? (i := 53) rfl))))) (by decide +kernel), inLW (List.mem_of_getElem? (i := 6) (by decide +kernel)) (by decide +kernel), ⟨by decide +kernel, by decide +kernel, by decide +kernel⟩, by decide⟩
theorem imX2_takenOfAll : Cond.instanceMethod yX2_takenOfAll ∈ LW := inLW (List.mem_of_getElem? (i := 772) (by decide +kernel)) (by decide +kernel)
theorem seX2_takenOfAll : Cond.selects yX2_takenOfAll.cls yX2_takenOfAll yX2_takenOfAll ∈ LW := inLWs (List.mem_of_getElem? (i := 45) (by decide +kernel)) (by decide +kernel)
theorem lbX2_metricOfAll : LkB yX2_metricOfAll cX2_metricOfAll 3 (some .int) 0 := ⟨inLW (List.mem_append_right _ (List.mem_append_right _ (List.mem_append_right _ (List.mem_append_left _ (List.mem_of_getElem? (i := 58) rfl))))) (by decide +kernel), inLW (List.mem_of_getElem? (i := 6) (by decide +kernel)) (by decide +kernel), ⟨by decide +kernel, by decide +kernel, by decide +kernel⟩, by decide⟩
theorem imX2_metricOfAll : Cond.instanceMethod yX2_metricOfAll ∈ LW := inLW (List.mem_of_getElem? (i := 777) (by decide +kernel)) (by decide +kernel)
theorem seX2_metricOfAll : Cond.selects yX2_metricOfAll.cls yX2_metricOfAll yX2_metricOfAll ∈ LW := inLWs (List.mem_of_getElem? (i := 46) (by decide +kernel)) (by decide +kernel)
theorem lbX2_fullestLink : LkB yX2_fullestLink cX2_fullestLink 4 (some .int) 0 := ⟨inLW (List.mem_append_right _ (List.mem_append_right _ (List.mem_append_right _ (List.mem_append_left _ (List.mem_of_getElem? (i := 66) rfl))))) (by decide +kernel), inLW (List.mem_of_getElem? (i := 6) (by decide +kernel)) (by decide +kernel), ⟨by decide +kernel, by decide +kernel, by decide +kernel⟩, by decide⟩
theorem imX2_fullestLink : Cond.instanceMethod yX2_fullestLink ∈ LW := inLW (List.mem_of_getElem? (i := 785) (by decide +kernel)) (by decide +kernel)
theorem seX2_fullestLink : Cond.selects yX2_fullestLink.cls yX2_fullestLink yX2_fullestLink ∈ LW := inLWs (List.mem_of_getElem? (i := 48) (by decide +kernel)) (by decide +kernel)
theorem lbX2_percentOf : LkB yX2_percentOf cX2_percentOf 2 (some .int) 1 := ⟨inLW (List.mem_append_right _ (List.mem_append_right _ (List.mem_append_right _ (List.mem_append_left _ (List.mem_of_getElem? (i := 70) rfl))))) (by decide +kernel), inLW (List.mem_of_getElem? (i := 6) (by decide +kernel)) (by decide +kernel), ⟨by decide +kernel, by decide +kernel, by decide +kernel⟩, by decide⟩
theorem imX2_percentOf : Cond.instanceMethod yX2_percentOf ∈ LW := inLW (List.mem_of_getElem? (i := 789) (by decide +kernel)) (by decide +kernel)
theorem seX2_percentOf : Cond.selects yX2_percentOf.cls yX2_percentOf yX2_percentOf ∈ LW := inLWs (List.mem_of_getElem? (i := 49) (by decide +kernel)) (by decide +kernel)
theorem lbX2_openTo : LkB yX2_openTo cX2_openTo 4 (some .int) 1 := ⟨inLW (List.mem_append_right _ (List.mem_append_left _ (List.mem_of_getElem? (i := 220) rfl))) (by decide +kernel), inLW (List.mem_of_getElem? (i := 6) (by decide +kernel)) (by decide +kernel), ⟨by decide +kernel, by decide +kernel, by decide +kernel⟩, by decide⟩
theorem imX2_openTo : Cond.instanceMethod yX2_openTo ∈ LW := inLW (List.mem_of_getElem? (i := 459) (by decide +kernel)) (by decide +kernel)
theorem seX2_openTo : Cond.selects yX2_openTo.cls yX2_openTo yX2_openTo ∈ LW := inLWs (List.mem_of_getElem? (i := 8) (by decide +kernel)) (by decide +kernel)
theorem lbX2_leastMetric : LkB yX2_leastMetric cX2_leastMetric 2 (some .int) 1 := ⟨inLW (List.mem_append_right _ (List.mem_append_right _ (List.mem_append_right _ (List.mem_append_left _ (List.mem_of_getElem? (i := 183) rfl))))) (by decide +kernel), inLW (List.mem_of_getElem? (i := 6) (by decide +kernel)) (by decide +kernel), ⟨by decide +kernel, by decide +kernel, by decide +kernel⟩, by decide⟩
theorem imX2_leastMetric : Cond.instanceMethod yX2_leastMetric ∈ LW := inLW (List.mem_of_getElem? (i := 902) (by decide +kernel)) (by decide +kernel)
theorem seX2_leastMetric : Cond.selects yX2_leastMetric.cls yX2_leastMetric yX2_leastMetric ∈ LW := inLWs (List.mem_of_getElem? (i := 63) (by decide +kernel)) (by decide +kernel)
theorem lbX2_fitting : LkB yX2_fitting cX2_fitting 7 (some .int) 3 := ⟨inLW (List.mem_append_right _ (List.mem_append_left _ (List.mem_of_getElem? (i := 216) rfl))) (by decide +kernel), inLW (List.mem_of_getElem? (i := 6) (by decide +kernel)) (by decide +kernel), ⟨by decide +kernel, by decide +kernel, by decide +kernel⟩, by decide⟩
theorem imX2_fitting : Cond.instanceMethod yX2_fitting ∈ LW := inLW (List.mem_of_getElem? (i := 455) (by decide +kernel)) (by decide +kernel)
theorem seX2_fitting : Cond.selects yX2_fitting.cls yX2_fitting yX2_fitting ∈ LW := inLWs (List.mem_of_getElem? (i := 7) (by decide +kernel)) (by decide +kernel)
theorem lbX2_bestNow : LkB yX2_bestNow cX2_bestNow 2 (some .int) 1 := ⟨inLW (List.mem_append_right _ (List.mem_append_right _ (List.mem_append_right _ (List.mem_append_left _ (List.mem_of_getElem? (i := 216) rfl))))) (by decide +kernel), inLW (List.mem_of_getElem? (i := 6) (by decide +kernel)) (by decide +kernel), ⟨by decide +kernel, by decide +kernel, by decide +kernel⟩, by decide⟩
theorem imX2_bestNow : Cond.instanceMethod yX2_bestNow ∈ LW := inLW (List.mem_of_getElem? (i := 935) (by decide +kernel)) (by decide +kernel)
theorem seX2_bestNow : Cond.selects yX2_bestNow.cls yX2_bestNow yX2_bestNow ∈ LW := inLWs (List.mem_of_getElem? (i := 66) (by decide +kernel)) (by decide +kernel)
theorem lbX2_bestWay : LkB yX2_bestWay cX2_bestWay 5 (some .int) 3 := ⟨inLW (List.mem_append_right _ (List.mem_append_left _ (List.mem_of_getElem? (i := 212) rfl))) (by decide +kernel), inLW (List.mem_of_getElem? (i := 6) (by decide +kernel)) (by decide +kernel), ⟨by decide +kernel, by decide +kernel, by decide +kernel⟩, by decide⟩
theorem imX2_bestWay : Cond.instanceMethod yX2_bestWay ∈ LW := inLW (List.mem_of_getElem? (i := 451) (by decide +kernel)) (by decide +kernel)
theorem seX2_bestWay : Cond.selects yX2_bestWay.cls yX2_bestWay yX2_bestWay ∈ LW := inLWs (List.mem_of_getElem? (i := 6) (by decide +kernel)) (by decide +kernel)
theorem lbX2_hasWayWithout : LkB yX2_hasWayWithout cX2_hasWayWithout 4 (some .boolean) 2 := ⟨inLW (List.mem_append_right _ (List.mem_append_right _ (List.mem_append_right _ (List.mem_append_right _ (List.mem_append_left _ (List.mem_of_getElem? (i := 185) rfl)))))) (by decide +kernel), inLW (List.mem_of_getElem? (i := 6) (by decide +kernel)) (by decide +kernel), ⟨by decide +kernel, by decide +kernel, by decide +kernel⟩, by decide⟩
theorem imX2_hasWayWithout : Cond.instanceMethod yX2_hasWayWithout ∈ LW := inLW (List.mem_of_getElem? (i := 1144) (by decide +kernel)) (by decide +kernel)
theorem seX2_hasWayWithout : Cond.selects yX2_hasWayWithout.cls yX2_hasWayWithout yX2_hasWayWithout ∈ LW := inLWs (List.mem_of_getElem? (i := 79) (by decide +kernel)) (by decide +kernel)
theorem lbX2_drop : LkB yX2_drop cX2_drop 3 none 1 := ⟨inLW (List.mem_append_right _ (List.mem_append_left _ (List.mem_of_getElem? (i := 203) rfl))) (by decide +kernel), inLW (List.mem_of_getElem? (i := 6) (by decide +kernel)) (by decide +kernel), ⟨by decide +kernel, by decide +kernel, by decide +kernel⟩, by decide⟩
theorem imX2_drop : Cond.instanceMethod yX2_drop ∈ LW := inLW (List.mem_of_getElem? (i := 442) (by decide +kernel)) (by decide +kernel)
theorem seX2_drop : Cond.selects yX2_drop.cls yX2_drop yX2_drop ∈ LW := inLWs (List.mem_of_getElem? (i := 4) (by decide +kernel)) (by decide +kernel)
theorem lbX2_breakLink : LkB yX2_breakLink cX2_breakLink 3 (some .int) 1 := ⟨inLW (List.mem_append_right _ (List.mem_append_right _ (List.mem_append_right _ (List.mem_append_left _ (List.mem_of_getElem? (i := 87) rfl))))) (by decide +kernel), inLW (List.mem_of_getElem? (i := 6) (by decide +kernel)) (by decide +kernel), ⟨by decide +kernel, by decide +kernel, by decide +kernel⟩, by decide⟩
theorem imX2_breakLink : Cond.instanceMethod yX2_breakLink ∈ LW := inLW (List.mem_of_getElem? (i := 806) (by decide +kernel)) (by decide +kernel)
theorem seX2_breakLink : Cond.selects yX2_breakLink.cls yX2_breakLink yX2_breakLink ∈ LW := inLWs (List.mem_of_getElem? (i := 53) (by decide +kernel)) (by decide +kernel)
theorem lbX2_settle : LkB yX2_settle cX2_settle 8 (some .int) 1 := ⟨inLW (List.mem_append_right _ (List.mem_append_right _ (List.mem_append_right _ (List.mem_append_left _ (List.mem_of_getElem? (i := 93) rfl))))) (by decide +kernel), inLW (List.mem_of_getElem? (i := 6) (by decide +kernel)) (by decide +kernel), ⟨by decide +kernel, by decide +kernel, by decide +kernel⟩, by decide⟩
theorem imX2_settle : Cond.instanceMethod yX2_settle ∈ LW := inLW (List.mem_of_getElem? (i := 812) (by decide +kernel)) (by decide +kernel)
theorem seX2_settle : Cond.selects yX2_settle.cls yX2_settle yX2_settle ∈ LW := inLWs (List.mem_of_getElem? (i := 54) (by decide +kernel)) (by decide +kernel)
theorem lbX2_strongest : LkB yX2_strongest cX2_strongest 5 (some .int) 1 := ⟨inLW (List.mem_append_right _ (List.mem_append_right _ (List.mem_append_right _ (List.mem_append_left _ (List.mem_of_getElem? (i := 97) rfl))))) (by decide +kernel), inLW (List.mem_of_getElem? (i := 6) (by decide +kernel)) (by decide +kernel), ⟨by decide +kernel, by decide +kernel, by decide +kernel⟩, by decide⟩
theorem imX2_strongest : Cond.instanceMethod yX2_strongest ∈ LW := inLW (List.mem_of_getElem? (i := 816) (by decide +kernel)) (by decide +kernel)
theorem seX2_strongest : Cond.selects yX2_strongest.cls yX2_strongest yX2_strongest ∈ LW := inLWs (List.mem_of_getElem? (i := 55) (by decide +kernel)) (by decide +kernel)
theorem lbX2_whomToPush : LkB yX2_whomToPush cX2_whomToPush 8 (some .int) 1 := ⟨inLW (List.mem_append_right _ (List.mem_append_right _ (List.mem_append_right _ (List.mem_append_left _ (List.mem_of_getElem? (i := 103) rfl))))) (by decide +kernel), inLW (List.mem_of_getElem? (i := 6) (by decide +kernel)) (by decide +kernel), ⟨by decide +kernel, by decide +kernel, by decide +kernel⟩, by decide⟩
theorem imX2_whomToPush : Cond.instanceMethod yX2_whomToPush ∈ LW := inLW (List.mem_of_getElem? (i := 822) (by decide +kernel)) (by decide +kernel)
theorem seX2_whomToPush : Cond.selects yX2_whomToPush.cls yX2_whomToPush yX2_whomToPush ∈ LW := inLWs (List.mem_of_getElem? (i := 56) (by decide +kernel)) (by decide +kernel)
theorem lbX2_overbooked : LkB yX2_overbooked cX2_overbooked 4 (some .int) 1 := ⟨inLW (List.mem_append_right _ (List.mem_append_right _ (List.mem_append_right _ (List.mem_append_left _ (List.mem_of_getElem? (i := 107) rfl))))) (by decide +kernel), inLW (List.mem_of_getElem? (i := 6) (by decide +kernel)) (by decide +kernel), ⟨by decide +kernel, by decide +kernel, by decide +kernel⟩, by decide⟩
theorem imX2_overbooked : Cond.instanceMethod yX2_overbooked ∈ LW := inLW (List.mem_of_getElem? (i := 826) (by decide +kernel)) (by decide +kernel)
theorem seX2_overbooked : Cond.selects yX2_overbooked.cls yX2_overbooked yX2_overbooked ∈ LW := inLWs (List.mem_of_getElem? (i := 57) (by decide +kernel)) (by decide +kernel)
theorem lbX2_weakerOn : LkB yX2_weakerOn cX2_weakerOn 5 (some .int) 2 := ⟨inLW (List.mem_append_right _ (List.mem_append_right _ (List.mem_append_right _ (List.mem_append_left _ (List.mem_of_getElem? (i := 111) rfl))))) (by decide +kernel), inLW (List.mem_of_getElem? (i := 6) (by decide +kernel)) (by decide +kernel), ⟨by decide +kernel, by decide +kernel, by decide +kernel⟩, by decide⟩
theorem imX2_weakerOn : Cond.instanceMethod yX2_weakerOn ∈ LW := inLW (List.mem_of_getElem? (i := 830) (by decide +kernel)) (by decide +kernel)
theorem seX2_weakerOn : Cond.selects yX2_weakerOn.cls yX2_weakerOn yX2_weakerOn ∈ LW := inLWs (List.mem_of_getElem? (i := 58) (by decide +kernel)) (by decide +kernel)
theorem lbX2_costOf : LkB yX2_costOf cX2_costOf 5 (some .int) 1 := ⟨inLW (List.mem_append_right _ (List.mem_append_right _ (List.mem_append_right _ (List.mem_append_left _ (List.mem_of_getElem? (i := 115) rfl))))) (by decide +kernel), inLW (List.mem_of_getElem? (i := 6) (by decide +kernel)) (by decide +kernel), ⟨by decide +kernel, by decide +kernel, by decide +kernel⟩, by decide⟩
theorem imX2_costOf : Cond.instanceMethod yX2_costOf ∈ LW := inLW (List.mem_of_getElem? (i := 834) (by decide +kernel)) (by decide +kernel)
theorem seX2_costOf : Cond.selects yX2_costOf.cls yX2_costOf yX2_costOf ∈ LW := inLWs (List.mem_of_getElem? (i := 59) (by decide +kernel)) (by decide +kernel)
theorem lbX2_relieves : LkB yX2_relieves cX2_relieves 6 (some .boolean) 2 := ⟨inLW (List.mem_append_right _ (List.mem_append_right _ (List.mem_append_right _ (List.mem_append_left _ (List.mem_of_getElem? (i := 119) rfl))))) (by decide +kernel), inLW (List.mem_of_getElem? (i := 6) (by decide +kernel)) (by decide +kernel), ⟨by decide +kernel, by decide +kernel, by decide +kernel⟩, by decide⟩
theorem imX2_relieves : Cond.instanceMethod yX2_relieves ∈ LW := inLW (List.mem_of_getElem? (i := 838) (by decide +kernel)) (by decide +kernel)
theorem seX2_relieves : Cond.selects yX2_relieves.cls yX2_relieves yX2_relieves ∈ LW := inLWs (List.mem_of_getElem? (i := 60) (by decide +kernel)) (by decide +kernel)
theorem lbX3_init : LkB yX3_init cX3_init 4 none 3 := ⟨inLW (List.mem_append_right _ (List.mem_append_left _ (List.mem_of_getElem? (i := 17) rfl))) (by decide +kernel), inLW (List.mem_of_getElem? (i := 7) (by decide +kernel)) (by decide +kernel), ⟨by decide +kernel, by decide +kernel, by decide +kernel⟩, by decide⟩
theorem imX3_init : Cond.instanceMethod yX3_init ∈ LW := inLW (List.mem_of_getElem? (i := 256) (by decide +kernel)) (by decide +kernel)
theorem lbX3_plannedWay : LkB yX3_plannedWay cX3_plannedWay 2 (some .int) 1 := ⟨inLW (List.mem_append_right _ (List.mem_append_right _ (List.mem_append_right _ (List.mem_append_right _ (List.mem_append_left _ (List.mem_of_getElem? (i := 51) rfl)))))) (by decide +kernel), inLW (List.mem_of_getElem? (i := 7) (by decide +kernel)) (by decide +kernel), ⟨by decide +kernel, by decide +kernel, by decide +kernel⟩, by decide⟩
theorem imX3_plannedWay : Cond.instanceMethod yX3_plannedWay ∈ LW := inLW (List.mem_of_getElem? (i := 1010) (by decide +kernel)) (by decide +kernel)
theorem seX3_plannedWay : Cond.selects yX3_plannedWay.cls yX3_plannedWay yX3_plannedWay ∈ LW := inLWs (List.mem_of_getElem? (i := 69) (by decide +kernel)) (by decide +kernel)
theorem lbX3_makePlan : LkB yX3_makePlan cX3_makePlan 4 none 0 := ⟨inLW (List.mem_append_right _ (List.mem_append_left _ (List.mem_of_getElem? (i := 198) rfl))) (by decide +kernel), inLW (List.mem_of_getElem? (i := 7) (by decide +kernel)) (by decide +kernel), ⟨by decide +kernel, by decide +kernel, by decide +kernel⟩, by decide⟩
theorem imX3_makePlan : Cond.instanceMethod yX3_makePlan ∈ LW := inLW (List.mem_of_getElem? (i := 437) (by decide +kernel)) (by decide +kernel)
theorem seX3_makePlan : Cond.selects yX3_makePlan.cls yX3_makePlan yX3_makePlan ∈ LW := inLWs (List.mem_of_getElem? (i := 3) (by decide +kernel)) (by decide +kernel)
theorem lbX3_firstOf : LkB yX3_firstOf cX3_firstOf 6 (some .int) 1 := ⟨inLW (List.mem_append_right _ (List.mem_append_left _ (List.mem_of_getElem? (i := 207) rfl))) (by decide +kernel), inLW (List.mem_of_getElem? (i := 7) (by decide +kernel)) (by decide +kernel), ⟨by decide +kernel, by decide +kernel, by decide +kernel⟩, by decide⟩
theorem imX3_firstOf : Cond.instanceMethod yX3_firstOf ∈ LW := inLW (List.mem_of_getElem? (i := 446) (by decide +kernel)) (by decide +kernel)
theorem seX3_firstOf : Cond.selects yX3_firstOf.cls yX3_firstOf yX3_firstOf ∈ LW := inLWs (List.mem_of_getElem? (i := 5) (by decide +kernel)) (by decide +kernel)
theorem lbX3_movers : LkB yX3_movers cX3_movers 5 (some .int) 0 := ⟨inLW (List.mem_append_right _ (List.mem_append_right _ (List.mem_append_left _ (List.mem_of_getElem? (i := 23) rfl)))) (by decide +kernel), inLW (List.mem_of_getElem? (i := 7) (by decide +kernel)) (by decide +kernel), ⟨by decide +kernel, by decide +kernel, by decide +kernel⟩, by decide⟩
theorem imX3_movers : Cond.instanceMethod yX3_movers ∈ LW := inLW (List.mem_of_getElem? (i := 502) (by decide +kernel)) (by decide +kernel)
theorem seX3_movers : Cond.selects yX3_movers.cls yX3_movers yX3_movers ∈ LW := inLWs (List.mem_of_getElem? (i := 16) (by decide +kernel)) (by decide +kernel)
theorem lbX3_inRow : LkB yX3_inRow cX3_inRow 3 (some .int) 1 := ⟨inLW (List.mem_append_right _ (List.mem_append_right _ (List.mem_append_right _ (List.mem_append_right _ (List.mem_append_left _ (List.mem_of_getElem? (i := 62) rfl)))))) (by decide +kernel), inLW (List.mem_of_getElem? (i := 7) (by decide +kernel)) (by decide +kernel), ⟨by decide +kernel, by decide +kernel, by decide +kernel⟩, by decide⟩
theorem imX3_inRow : Cond.instanceMethod yX3_inRow ∈ LW := inLW (List.mem_of_getElem? (i := 1021) (by decide +kernel)) (by decide +kernel)
theorem seX3_inRow : Cond.selects yX3_inRow.cls yX3_inRow yX3_inRow ∈ LW := inLWs (List.mem_of_getElem? (i := 70) (by decide +kernel)) (by decide +kernel)
theorem lbX3_fewestToBreak : LkB yX3_fewestToBreak cX3_fewestToBreak 4 (some .int) 0 := ⟨inLW (List.mem_append_right _ (List.mem_append_right _ (List.mem_append_left _ (List.mem_of_getElem? (i := 19) rfl)))) (by decide +kernel), inLW (List.mem_of_getElem? (i := 7) (by decide +kernel)) (by decide +kernel), ⟨by decide +kernel, by decide +kernel, by decide +kernel⟩, by decide⟩
theorem imX3_fewestToBreak : Cond.instanceMethod yX3_fewestToBreak ∈ LW := inLW (List.mem_of_getElem? (i := 498) (by decide +kernel)) (by decide +kernel)
theorem seX3_fewestToBreak : Cond.selects yX3_fewestToBreak.cls yX3_fewestToBreak yX3_fewestToBreak ∈ LW := inLWs (List.mem_of_getElem? (i := 15) (by decide +kernel)) (by decide +kernel)
theorem lbX3_endFits : LkB yX3_endFits cX3_endFits 3 (some .boolean) 1 := ⟨inLW (List.mem_append_right _ (List.mem_append_right _ (List.mem_append_left _ (List.mem_of_getElem? (i := 27) rfl)))) (by decide +kernel), inLW (List.mem_of_getElem? (i := 7) (by decide +kernel)) (by decide +kernel), ⟨by decide +kernel, by decide +kernel, by decide +kernel⟩, by decide⟩
theorem imX3_endFits : Cond.instanceMethod yX3_endFits ∈ LW := inLW (List.mem_of_getElem? (i := 506) (by decide +kernel)) (by decide +kernel)
theorem seX3_endFits : Cond.selects yX3_endFits.cls yX3_endFits yX3_endFits ∈ LW := inLWs (List.mem_of_getElem? (i := 17) (by decide +kernel)) (by decide +kernel)
theorem lbX3_canMove : LkB yX3_canMove cX3_canMove 3 (some .boolean) 2 := ⟨inLW (List.mem_append_right _ (List.mem_append_right _ (List.mem_append_left _ (List.mem_of_getElem? (i := 49) rfl)))) (by decide +kernel), inLW (List.mem_of_getElem? (i := 7) (by decide +kernel)) (by decide +kernel), ⟨by decide +kernel, by decide +kernel, by decide +kernel⟩, by decide⟩
theorem imX3_canMove : Cond.instanceMethod yX3_canMove ∈ LW := inLW (List.mem_of_getElem? (i := 528) (by decide +kernel)) (by decide +kernel)
theorem seX3_canMove : Cond.selects yX3_canMove.cls yX3_canMove yX3_canMove ∈ LW := inLWs (List.mem_of_getElem? (i := 21) (by decide +kernel)) (by decide +kernel)
theorem lbX3_countTaken : LkB yX3_countTaken cX3_countTaken 3 none 1 := ⟨inLW (List.mem_append_right _ (List.mem_append_right _ (List.mem_append_left _ (List.mem_of_getElem? (i := 31) rfl)))) (by decide +kernel), inLW (List.mem_of_getElem? (i := 7) (by decide +kernel)) (by decide +kernel), ⟨by decide +kernel, by decide +kernel, by decide +kernel⟩, by decide⟩
theorem imX3_countTaken : Cond.instanceMethod yX3_countTaken ∈ LW := inLW (List.mem_of_getElem? (i := 510) (by decide +kernel)) (by decide +kernel)
theorem seX3_countTaken : Cond.selects yX3_countTaken.cls yX3_countTaken yX3_countTaken ∈ LW := inLWs (List.mem_of_getElem? (i := 18) (by decide +kernel)) (by decide +kernel)
theorem lbX3_book : LkB yX3_book cX3_book 4 none 2 := ⟨inLW (List.mem_append_right _ (List.mem_append_right _ (List.mem_append_left _ (List.mem_of_getElem? (i := 39) rfl)))) (by decide +kernel), inLW (List.mem_of_getElem? (i := 7) (by decide +kernel)) (by decide +kernel), ⟨by decide +kernel, by decide +kernel, by decide +kernel⟩, by decide⟩
theorem imX3_book : Cond.instanceMethod yX3_book ∈ LW := inLW (List.mem_of_getElem? (i := 518) (by decide +kernel)) (by decide +kernel)
theorem seX3_book : Cond.selects yX3_book.cls yX3_book yX3_book ∈ LW := inLWs (List.mem_of_getElem? (i := 20) (by decide +kernel)) (by decide +kernel)
theorem lbX3_moveRest : LkB yX3_moveRest cX3_moveRest 6 (some .boolean) 2 := ⟨inLW (List.mem_append_right _ (List.mem_append_right _ (List.mem_append_left _ (List.mem_of_getElem? (i := 53) rfl)))) (by decide +kernel), inLW (List.mem_of_getElem? (i := 7) (by decide +kernel)) (by decide +kernel), ⟨by decide +kernel, by decide +kernel, by decide +kernel⟩, by decide⟩
theorem imX3_moveRest : Cond.instanceMethod yX3_moveRest ∈ LW := inLW (List.mem_of_getElem? (i := 532) (by decide +kernel)) (by decide +kernel)
theorem seX3_moveRest : Cond.selects yX3_moveRest.cls yX3_moveRest yX3_moveRest ∈ LW := inLWs (List.mem_of_getElem? (i := 22) (by decide +kernel)) (by decide +kernel)
theorem lbX3_mayMove : LkB yX3_mayMove cX3_mayMove 5 (some .boolean) 1 := ⟨inLW (List.mem_append_right _ (List.mem_append_right _ (List.mem_append_left _ (List.mem_of_getElem? (i := 57) rfl)))) (by decide +kernel), inLW (List.mem_of_getElem? (i := 7) (by decide +kernel)) (by decide +kernel), ⟨by decide +kernel, by decide +kernel, by decide +kernel⟩, by decide⟩
theorem imX3_mayMove : Cond.instanceMethod yX3_mayMove ∈ LW := inLW (List.mem_of_getElem? (i := 536) (by decide +kernel)) (by decide +kernel)
theorem seX3_mayMove : Cond.selects yX3_mayMove.cls yX3_mayMove yX3_mayMove ∈ LW := inLWs (List.mem_of_getElem? (i := 23) (by decide +kernel)) (by decide +kernel)
theorem lbX4_init : LkB yX4_init cX4_init 1 none 0 := ⟨inLW (List.mem_append_left _ (List.mem_of_getElem? (i := 37) rfl)) (by decide +kernel), inLW (List.mem_of_getElem? (i := 2) (by decide +kernel)) (by decide +kernel), ⟨by decide +kernel, by decide +kernel, by decide +kernel⟩, by decide⟩
theorem imX4_init : Cond.instanceMethod yX4_init ∈ LW := inLW (List.mem_of_getElem? (i := 36) (by decide +kernel)) (by decide +kernel)
theorem lbX4_clear : LkB yX4_clear cX4_clear 1 none 0 := ⟨inLW (List.mem_append_right _ (List.mem_append_right _ (List.mem_append_left _ (List.mem_of_getElem? (i := 165) rfl)))) (by decide +kernel), inLW (List.mem_of_getElem? (i := 2) (by decide +kernel)) (by decide +kernel), ⟨by decide +kernel, by decide +kernel, by decide +kernel⟩, by decide⟩
theorem imX4_clear : Cond.instanceMethod yX4_clear ∈ LW := inLW (List.mem_of_getElem? (i := 644) (by decide +kernel)) (by decide +kernel)
theorem seX4_clear : Cond.selects yX4_clear.cls yX4_clear yX4_clear ∈ LW := inLWs (List.mem_of_getElem? (i := 29) (by decide +kernel)) (by decide +kernel)
theorem lbX4_copyFrom : LkB yX4_copyFrom cX4_copyFrom 2 none 1 := ⟨inLW (List.mem_append_right _ (List.mem_append_right _ (List.mem_append_right _ (List.mem_append_left _ (List.mem_of_getElem? (i := 28) rfl))))) (by decide +kernel), inLW (List.mem_of_getElem? (i := 2) (by decide +kernel)) (by decide +kernel), ⟨by decide +kernel, by decide +kernel, by decide +kernel⟩, by decide⟩
theorem imX4_copyFrom : Cond.instanceMethod yX4_copyFrom ∈ LW := inLW (List.mem_of_getElem? (i := 747) (by decide +kernel)) (by decide +kernel)
theorem seX4_copyFrom : Cond.selects yX4_copyFrom.cls yX4_copyFrom yX4_copyFrom ∈ LW := inLWs (List.mem_of_getElem? (i := 41) (by decide +kernel)) (by decide +kernel)
theorem lbX4_metricOf : LkB yX4_metricOf cX4_metricOf 4 (some .int) 1 := ⟨inLW (List.mem_append_right _ (List.mem_append_right _ (List.mem_append_right _ (List.mem_append_left _ (List.mem_of_getElem? (i := 62) rfl))))) (by decide +kernel), inLW (List.mem_of_getElem? (i := 2) (by decide +kernel)) (by decide +kernel), ⟨by decide +kernel, by decide +kernel, by decide +kernel⟩, by decide⟩
theorem imX4_metricOf : Cond.instanceMethod yX4_metricOf ∈ LW := inLW (List.mem_of_getElem? (i := 781) (by decide +kernel)) (by decide +kernel)
theorem seX4_metricOf : Cond.selects yX4_metricOf.cls yX4_metricOf yX4_metricOf ∈ LW := inLWs (List.mem_of_getElem? (i := 47) (by decide +kernel)) (by decide +kernel)
theorem lbX4_linkAt : LkB yX4_linkAt cX4_linkAt 7 (some .int) 3 := ⟨inLW (List.mem_append_right _ (List.mem_append_right _ (List.mem_append_right _ (List.mem_append_left _ (List.mem_of_getElem? (i := 200) rfl))))) (by decide +kernel), inLW (List.mem_of_getElem? (i := 2) (by decide +kernel)) (by decide +kernel), ⟨by decide +kernel, by decide +kernel, by decide +kernel⟩, by decide⟩
theorem imX4_linkAt : Cond.instanceMethod yX4_linkAt ∈ LW := inLW (List.mem_of_getElem? (i := 919) (by decide +kernel)) (by decide +kernel)
theorem seX4_linkAt : Cond.selects yX4_linkAt.cls yX4_linkAt yX4_linkAt ∈ LW := inLWs (List.mem_of_getElem? (i := 64) (by decide +kernel)) (by decide +kernel)
theorem lbX4_linkFrom : LkB yX4_linkFrom cX4_linkFrom 4 (some .int) 2 := ⟨inLW (List.mem_append_right _ (List.mem_append_right _ (List.mem_append_right _ (List.mem_append_left _ (List.mem_of_getElem? (i := 204) rfl))))) (by decide +kernel), inLW (List.mem_of_getElem? (i := 2) (by decide +kernel)) (by decide +kernel), ⟨by decide +kernel, by decide +kernel, by decide +kernel⟩, by decide⟩
theorem imX4_linkFrom : Cond.instanceMethod yX4_linkFrom ∈ LW := inLW (List.mem_of_getElem? (i := 923) (by decide +kernel)) (by decide +kernel)
theorem seX4_linkFrom : Cond.selects yX4_linkFrom.cls yX4_linkFrom yX4_linkFrom ∈ LW := inLWs (List.mem_of_getElem? (i := 65) (by decide +kernel)) (by decide +kernel)
theorem lbX5_init : LkB yX5_init cX5_init 1 none 0 := ⟨inLW (List.mem_append_left _ (List.mem_of_getElem? (i := 149) rfl)) (by decide +kernel), inLW (List.mem_of_getElem? (i := 3) (by decide +kernel)) (by decide +kernel), ⟨by decide +kernel, by decide +kernel, by decide +kernel⟩, by decide⟩
theorem imX5_init : Cond.instanceMethod yX5_init ∈ LW := inLW (List.mem_of_getElem? (i := 148) (by decide +kernel)) (by decide +kernel)
theorem lbX5_read : LkB yX5_read cX5_read 5 (some .int) 3 := ⟨inLW (List.mem_append_right _ (List.mem_append_right _ (List.mem_append_left _ (List.mem_of_getElem? (i := 160) rfl)))) (by decide +kernel), inLW (List.mem_of_getElem? (i := 3) (by decide +kernel)) (by decide +kernel), ⟨by decide +kernel, by decide +kernel, by decide +kernel⟩, by decide⟩
theorem imX5_read : Cond.instanceMethod yX5_read ∈ LW := inLW (List.mem_of_getElem? (i := 639) (by decide +kernel)) (by decide +kernel)
theorem seX5_read : Cond.selects yX5_read.cls yX5_read yX5_read ∈ LW := inLWs (List.mem_of_getElem? (i := 28) (by decide +kernel)) (by decide +kernel)
theorem lbX5_readLink : LkB yX5_readLink cX5_readLink 3 none 2 := ⟨inLW (List.mem_append_right _ (List.mem_append_right _ (List.mem_append_right _ (List.mem_append_left _ (List.mem_of_getElem? (i := 15) rfl))))) (by decide +kernel), inLW (List.mem_of_getElem? (i := 3) (by decide +kernel)) (by decide +kernel), ⟨by decide +kernel, by decide +kernel, by decide +kernel⟩, by decide⟩
theorem imX5_readLink : Cond.instanceMethod yX5_readLink ∈ LW := inLW (List.mem_of_getElem? (i := 734) (by decide +kernel)) (by decide +kernel)
theorem seX5_readLink : Cond.selects yX5_readLink.cls yX5_readLink yX5_readLink ∈ LW := inLWs (List.mem_of_getElem? (i := 38) (by decide +kernel)) (by decide +kernel)
theorem lbX5_readTunnel : LkB yX5_readTunnel cX5_readTunnel 4 none 2 := ⟨inLW (List.mem_append_right _ (List.mem_append_right _ (List.mem_append_right _ (List.mem_append_left _ (List.mem_of_getElem? (i := 24) rfl))))) (by decide +kernel), inLW (List.mem_of_getElem? (i := 3) (by decide +kernel)) (by decide +kernel), ⟨by decide +kernel, by decide +kernel, by decide +kernel⟩, by decide⟩
theorem imX5_readTunnel : Cond.instanceMethod yX5_readTunnel ∈ LW := inLW (List.mem_of_getElem? (i := 743) (by decide +kernel)) (by decide +kernel)
theorem seX5_readTunnel : Cond.selects yX5_readTunnel.cls yX5_readTunnel yX5_readTunnel ∈ LW := inLWs (List.mem_of_getElem? (i := 40) (by decide +kernel)) (by decide +kernel)
theorem lbX5_number : LkB yX5_number cX5_number 3 (some .int) 2 := ⟨inLW (List.mem_append_right _ (List.mem_append_right _ (List.mem_append_left _ (List.mem_of_getElem? (i := 238) rfl)))) (by decide +kernel), inLW (List.mem_of_getElem? (i := 3) (by decide +kernel)) (by decide +kernel), ⟨by decide +kernel, by decide +kernel, by decide +kernel⟩, by decide⟩
theorem imX5_number : Cond.instanceMethod yX5_number ∈ LW := inLW (List.mem_of_getElem? (i := 717) (by decide +kernel)) (by decide +kernel)
theorem seX5_number : Cond.selects yX5_number.cls yX5_number yX5_number ∈ LW := inLWs (List.mem_of_getElem? (i := 34) (by decide +kernel)) (by decide +kernel)
theorem lbX5_node : LkB yX5_node cX5_node 3 (some .int) 2 := ⟨inLW (List.mem_append_right _ (List.mem_append_right _ (List.mem_append_right _ (List.mem_append_left _ (List.mem_of_getElem? (i := 19) rfl))))) (by decide +kernel), inLW (List.mem_of_getElem? (i := 3) (by decide +kernel)) (by decide +kernel), ⟨by decide +kernel, by decide +kernel, by decide +kernel⟩, by decide⟩
theorem imX5_node : Cond.instanceMethod yX5_node ∈ LW := inLW (List.mem_of_getElem? (i := 738) (by decide +kernel)) (by decide +kernel)
theorem seX5_node : Cond.selects yX5_node.cls yX5_node yX5_node ∈ LW := inLWs (List.mem_of_getElem? (i := 39) (by decide +kernel)) (by decide +kernel)
theorem lbX5_accept : LkB yX5_accept cX5_accept 3 (some .int) 1 := ⟨inLW (List.mem_append_right _ (List.mem_append_right _ (List.mem_append_right _ (List.mem_append_left _ (List.mem_of_getElem? (i := 6) rfl))))) (by decide +kernel), inLW (List.mem_of_getElem? (i := 3) (by decide +kernel)) (by decide +kernel), ⟨by decide +kernel, by decide +kernel, by decide +kernel⟩, by decide⟩
theorem imX5_accept : Cond.instanceMethod yX5_accept ∈ LW := inLW (List.mem_of_getElem? (i := 725) (by decide +kernel)) (by decide +kernel)
theorem seX5_accept : Cond.selects yX5_accept.cls yX5_accept yX5_accept ∈ LW := inLWs (List.mem_of_getElem? (i := 36) (by decide +kernel)) (by decide +kernel)
theorem lbX5_semicolon : LkB yX5_semicolon cX5_semicolon 1 none 0 := ⟨inLW (List.mem_append_right _ (List.mem_append_right _ (List.mem_append_right _ (List.mem_append_left _ (List.mem_of_getElem? (i := 10) rfl))))) (by decide +kernel), inLW (List.mem_of_getElem? (i := 3) (by decide +kernel)) (by decide +kernel), ⟨by decide +kernel, by decide +kernel, by decide +kernel⟩, by decide⟩
theorem imX5_semicolon : Cond.instanceMethod yX5_semicolon ∈ LW := inLW (List.mem_of_getElem? (i := 729) (by decide +kernel)) (by decide +kernel)
theorem seX5_semicolon : Cond.selects yX5_semicolon.cls yX5_semicolon yX5_semicolon ∈ LW := inLWs (List.mem_of_getElem? (i := 37) (by decide +kernel)) (by decide +kernel)
theorem lbX5_flag : LkB yX5_flag cX5_flag 2 none 1 := ⟨inLW (List.mem_append_right _ (List.mem_append_right _ (List.mem_append_right _ (List.mem_append_left _ (List.mem_of_getElem? (i := 2) rfl))))) (by decide +kernel), inLW (List.mem_of_getElem? (i := 3) (by decide +kernel)) (by decide +kernel), ⟨by decide +kernel, by decide +kernel, by decide +kernel⟩, by decide⟩
theorem imX5_flag : Cond.instanceMethod yX5_flag ∈ LW := inLW (List.mem_of_getElem? (i := 721) (by decide +kernel)) (by decide +kernel)
theorem seX5_flag : Cond.selects yX5_flag.cls yX5_flag yX5_flag ∈ LW := inLWs (List.mem_of_getElem? (i := 35) (by decide +kernel)) (by decide +kernel)
theorem lbX5_next : LkB yX5_next cX5_next 2 none 0 := ⟨inLW (List.mem_append_right _ (List.mem_append_right _ (List.mem_append_left _ (List.mem_of_getElem? (i := 169) rfl)))) (by decide +kernel), inLW (List.mem_of_getElem? (i := 3) (by decide +kernel)) (by decide +kernel), ⟨by decide +kernel, by decide +kernel, by decide +kernel⟩, by decide⟩
theorem imX5_next : Cond.instanceMethod yX5_next ∈ LW := inLW (List.mem_of_getElem? (i := 648) (by decide +kernel)) (by decide +kernel)
theorem seX5_next : Cond.selects yX5_next.cls yX5_next yX5_next ∈ LW := inLWs (List.mem_of_getElem? (i := 30) (by decide +kernel)) (by decide +kernel)
theorem lbX5_isBlank : LkB yX5_isBlank cX5_isBlank 1 (some .boolean) 1 := ⟨inLW (List.mem_append_right _ (List.mem_append_right _ (List.mem_append_left _ (List.mem_of_getElem? (i := 172) rfl)))) (by decide +kernel), inLW (List.mem_of_getElem? (i := 3) (by decide +kernel)) (by decide +kernel), ⟨by decide +kernel, by decide +kernel, by decide +kernel⟩, by decide⟩
theorem smX5_isBlank : Cond.static yX5_isBlank ∈ LW := inLW (List.mem_of_getElem? (i := 651) (by decide +kernel)) (by decide +kernel)
theorem lbX5_endOfRow : LkB yX5_endOfRow cX5_endOfRow 3 none 2 := ⟨inLW (List.mem_append_right _ (List.mem_append_right _ (List.mem_append_left _ (List.mem_of_getElem? (i := 176) rfl)))) (by decide +kernel), inLW (List.mem_of_getElem? (i := 3) (by decide +kernel)) (by decide +kernel), ⟨by decide +kernel, by decide +kernel, by decide +kernel⟩, by decide⟩
theorem imX5_endOfRow : Cond.instanceMethod yX5_endOfRow ∈ LW := inLW (List.mem_of_getElem? (i := 655) (by decide +kernel)) (by decide +kernel)
theorem seX5_endOfRow : Cond.selects yX5_endOfRow.cls yX5_endOfRow yX5_endOfRow ∈ LW := inLWs (List.mem_of_getElem? (i := 31) (by decide +kernel)) (by decide +kernel)
theorem lbX5_valueOfRow : LkB yX5_valueOfRow cX5_valueOfRow 3 (some .int) 0 := ⟨inLW (List.mem_append_right _ (List.mem_append_right _ (List.mem_append_left _ (List.mem_of_getElem? (i := 180) rfl)))) (by decide +kernel), inLW (List.mem_of_getElem? (i := 3) (by decide +kernel)) (by decide +kernel), ⟨by decide +kernel, by decide +kernel, by decide +kernel⟩, by decide⟩
theorem imX5_valueOfRow : Cond.instanceMethod yX5_valueOfRow ∈ LW := inLW (List.mem_of_getElem? (i := 659) (by decide +kernel)) (by decide +kernel)
theorem seX5_valueOfRow : Cond.selects yX5_valueOfRow.cls yX5_valueOfRow yX5_valueOfRow ∈ LW := inLWs (List.mem_of_getElem? (i := 32) (by decide +kernel)) (by decide +kernel)
theorem lbX5_isWord : LkB yX5_isWord cX5_isWord 3 (some .boolean) 1 := ⟨inLW (List.mem_append_right _ (List.mem_append_right _ (List.mem_append_left _ (List.mem_of_getElem? (i := 186) rfl)))) (by decide +kernel), inLW (List.mem_of_getElem? (i := 3) (by decide +kernel)) (by decide +kernel), ⟨by decide +kernel, by decide +kernel, by decide +kernel⟩, by decide⟩
theorem imX5_isWord : Cond.instanceMethod yX5_isWord ∈ LW := inLW (List.mem_of_getElem? (i := 665) (by decide +kernel)) (by decide +kernel)
theorem seX5_isWord : Cond.selects yX5_isWord.cls yX5_isWord yX5_isWord ∈ LW := inLWs (List.mem_of_getElem? (i := 33) (by decide +kernel)) (by decide +kernel)
theorem lbX6_init : LkB yX6_init cX6_init 2 none 1 := ⟨inLW (List.mem_append_left _ (List.mem_of_getElem? (i := 181) rfl)) (by decide +kernel), inLW (List.mem_of_getElem? (i := 4) (by decide +kernel)) (by decide +kernel), ⟨by decide +kernel, by decide +kernel, by decide +kernel⟩, by decide⟩
theorem imX6_init : Cond.instanceMethod yX6_init ∈ LW := inLW (List.mem_of_getElem? (i := 180) (by decide +kernel)) (by decide +kernel)
theorem lbX6_reaches : LkB yX6_reaches cX6_reaches 9 (some .boolean) 4 := ⟨inLW (List.mem_append_right _ (List.mem_append_right _ (List.mem_append_right _ (List.mem_append_right _ (List.mem_append_left _ (List.mem_of_getElem? (i := 139) rfl)))))) (by decide +kernel), inLW (List.mem_of_getElem? (i := 4) (by decide +kernel)) (by decide +kernel), ⟨by decide +kernel, by decide +kernel, by decide +kernel⟩, by decide⟩
theorem imX6_reaches : Cond.instanceMethod yX6_reaches ∈ LW := inLW (List.mem_of_getElem? (i := 1098) (by decide +kernel)) (by decide +kernel)
theorem seX6_reaches : Cond.selects yX6_reaches.cls yX6_reaches yX6_reaches ∈ LW := inLWs (List.mem_of_getElem? (i := 75) (by decide +kernel)) (by decide +kernel)
theorem lbX6_leastMetric : LkB yX6_leastMetric cX6_leastMetric 10 (some .int) 4 := ⟨inLW (List.mem_append_right _ (List.mem_append_left _ (List.mem_of_getElem? (i := 236) rfl))) (by decide +kernel), inLW (List.mem_of_getElem? (i := 4) (by decide +kernel)) (by decide +kernel), ⟨by decide +kernel, by decide +kernel, by decide +kernel⟩, by decide⟩
theorem imX6_leastMetric : Cond.instanceMethod yX6_leastMetric ∈ LW := inLW (List.mem_of_getElem? (i := 475) (by decide +kernel)) (by decide +kernel)
theorem seX6_leastMetric : Cond.selects yX6_leastMetric.cls yX6_leastMetric yX6_leastMetric ∈ LW := inLWs (List.mem_of_getElem? (i := 12) (by decide +kernel)) (by decide +kernel)
theorem lbX6_bestOf : LkB yX6_bestOf cX6_bestOf 12 (some .int) 4 := ⟨inLW (List.mem_append_right _ (List.mem_append_left _ (List.mem_of_getElem? (i := 232) rfl))) (by decide +kernel), inLW (List.mem_of_getElem? (i := 4) (by decide +kernel)) (by decide +kernel), ⟨by decide +kernel, by decide +kernel, by decide +kernel⟩, by decide⟩
theorem imX6_bestOf : Cond.instanceMethod yX6_bestOf ∈ LW := inLW (List.mem_of_getElem? (i := 471) (by decide +kernel)) (by decide +kernel)
theorem seX6_bestOf : Cond.selects yX6_bestOf.cls yX6_bestOf yX6_bestOf ∈ LW := inLWs (List.mem_of_getElem? (i := 11) (by decide +kernel)) (by decide +kernel)
theorem lbX6_spanBestWays : LkB yX6_spanBestWays cX6_spanBestWays 10 none 3 := ⟨inLW (List.mem_append_right _ (List.mem_append_right _ (List.mem_append_left _ (List.mem_of_getElem? (i := 4) rfl)))) (by decide +kernel), inLW (List.mem_of_getElem? (i := 4) (by decide +kernel)) (by decide +kernel), ⟨by decide +kernel, by decide +kernel, by decide +kernel⟩, by decide⟩
theorem imX6_spanBestWays : Cond.instanceMethod yX6_spanBestWays ∈ LW := inLW (List.mem_of_getElem? (i := 483) (by decide +kernel)) (by decide +kernel)
theorem seX6_spanBestWays : Cond.selects yX6_spanBestWays.cls yX6_spanBestWays yX6_spanBestWays ∈ LW := inLWs (List.mem_of_getElem? (i := 13) (by decide +kernel)) (by decide +kernel)
theorem lbX6_firstStep : LkB yX6_firstStep cX6_firstStep 10 (some .int) 4 := ⟨inLW (List.mem_append_right _ (List.mem_append_right _ (List.mem_append_left _ (List.mem_of_getElem? (i := 15) rfl)))) (by decide +kernel), inLW (List.mem_of_getElem? (i := 4) (by decide +kernel)) (by decide +kernel), ⟨by decide +kernel, by decide +kernel, by decide +kernel⟩, by decide⟩
theorem imX6_firstStep : Cond.instanceMethod yX6_firstStep ∈ LW := inLW (List.mem_of_getElem? (i := 494) (by decide +kernel)) (by decide +kernel)
theorem seX6_firstStep : Cond.selects yX6_firstStep.cls yX6_firstStep yX6_firstStep ∈ LW := inLWs (List.mem_of_getElem? (i := 14) (by decide +kernel)) (by decide +kernel)
theorem lbX6_widestOf : LkB yX6_widestOf cX6_widestOf 10 (some .int) 4 := ⟨inLW (List.mem_append_right _ (List.mem_append_right _ (List.mem_append_right _ (List.mem_append_right _ (List.mem_append_left _ (List.mem_of_getElem? (i := 83) rfl)))))) (by decide +kernel), inLW (List.mem_of_getElem? (i := 4) (by decide +kernel)) (by decide +kernel), ⟨by decide +kernel, by decide +kernel, by decide +kernel⟩, by decide⟩
theorem imX6_widestOf : Cond.instanceMethod yX6_widestOf ∈ LW := inLW (List.mem_of_getElem? (i := 1042) (by decide +kernel)) (by decide +kernel)
theorem seX6_widestOf : Cond.selects yX6_widestOf.cls yX6_widestOf yX6_widestOf ∈ LW := inLWs (List.mem_of_getElem? (i := 72) (by decide +kernel)) (by decide +kernel)
theorem lbX6_mostFlow : LkB yX6_mostFlow cX6_mostFlow 6 (some .int) 3 := ⟨inLW (List.mem_append_right _ (List.mem_append_right _ (List.mem_append_right _ (List.mem_append_right _ (List.mem_append_left _ (List.mem_of_getElem? (i := 150) rfl)))))) (by decide +kernel), inLW (List.mem_of_getElem? (i := 4) (by decide +kernel)) (by decide +kernel), ⟨by decide +kernel, by decide +kernel, by decide +kernel⟩, by decide⟩
theorem imX6_mostFlow : Cond.instanceMethod yX6_mostFlow ∈ LW := inLW (List.mem_of_getElem? (i := 1109) (by decide +kernel)) (by decide +kernel)
theorem seX6_mostFlow : Cond.selects yX6_mostFlow.cls yX6_mostFlow yX6_mostFlow ∈ LW := inLWs (List.mem_of_getElem? (i := 76) (by decide +kernel)) (by decide +kernel)
theorem lbX6_findMore : LkB yX6_findMore cX6_findMore 10 (some .boolean) 3 := ⟨inLW (List.mem_append_right _ (List.mem_append_right _ (List.mem_append_right _ (List.mem_append_right _ (List.mem_append_left _ (List.mem_of_getElem? (i := 154) rfl)))))) (by decide +kernel), inLW (List.mem_of_getElem? (i := 4) (by decide +kernel)) (by decide +kernel), ⟨by decide +kernel, by decide +kernel, by decide +kernel⟩, by decide⟩
theorem imX6_findMore : Cond.instanceMethod yX6_findMore ∈ LW := inLW (List.mem_of_getElem? (i := 1113) (by decide +kernel)) (by decide +kernel)
theorem seX6_findMore : Cond.selects yX6_findMore.cls yX6_findMore yX6_findMore ∈ LW := inLWs (List.mem_of_getElem? (i := 77) (by decide +kernel)) (by decide +kernel)
theorem lbX6_sendMore : LkB yX6_sendMore cX6_sendMore 8 (some .int) 2 := ⟨inLW (List.mem_append_right _ (List.mem_append_right _ (List.mem_append_right _ (List.mem_append_right _ (List.mem_append_left _ (List.mem_of_getElem? (i := 158) rfl)))))) (by decide +kernel), inLW (List.mem_of_getElem? (i := 4) (by decide +kernel)) (by decide +kernel), ⟨by decide +kernel, by decide +kernel, by decide +kernel⟩, by decide⟩
theorem imX6_sendMore : Cond.instanceMethod yX6_sendMore ∈ LW := inLW (List.mem_of_getElem? (i := 1117) (by decide +kernel)) (by decide +kernel)
theorem seX6_sendMore : Cond.selects yX6_sendMore.cls yX6_sendMore yX6_sendMore ∈ LW := inLWs (List.mem_of_getElem? (i := 78) (by decide +kernel)) (by decide +kernel)
theorem lbX7_init : LkB yX7_init cX7_init 1 none 0 := ⟨inLW (List.mem_append_right _ (List.mem_append_left _ (List.mem_of_getElem? (i := 75) rfl))) (by decide +kernel), inLW (List.mem_of_getElem? (i := 9) (by decide +kernel)) (by decide +kernel), ⟨by decide +kernel, by decide +kernel, by decide +kernel⟩, by decide⟩
theorem imX7_init : Cond.instanceMethod yX7_init ∈ LW := inLW (List.mem_of_getElem? (i := 314) (by decide +kernel)) (by decide +kernel)
theorem lbX7_clear : LkB yX7_clear cX7_clear 1 none 0 := ⟨inLW (List.mem_append_right _ (List.mem_append_right _ (List.mem_append_left _ (List.mem_of_getElem? (i := 65) rfl)))) (by decide +kernel), inLW (List.mem_of_getElem? (i := 9) (by decide +kernel)) (by decide +kernel), ⟨by decide +kernel, by decide +kernel, by decide +kernel⟩, by decide⟩
theorem imX7_clear : Cond.instanceMethod yX7_clear ∈ LW := inLW (List.mem_of_getElem? (i := 544) (by decide +kernel)) (by decide +kernel)
theorem seX7_clear : Cond.selects yX7_clear.cls yX7_clear yX7_clear ∈ LW := inLWs (List.mem_of_getElem? (i := 24) (by decide +kernel)) (by decide +kernel)
theorem lbX7_add : LkB yX7_add cX7_add 6 none 5 := ⟨inLW (List.mem_append_right _ (List.mem_append_right _ (List.mem_append_right _ (List.mem_append_right _ (List.mem_append_left _ (List.mem_of_getElem? (i := 197) rfl)))))) (by decide +kernel), inLW (List.mem_of_getElem? (i := 9) (by decide +kernel)) (by decide +kernel), ⟨by decide +kernel, by decide +kernel, by decide +kernel⟩, by decide⟩
theorem imX7_add : Cond.instanceMethod yX7_add ∈ LW := inLW (List.mem_of_getElem? (i := 1156) (by decide +kernel)) (by decide +kernel)
theorem seX7_add : Cond.selects yX7_add.cls yX7_add yX7_add ∈ LW := inLWs (List.mem_of_getElem? (i := 80) (by decide +kernel)) (by decide +kernel)
theorem lbX7_copyFrom : LkB yX7_copyFrom cX7_copyFrom 3 none 1 := ⟨inLW (List.mem_append_right _ (List.mem_append_right _ (List.mem_append_left _ (List.mem_of_getElem? (i := 78) rfl)))) (by decide +kernel), inLW (List.mem_of_getElem? (i := 9) (by decide +kernel)) (by decide +kernel), ⟨by decide +kernel, by decide +kernel, by decide +kernel⟩, by decide⟩
theorem imX7_copyFrom : Cond.instanceMethod yX7_copyFrom ∈ LW := inLW (List.mem_of_getElem? (i := 557) (by decide +kernel)) (by decide +kernel)
theorem seX7_copyFrom : Cond.selects yX7_copyFrom.cls yX7_copyFrom yX7_copyFrom ∈ LW := inLWs (List.mem_of_getElem? (i := 26) (by decide +kernel)) (by decide +kernel)
theorem lbX7_wideEnough : LkB yX7_wideEnough cX7_wideEnough 5 (some .int) 2 := ⟨inLW (List.mem_append_right _ (List.mem_append_right _ (List.mem_append_right _ (List.mem_append_right _ (List.mem_append_left _ (List.mem_of_getElem? (i := 213) rfl)))))) (by decide +kernel), inLW (List.mem_of_getElem? (i := 9) (by decide +kernel)) (by decide +kernel), ⟨by decide +kernel, by decide +kernel, by decide +kernel⟩, by decide⟩
theorem imX7_wideEnough : Cond.instanceMethod yX7_wideEnough ∈ LW := inLW (List.mem_of_getElem? (i := 1172) (by decide +kernel)) (by decide +kernel)
theorem seX7_wideEnough : Cond.selects yX7_wideEnough.cls yX7_wideEnough yX7_wideEnough ∈ LW := inLWs (List.mem_of_getElem? (i := 82) (by decide +kernel)) (by decide +kernel)
theorem lbX7_isSo : LkB yX7_isSo cX7_isSo 4 (some .boolean) 2 := ⟨inLW (List.mem_append_right _ (List.mem_append_right _ (List.mem_append_right _ (List.mem_append_right _ (List.mem_append_left _ (List.mem_of_getElem? (i := 209) rfl)))))) (by decide +kernel), inLW (List.mem_of_getElem? (i := 9) (by decide +kernel)) (by decide +kernel), ⟨by decide +kernel, by decide +kernel, by decide +kernel⟩, by decide⟩
theorem imX7_isSo : Cond.instanceMethod yX7_isSo ∈ LW := inLW (List.mem_of_getElem? (i := 1168) (by decide +kernel)) (by decide +kernel)
theorem seX7_isSo : Cond.selects yX7_isSo.cls yX7_isSo yX7_isSo ∈ LW := inLWs (List.mem_of_getElem? (i := 81) (by decide +kernel)) (by decide +kernel)
theorem lbX7_bound : LkB yX7_bound cX7_bound 10 none 3 := ⟨inLW (List.mem_append_right _ (List.mem_append_right _ (List.mem_append_right _ (List.mem_append_right _ (List.mem_append_left _ (List.mem_of_getElem? (i := 223) rfl)))))) (by decide +kernel), inLW (List.mem_of_getElem? (i := 9) (by decide +kernel)) (by decide +kernel), ⟨by decide +kernel, by decide +kernel, by decide +kernel⟩, by decide⟩
theorem imX7_bound : Cond.instanceMethod yX7_bound ∈ LW := inLW (List.mem_of_getElem? (i := 1182) (by decide +kernel)) (by decide +kernel)
theorem seX7_bound : Cond.selects yX7_bound.cls yX7_bound yX7_bound ∈ LW := inLWs (List.mem_of_getElem? (i := 84) (by decide +kernel)) (by decide +kernel)
theorem lbX8_init : LkB yX8_init cX8_init 1 none 0 := ⟨inLW (List.mem_append_left _ (List.mem_of_getElem? (i := 210) rfl)) (by decide +kernel), inLW (List.mem_of_getElem? (i := 5) (by decide +kernel)) (by decide +kernel), ⟨by decide +kernel, by decide +kernel, by decide +kernel⟩, by decide⟩
theorem imX8_init : Cond.instanceMethod yX8_init ∈ LW := inLW (List.mem_of_getElem? (i := 209) (by decide +kernel)) (by decide +kernel)
theorem lbX8_begin : LkB yX8_begin cX8_begin 3 none 1 := ⟨inLW (List.mem_append_right _ (List.mem_append_right _ (List.mem_append_right _ (List.mem_append_left _ (List.mem_of_getElem? (i := 33) rfl))))) (by decide +kernel), inLW (List.mem_of_getElem? (i := 5) (by decide +kernel)) (by decide +kernel), ⟨by decide +kernel, by decide +kernel, by decide +kernel⟩, by decide⟩
theorem imX8_begin : Cond.instanceMethod yX8_begin ∈ LW := inLW (List.mem_of_getElem? (i := 752) (by decide +kernel)) (by decide +kernel)
theorem seX8_begin : Cond.selects yX8_begin.cls yX8_begin yX8_begin ∈ LW := inLWs (List.mem_of_getElem? (i := 42) (by decide +kernel)) (by decide +kernel)
theorem lbX8_copyFrom : LkB yX8_copyFrom cX8_copyFrom 3 none 1 := ⟨inLW (List.mem_append_right _ (List.mem_append_left _ (List.mem_of_getElem? (i := 190) rfl))) (by decide +kernel), inLW (List.mem_of_getElem? (i := 5) (by decide +kernel)) (by decide +kernel), ⟨by decide +kernel, by decide +kernel, by decide +kernel⟩, by decide⟩
theorem imX8_copyFrom : Cond.instanceMethod yX8_copyFrom ∈ LW := inLW (List.mem_of_getElem? (i := 429) (by decide +kernel)) (by decide +kernel)
theorem seX8_copyFrom : Cond.selects yX8_copyFrom.cls yX8_copyFrom yX8_copyFrom ∈ LW := inLWs (List.mem_of_getElem? (i := 2) (by decide +kernel)) (by decide +kernel)
theorem lbX9_init : LkB yX9_init cX9_init 4 none 3 := ⟨inLW (List.mem_append_right _ (List.mem_append_right _ (List.mem_append_right _ (List.mem_append_right _ (List.mem_append_right _ (List.mem_append_left _ (List.mem_of_getElem? (i := 13) rfl))))))) (by decide +kernel), inLW (List.mem_of_getElem? (i := 24) (by decide +kernel)) (by decide +kernel), ⟨by decide +kernel, by decide +kernel, by decide +kernel⟩, by decide⟩
theorem imX9_init : Cond.instanceMethod yX9_init ∈ LW := inLW (List.mem_of_getElem? (i := 1212) (by decide +kernel)) (by decide +kernel)
theorem lbX9_draw : LkB yX9_draw cX9_draw 2 (some .int) 1 := ⟨inLW (List.mem_append_right _ (List.mem_append_right _ (List.mem_append_right _ (List.mem_append_right _ (List.mem_append_right _ (List.mem_append_left _ (List.mem_of_getElem? (i := 36) rfl))))))) (by decide +kernel), inLW (List.mem_of_getElem? (i := 24) (by decide +kernel)) (by decide +kernel), ⟨by decide +kernel, by decide +kernel, by decide +kernel⟩, by decide⟩
theorem imX9_draw : Cond.instanceMethod yX9_draw ∈ LW := inLW (List.mem_of_getElem? (i := 1235) (by decide +kernel)) (by decide +kernel)
theorem seX9_draw : Cond.selects yX9_draw.cls yX9_draw yX9_draw ∈ LW := inLWs (List.mem_of_getElem? (i := 86) (by decide +kernel)) (by decide +kernel)
theorem lbX9_pass : LkB yX9_pass cX9_pass 3 none 0 := ⟨inLW (List.mem_append_right _ (List.mem_append_right _ (List.mem_append_right _ (List.mem_append_right _ (List.mem_append_right _ (List.mem_append_left _ (List.mem_of_getElem? (i := 32) rfl))))))) (by decide +kernel), inLW (List.mem_of_getElem? (i := 24) (by decide +kernel)) (by decide +kernel), ⟨by decide +kernel, by decide +kernel, by decide +kernel⟩, by decide⟩
theorem imX9_pass : Cond.instanceMethod yX9_pass ∈ LW := inLW (List.mem_of_getElem? (i := 1231) (by decide +kernel)) (by decide +kernel)
theorem seX9_pass : Cond.selects yX9_pass.cls yX9_pass yX9_pass ∈ LW := inLWs (List.mem_of_getElem? (i := 85) (by decide +kernel)) (by decide +kernel)
theorem lbX9_turnLink : LkB yX9_turnLink cX9_turnLink 2 none 1 := ⟨inLW (List.mem_append_right _ (List.mem_append_right _ (List.mem_append_right _ (List.mem_append_right _ (List.mem_append_right _ (List.mem_append_left _ (List.mem_of_getElem? (i := 41) rfl))))))) (by decide +kernel), inLW (List.mem_of_getElem? (i := 24) (by decide +kernel)) (by decide +kernel), ⟨by decide +kernel, by decide +kernel, by decide +kernel⟩, by decide⟩
theorem imX9_turnLink : Cond.instanceMethod yX9_turnLink ∈ LW := inLW (List.mem_of_getElem? (i := 1240) (by decide +kernel)) (by decide +kernel)
theorem seX9_turnLink : Cond.selects yX9_turnLink.cls yX9_turnLink yX9_turnLink ∈ LW := inLWs (List.mem_of_getElem? (i := 87) (by decide +kernel)) (by decide +kernel)
theorem lbX10_init : LkB yX10_init cX10_init 1 none 0 := ⟨inLW (List.mem_append_left _ (List.mem_of_getElem? (i := 29) rfl)) (by decide +kernel), inLW (List.mem_of_getElem? (i := 1) (by decide +kernel)) (by decide +kernel), ⟨by decide +kernel, by decide +kernel, by decide +kernel⟩, by decide⟩
theorem imX10_init : Cond.instanceMethod yX10_init ∈ LW := inLW (List.mem_of_getElem? (i := 28) (by decide +kernel)) (by decide +kernel)
theorem lbX10_feed : LkB yX10_feed cX10_feed 6 (some .int) 5 := ⟨inLW (List.mem_append_right _ (List.mem_append_left _ (List.mem_of_getElem? (i := 170) rfl))) (by decide +kernel), inLW (List.mem_of_getElem? (i := 1) (by decide +kernel)) (by decide +kernel), ⟨by decide +kernel, by decide +kernel, by decide +kernel⟩, by decide⟩
theorem imX10_feed : Cond.instanceMethod yX10_feed ∈ LW := inLW (List.mem_of_getElem? (i := 408) (by decide +kernel)) (by decide +kernel)
theorem seX10_feed : Cond.selects yX10_feed.cls yX10_feed yX10_feed ∈ LW := inLW (List.mem_of_getElem? (i := 409) (by decide +kernel)) (by decide +kernel)
theorem lbX10_putBytes : LkB yX10_putBytes cX10_putBytes 3 none 1 := ⟨inLW (List.mem_append_right _ (List.mem_append_left _ (List.mem_of_getElem? (i := 174) rfl))) (by decide +kernel), inLW (List.mem_of_getElem? (i := 1) (by decide +kernel)) (by decide +kernel), ⟨by decide +kernel, by decide +kernel, by decide +kernel⟩, by decide⟩
theorem imX10_putBytes : Cond.instanceMethod yX10_putBytes ∈ LW := inLW (List.mem_of_getElem? (i := 413) (by decide +kernel)) (by decide +kernel)
theorem seX10_putBytes : Cond.selects yX10_putBytes.cls yX10_putBytes yX10_putBytes ∈ LW := inLWs (List.mem_of_getElem? (i := 0) (by decide +kernel)) (by decide +kernel)
theorem lbX10_network : LkB yX10_network cX10_network 3 (some .int) 1 := ⟨inLW (List.mem_append_right _ (List.mem_append_right _ (List.mem_append_left _ (List.mem_of_getElem? (i := 90) rfl)))) (by decide +kernel), inLW (List.mem_of_getElem? (i := 1) (by decide +kernel)) (by decide +kernel), ⟨by decide +kernel, by decide +kernel, by decide +kernel⟩, by decide⟩
theorem imX10_network : Cond.instanceMethod yX10_network ∈ LW := inLW (List.mem_of_getElem? (i := 568) (by decide +kernel)) (by decide +kernel)
theorem seX10_network : Cond.selects yX10_network.cls yX10_network yX10_network ∈ LW := inLW (List.mem_of_getElem? (i := 569) (by decide +kernel)) (by decide +kernel)
theorem lbX10_fault : LkB yX10_fault cX10_fault 1 (some .int) 0 := ⟨inLW (List.mem_append_right _ (List.mem_append_left _ (List.mem_of_getElem? (i := 178) rfl))) (by decide +kernel), inLW (List.mem_of_getElem? (i := 1) (by decide +kernel)) (by decide +kernel), ⟨by decide +kernel, by decide +kernel, by decide +kernel⟩, by decide⟩
theorem imX10_fault : Cond.instanceMethod yX10_fault ∈ LW := inLW (List.mem_of_getElem? (i := 416) (by decide +kernel)) (by decide +kernel)
theorem seX10_fault : Cond.selects yX10_fault.cls yX10_fault yX10_fault ∈ LW := inLW (List.mem_of_getElem? (i := 417) (by decide +kernel)) (by decide +kernel)
theorem lbX10_count : LkB yX10_count cX10_count 2 (some .int) 1 := ⟨inLW (List.mem_append_right _ (List.mem_append_right _ (List.mem_append_right _ (List.mem_append_left _ (List.mem_of_getElem? (i := 45) rfl))))) (by decide +kernel), inLW (List.mem_of_getElem? (i := 1) (by decide +kernel)) (by decide +kernel), ⟨by decide +kernel, by decide +kernel, by decide +kernel⟩, by decide⟩
theorem imX10_count : Cond.instanceMethod yX10_count ∈ LW := inLW (List.mem_of_getElem? (i := 763) (by decide +kernel)) (by decide +kernel)
theorem seX10_count : Cond.selects yX10_count.cls yX10_count yX10_count ∈ LW := inLW (List.mem_of_getElem? (i := 764) (by decide +kernel)) (by decide +kernel)
theorem lbX10_worstLink : LkB yX10_worstLink cX10_worstLink 5 (some .int) 0 := ⟨inLW (List.mem_append_right _ (List.mem_append_right _ (List.mem_append_right _ (List.mem_append_left _ (List.mem_of_getElem? (i := 75) rfl))))) (by decide +kernel), inLW (List.mem_of_getElem? (i := 1) (by decide +kernel)) (by decide +kernel), ⟨by decide +kernel, by decide +kernel, by decide +kernel⟩, by decide⟩
theorem imX10_worstLink : Cond.instanceMethod yX10_worstLink ∈ LW := inLW (List.mem_of_getElem? (i := 794) (by decide +kernel)) (by decide +kernel)
theorem seX10_worstLink : Cond.selects yX10_worstLink.cls yX10_worstLink yX10_worstLink ∈ LW := inLWs (List.mem_of_getElem? (i := 50) (by decide +kernel)) (by decide +kernel)
theorem lbX10_lostBy : LkB yX10_lostBy cX10_lostBy 4 (some .int) 1 := ⟨inLW (List.mem_append_right _ (List.mem_append_right _ (List.mem_append_right _ (List.mem_append_left _ (List.mem_of_getElem? (i := 79) rfl))))) (by decide +kernel), inLW (List.mem_of_getElem? (i := 1) (by decide +kernel)) (by decide +kernel), ⟨by decide +kernel, by decide +kernel, by decide +kernel⟩, by decide⟩
theorem imX10_lostBy : Cond.instanceMethod yX10_lostBy ∈ LW := inLW (List.mem_of_getElem? (i := 798) (by decide +kernel)) (by decide +kernel)
theorem seX10_lostBy : Cond.selects yX10_lostBy.cls yX10_lostBy yX10_lostBy ∈ LW := inLWs (List.mem_of_getElem? (i := 51) (by decide +kernel)) (by decide +kernel)
theorem lbX10_checkLink : LkB yX10_checkLink cX10_checkLink 2 none 1 := ⟨inLW (List.mem_append_right _ (List.mem_append_right _ (List.mem_append_right _ (List.mem_append_left _ (List.mem_of_getElem? (i := 148) rfl))))) (by decide +kernel), inLW (List.mem_of_getElem? (i := 1) (by decide +kernel)) (by decide +kernel), ⟨by decide +kernel, by decide +kernel, by decide +kernel⟩, by decide⟩
theorem imX10_checkLink : Cond.instanceMethod yX10_checkLink ∈ LW := inLW (List.mem_of_getElem? (i := 867) (by decide +kernel)) (by decide +kernel)
theorem seX10_checkLink : Cond.selects yX10_checkLink.cls yX10_checkLink yX10_checkLink ∈ LW := inLWs (List.mem_of_getElem? (i := 61) (by decide +kernel)) (by decide +kernel)
theorem lbX10_checkTunnel : LkB yX10_checkTunnel cX10_checkTunnel 2 none 1 := ⟨inLW (List.mem_append_right _ (List.mem_append_right _ (List.mem_append_right _ (List.mem_append_left _ (List.mem_of_getElem? (i := 177) rfl))))) (by decide +kernel), inLW (List.mem_of_getElem? (i := 1) (by decide +kernel)) (by decide +kernel), ⟨by decide +kernel, by decide +kernel, by decide +kernel⟩, by decide⟩
theorem imX10_checkTunnel : Cond.instanceMethod yX10_checkTunnel ∈ LW := inLW (List.mem_of_getElem? (i := 896) (by decide +kernel)) (by decide +kernel)
theorem seX10_checkTunnel : Cond.selects yX10_checkTunnel.cls yX10_checkTunnel yX10_checkTunnel ∈ LW := inLWs (List.mem_of_getElem? (i := 62) (by decide +kernel)) (by decide +kernel)
theorem lbX10_checkNodes : LkB yX10_checkNodes cX10_checkNodes 3 none 2 := ⟨inLW (List.mem_append_right _ (List.mem_append_right _ (List.mem_append_right _ (List.mem_append_right _ (List.mem_append_left _ (List.mem_of_getElem? (i := 73) rfl)))))) (by decide +kernel), inLW (List.mem_of_getElem? (i := 1) (by decide +kernel)) (by decide +kernel), ⟨by decide +kernel, by decide +kernel, by decide +kernel⟩, by decide⟩
theorem imX10_checkNodes : Cond.instanceMethod yX10_checkNodes ∈ LW := inLW (List.mem_of_getElem? (i := 1032) (by decide +kernel)) (by decide +kernel)
theorem seX10_checkNodes : Cond.selects yX10_checkNodes.cls yX10_checkNodes yX10_checkNodes ∈ LW := inLWs (List.mem_of_getElem? (i := 71) (by decide +kernel)) (by decide +kernel)
theorem lbX10_checkUnlike : LkB yX10_checkUnlike cX10_checkUnlike 2 none 2 := ⟨inLW (List.mem_append_right _ (List.mem_append_right _ (List.mem_append_right _ (List.mem_append_right _ (List.mem_append_left _ (List.mem_of_getElem? (i := 77) rfl)))))) (by decide +kernel), inLW (List.mem_of_getElem? (i := 1) (by decide +kernel)) (by decide +kernel), ⟨by decide +kernel, by decide +kernel, by decide +kernel⟩, by decide⟩
theorem smX10_checkUnlike : Cond.static yX10_checkUnlike ∈ LW := inLW (List.mem_of_getElem? (i := 1036) (by decide +kernel)) (by decide +kernel)
theorem lbX10_isPriority : LkB yX10_isPriority cX10_isPriority 1 (some .boolean) 1 := ⟨inLW (List.mem_append_right _ (List.mem_append_right _ (List.mem_append_right _ (List.mem_append_left _ (List.mem_of_getElem? (i := 164) rfl))))) (by decide +kernel), inLW (List.mem_of_getElem? (i := 1) (by decide +kernel)) (by decide +kernel), ⟨by decide +kernel, by decide +kernel, by decide +kernel⟩, by decide⟩
theorem smX10_isPriority : Cond.static yX10_isPriority ∈ LW := inLW (List.mem_of_getElem? (i := 883) (by decide +kernel)) (by decide +kernel)
theorem lbX10_isAmount : LkB yX10_isAmount cX10_isAmount 1 (some .boolean) 1 := ⟨inLW (List.mem_append_right _ (List.mem_append_right _ (List.mem_append_right _ (List.mem_append_right _ (List.mem_append_left _ (List.mem_of_getElem? (i := 25) rfl)))))) (by decide +kernel), inLW (List.mem_of_getElem? (i := 1) (by decide +kernel)) (by decide +kernel), ⟨by decide +kernel, by decide +kernel, by decide +kernel⟩, by decide⟩
theorem smX10_isAmount : Cond.static yX10_isAmount ∈ LW := inLW (List.mem_of_getElem? (i := 984) (by decide +kernel)) (by decide +kernel)
theorem lbX10_checkPriority : LkB yX10_checkPriority cX10_checkPriority 1 none 1 := ⟨inLW (List.mem_append_right _ (List.mem_append_right _ (List.mem_append_right _ (List.mem_append_left _ (List.mem_of_getElem? (i := 161) rfl))))) (by decide +kernel), inLW (List.mem_of_getElem? (i := 1) (by decide +kernel)) (by decide +kernel), ⟨by decide +kernel, by decide +kernel, by decide +kernel⟩, by decide⟩
theorem smX10_checkPriority : Cond.static yX10_checkPriority ∈ LW := inLW (List.mem_of_getElem? (i := 880) (by decide +kernel)) (by decide +kernel)
theorem lbX10_checkPlace : LkB yX10_checkPlace cX10_checkPlace 1 none 1 := ⟨inLW (List.mem_append_right _ (List.mem_append_right _ (List.mem_append_right _ (List.mem_append_left _ (List.mem_of_getElem? (i := 195) rfl))))) (by decide +kernel), inLW (List.mem_of_getElem? (i := 1) (by decide +kernel)) (by decide +kernel), ⟨by decide +kernel, by decide +kernel, by decide +kernel⟩, by decide⟩
theorem smX10_checkPlace : Cond.static yX10_checkPlace ∈ LW := inLW (List.mem_of_getElem? (i := 914) (by decide +kernel)) (by decide +kernel)
theorem lbX10_link : LkB yX10_link cX10_link 3 (some .int) 2 := ⟨inLW (List.mem_append_right _ (List.mem_append_right _ (List.mem_append_right _ (List.mem_append_left _ (List.mem_of_getElem? (i := 144) rfl))))) (by decide +kernel), inLW (List.mem_of_getElem? (i := 1) (by decide +kernel)) (by decide +kernel), ⟨by decide +kernel, by decide +kernel, by decide +kernel⟩, by decide⟩
theorem imX10_link : Cond.instanceMethod yX10_link ∈ LW := inLW (List.mem_of_getElem? (i := 862) (by decide +kernel)) (by decide +kernel)
theorem seX10_link : Cond.selects yX10_link.cls yX10_link yX10_link ∈ LW := inLW (List.mem_of_getElem? (i := 863) (by decide +kernel)) (by decide +kernel)
theorem lbX10_pool : LkB yX10_pool cX10_pool 3 (some .int) 2 := ⟨inLW (List.mem_append_right _ (List.mem_append_right _ (List.mem_append_right _ (List.mem_append_left _ (List.mem_of_getElem? (i := 158) rfl))))) (by decide +kernel), inLW (List.mem_of_getElem? (i := 1) (by decide +kernel)) (by decide +kernel), ⟨by decide +kernel, by decide +kernel, by decide +kernel⟩, by decide⟩
theorem imX10_pool : Cond.instanceMethod yX10_pool ∈ LW := inLW (List.mem_of_getElem? (i := 876) (by decide +kernel)) (by decide +kernel)
theorem seX10_pool : Cond.selects yX10_pool.cls yX10_pool yX10_pool ∈ LW := inLW (List.mem_of_getElem? (i := 877) (by decide +kernel)) (by decide +kernel)
theorem lbX10_tunnel : LkB yX10_tunnel cX10_tunnel 4 (some .int) 2 := ⟨inLW (List.mem_append_right _ (List.mem_append_right _ (List.mem_append_right _ (List.mem_append_left _ (List.mem_of_getElem? (i := 173) rfl))))) (by decide +kernel), inLW (List.mem_of_getElem? (i := 1) (by decide +kernel)) (by decide +kernel), ⟨by decide +kernel, by decide +kernel, by decide +kernel⟩, by decide⟩
theorem imX10_tunnel : Cond.instanceMethod yX10_tunnel ∈ LW := inLW (List.mem_of_getElem? (i := 891) (by decide +kernel)) (by decide +kernel)
theorem seX10_tunnel : Cond.selects yX10_tunnel.cls yX10_tunnel yX10_tunnel ∈ LW := inLW (List.mem_of_getElem? (i := 892) (by decide +kernel)) (by decide +kernel)
theorem lbX10_way : LkB yX10_way cX10_way 4 (some .int) 2 := ⟨inLW (List.mem_append_right _ (List.mem_append_right _ (List.mem_append_right _ (List.mem_append_left _ (List.mem_of_getElem? (i := 192) rfl))))) (by decide +kernel), inLW (List.mem_of_getElem? (i := 1) (by decide +kernel)) (by decide +kernel), ⟨by decide +kernel, by decide +kernel, by decide +kernel⟩, by decide⟩
theorem imX10_way : Cond.instanceMethod yX10_way ∈ LW := inLW (List.mem_of_getElem? (i := 910) (by decide +kernel)) (by decide +kernel)
theorem seX10_way : Cond.selects yX10_way.cls yX10_way yX10_way ∈ LW := inLW (List.mem_of_getElem? (i := 911) (by decide +kernel)) (by decide +kernel)
theorem lbX10_best : LkB yX10_best cX10_best 3 (some .int) 2 := ⟨inLW (List.mem_append_right _ (List.mem_append_right _ (List.mem_append_right _ (List.mem_append_left _ (List.mem_of_getElem? (i := 212) rfl))))) (by decide +kernel), inLW (List.mem_of_getElem? (i := 1) (by decide +kernel)) (by decide +kernel), ⟨by decide +kernel, by decide +kernel, by decide +kernel⟩, by decide⟩
theorem imX10_best : Cond.instanceMethod yX10_best ∈ LW := inLW (List.mem_of_getElem? (i := 930) (by decide +kernel)) (by decide +kernel)
theorem seX10_best : Cond.selects yX10_best.cls yX10_best yX10_best ∈ LW := inLW (List.mem_of_getElem? (i := 931) (by decide +kernel)) (by decide +kernel)
theorem lbX10_pushes : LkB yX10_pushes cX10_pushes 7 (some .int) 2 := ⟨inLW (List.mem_append_right _ (List.mem_append_right _ (List.mem_append_right _ (List.mem_append_left _ (List.mem_of_getElem? (i := 223) rfl))))) (by decide +kernel), inLW (List.mem_of_getElem? (i := 1) (by decide +kernel)) (by decide +kernel), ⟨by decide +kernel, by decide +kernel, by decide +kernel⟩, by decide⟩
theorem imX10_pushes : Cond.instanceMethod yX10_pushes ∈ LW := inLW (List.mem_of_getElem? (i := 941) (by decide +kernel)) (by decide +kernel)
theorem seX10_pushes : Cond.selects yX10_pushes.cls yX10_pushes yX10_pushes ∈ LW := inLW (List.mem_of_getElem? (i := 942) (by decide +kernel)) (by decide +kernel)
theorem lbX10_refuseAct : LkB yX10_refuseAct cX10_refuseAct 1 (some .int) 0 := ⟨inLW (List.mem_append_right _ (List.mem_append_right _ (List.mem_append_right _ (List.mem_append_left _ (List.mem_of_getElem? (i := 237) rfl))))) (by decide +kernel), inLW (List.mem_of_getElem? (i := 1) (by decide +kernel)) (by decide +kernel), ⟨by decide +kernel, by decide +kernel, by decide +kernel⟩, by decide⟩
theorem imX10_refuseAct : Cond.instanceMethod yX10_refuseAct ∈ LW := inLW (List.mem_of_getElem? (i := 956) (by decide +kernel)) (by decide +kernel)
theorem seX10_refuseAct : Cond.selects yX10_refuseAct.cls yX10_refuseAct yX10_refuseAct ∈ LW := inLWs (List.mem_of_getElem? (i := 67) (by decide +kernel)) (by decide +kernel)
theorem lbX10_setUp : LkB yX10_setUp cX10_setUp 2 (some .int) 1 := ⟨inLW (List.mem_append_right _ (List.mem_append_right _ (List.mem_append_right _ (List.mem_append_left _ (List.mem_of_getElem? (i := 233) rfl))))) (by decide +kernel), inLW (List.mem_of_getElem? (i := 1) (by decide +kernel)) (by decide +kernel), ⟨by decide +kernel, by decide +kernel, by decide +kernel⟩, by decide⟩
theorem imX10_setUp : Cond.instanceMethod yX10_setUp ∈ LW := inLW (List.mem_of_getElem? (i := 951) (by decide +kernel)) (by decide +kernel)
theorem seX10_setUp : Cond.selects yX10_setUp.cls yX10_setUp yX10_setUp ∈ LW := inLW (List.mem_of_getElem? (i := 952) (by decide +kernel)) (by decide +kernel)
theorem lbX10_tearDown : LkB yX10_tearDown cX10_tearDown 2 (some .boolean) 1 := ⟨inLW (List.mem_append_right _ (List.mem_append_right _ (List.mem_append_right _ (List.mem_append_right _ (List.mem_append_left _ (List.mem_of_getElem? (i := 8) rfl)))))) (by decide +kernel), inLW (List.mem_of_getElem? (i := 1) (by decide +kernel)) (by decide +kernel), ⟨by decide +kernel, by decide +kernel, by decide +kernel⟩, by decide⟩
theorem imX10_tearDown : Cond.instanceMethod yX10_tearDown ∈ LW := inLW (List.mem_of_getElem? (i := 966) (by decide +kernel)) (by decide +kernel)
theorem seX10_tearDown : Cond.selects yX10_tearDown.cls yX10_tearDown yX10_tearDown ∈ LW := inLW (List.mem_of_getElem? (i := 967) (by decide +kernel)) (by decide +kernel)
theorem lbX10_move : LkB yX10_move cX10_move 3 (some .int) 1 := ⟨inLW (List.mem_append_right _ (List.mem_append_right _ (List.mem_append_right _ (List.mem_append_right _ (List.mem_append_left _ (List.mem_of_getElem? (i := 15) rfl)))))) (by decide +kernel), inLW (List.mem_of_getElem? (i := 1) (by decide +kernel)) (by decide +kernel), ⟨by decide +kernel, by decide +kernel, by decide +kernel⟩, by decide⟩
theorem imX10_move : Cond.instanceMethod yX10_move ∈ LW := inLW (List.mem_of_getElem? (i := 973) (by decide +kernel)) (by decide +kernel)
theorem seX10_move : Cond.selects yX10_move.cls yX10_move yX10_move ∈ LW := inLW (List.mem_of_getElem? (i := 974) (by decide +kernel)) (by decide +kernel)
theorem lbX10_resize : LkB yX10_resize cX10_resize 5 (some .int) 2 := ⟨inLW (List.mem_append_right _ (List.mem_append_right _ (List.mem_append_right _ (List.mem_append_right _ (List.mem_append_left _ (List.mem_of_getElem? (i := 22) rfl)))))) (by decide +kernel), inLW (List.mem_of_getElem? (i := 1) (by decide +kernel)) (by decide +kernel), ⟨by decide +kernel, by decide +kernel, by decide +kernel⟩, by decide⟩
theorem imX10_resize : Cond.instanceMethod yX10_resize ∈ LW := inLW (List.mem_of_getElem? (i := 980) (by decide +kernel)) (by decide +kernel)
theorem seX10_resize : Cond.selects yX10_resize.cls yX10_resize yX10_resize ∈ LW := inLW (List.mem_of_getElem? (i := 981) (by decide +kernel)) (by decide +kernel)
theorem lbX10_fail : LkB yX10_fail cX10_fail 3 (some .int) 1 := ⟨inLW (List.mem_append_right _ (List.mem_append_right _ (List.mem_append_right _ (List.mem_append_right _ (List.mem_append_left _ (List.mem_of_getElem? (i := 33) rfl)))))) (by decide +kernel), inLW (List.mem_of_getElem? (i := 1) (by decide +kernel)) (by decide +kernel), ⟨by decide +kernel, by decide +kernel, by decide +kernel⟩, by decide⟩
theorem imX10_fail : Cond.instanceMethod yX10_fail ∈ LW := inLW (List.mem_of_getElem? (i := 991) (by decide +kernel)) (by decide +kernel)
theorem seX10_fail : Cond.selects yX10_fail.cls yX10_fail yX10_fail ∈ LW := inLW (List.mem_of_getElem? (i := 992) (by decide +kernel)) (by decide +kernel)
theorem lbX10_mend : LkB yX10_mend cX10_mend 2 (some .boolean) 1 := ⟨inLW (List.mem_append_right _ (List.mem_append_right _ (List.mem_append_right _ (List.mem_append_right _ (List.mem_append_left _ (List.mem_of_getElem? (i := 40) rfl)))))) (by decide +kernel), inLW (List.mem_of_getElem? (i := 1) (by decide +kernel)) (by decide +kernel), ⟨by decide +kernel, by decide +kernel, by decide +kernel⟩, by decide⟩
theorem imX10_mend : Cond.instanceMethod yX10_mend ∈ LW := inLW (List.mem_of_getElem? (i := 998) (by decide +kernel)) (by decide +kernel)
theorem seX10_mend : Cond.selects yX10_mend.cls yX10_mend yX10_mend ∈ LW := inLW (List.mem_of_getElem? (i := 999) (by decide +kernel)) (by decide +kernel)
theorem lbX10_undo : LkB yX10_undo cX10_undo 1 (some .int) 0 := ⟨inLW (List.mem_append_right _ (List.mem_append_left _ (List.mem_of_getElem? (i := 182) rfl))) (by decide +kernel), inLW (List.mem_of_getElem? (i := 1) (by decide +kernel)) (by decide +kernel), ⟨by decide +kernel, by decide +kernel, by decide +kernel⟩, by decide⟩
theorem imX10_undo : Cond.instanceMethod yX10_undo ∈ LW := inLW (List.mem_of_getElem? (i := 420) (by decide +kernel)) (by decide +kernel)
theorem seX10_undo : Cond.selects yX10_undo.cls yX10_undo yX10_undo ∈ LW := inLW (List.mem_of_getElem? (i := 421) (by decide +kernel)) (by decide +kernel)
theorem lbX10_planned : LkB yX10_planned cX10_planned 3 (some .int) 2 := ⟨inLW (List.mem_append_right _ (List.mem_append_right _ (List.mem_append_right _ (List.mem_append_right _ (List.mem_append_left _ (List.mem_of_getElem? (i := 47) rfl)))))) (by decide +kernel), inLW (List.mem_of_getElem? (i := 1) (by decide +kernel)) (by decide +kernel), ⟨by decide +kernel, by decide +kernel, by decide +kernel⟩, by decide⟩
theorem imX10_planned : Cond.instanceMethod yX10_planned ∈ LW := inLW (List.mem_of_getElem? (i := 1005) (by decide +kernel)) (by decide +kernel)
theorem seX10_planned : Cond.selects yX10_planned.cls yX10_planned yX10_planned ∈ LW := inLW (List.mem_of_getElem? (i := 1006) (by decide +kernel)) (by decide +kernel)
theorem lbX10_order : LkB yX10_order cX10_order 2 (some .int) 1 := ⟨inLW (List.mem_append_right _ (List.mem_append_right _ (List.mem_append_right _ (List.mem_append_right _ (List.mem_append_left _ (List.mem_of_getElem? (i := 58) rfl)))))) (by decide +kernel), inLW (List.mem_of_getElem? (i := 1) (by decide +kernel)) (by decide +kernel), ⟨by decide +kernel, by decide +kernel, by decide +kernel⟩, by decide⟩
theorem imX10_order : Cond.instanceMethod yX10_order ∈ LW := inLW (List.mem_of_getElem? (i := 1016) (by decide +kernel)) (by decide +kernel)
theorem seX10_order : Cond.selects yX10_order.cls yX10_order yX10_order ∈ LW := inLW (List.mem_of_getElem? (i := 1017) (by decide +kernel)) (by decide +kernel)
theorem lbX10_toBreak : LkB yX10_toBreak cX10_toBreak 1 (some .int) 0 := ⟨inLW (List.mem_append_right _ (List.mem_append_left _ (List.mem_of_getElem? (i := 194) rfl))) (by decide +kernel), inLW (List.mem_of_getElem? (i := 1) (by decide +kernel)) (by decide +kernel), ⟨by decide +kernel, by decide +kernel, by decide +kernel⟩, by decide⟩
theorem imX10_toBreak : Cond.instanceMethod yX10_toBreak ∈ LW := inLW (List.mem_of_getElem? (i := 432) (by decide +kernel)) (by decide +kernel)
theorem seX10_toBreak : Cond.selects yX10_toBreak.cls yX10_toBreak yX10_toBreak ∈ LW := inLW (List.mem_of_getElem? (i := 433) (by decide +kernel)) (by decide +kernel)
theorem lbX10_widest : LkB yX10_widest cX10_widest 4 (some .int) 3 := ⟨inLW (List.mem_append_right _ (List.mem_append_right _ (List.mem_append_right _ (List.mem_append_right _ (List.mem_append_left _ (List.mem_of_getElem? (i := 69) rfl)))))) (by decide +kernel), inLW (List.mem_of_getElem? (i := 1) (by decide +kernel)) (by decide +kernel), ⟨by decide +kernel, by decide +kernel, by decide +kernel⟩, by decide⟩
theorem imX10_widest : Cond.instanceMethod yX10_widest ∈ LW := inLW (List.mem_of_getElem? (i := 1027) (by decide +kernel)) (by decide +kernel)
theorem seX10_widest : Cond.selects yX10_widest.cls yX10_widest yX10_widest ∈ LW := inLW (List.mem_of_getElem? (i := 1028) (by decide +kernel)) (by decide +kernel)
theorem lbX10_apart : LkB yX10_apart cX10_apart 3 (some .int) 1 := ⟨inLW (List.mem_append_right _ (List.mem_append_right _ (List.mem_append_right _ (List.mem_append_right _ (List.mem_append_left _ (List.mem_of_getElem? (i := 90) rfl)))))) (by decide +kernel), inLW (List.mem_of_getElem? (i := 1) (by decide +kernel)) (by decide +kernel), ⟨by decide +kernel, by decide +kernel, by decide +kernel⟩, by decide⟩
theorem imX10_apart : Cond.instanceMethod yX10_apart ∈ LW := inLW (List.mem_of_getElem? (i := 1048) (by decide +kernel)) (by decide +kernel)
theorem seX10_apart : Cond.selects yX10_apart.cls yX10_apart yX10_apart ∈ LW := inLW (List.mem_of_getElem? (i := 1049) (by decide +kernel)) (by decide +kernel)
theorem lbX10_cuts : LkB yX10_cuts cX10_cuts 6 (some .int) 2 := ⟨inLW (List.mem_append_right _ (List.mem_append_right _ (List.mem_append_right _ (List.mem_append_right _ (List.mem_append_left _ (List.mem_of_getElem? (i := 135) rfl)))))) (by decide +kernel), inLW (List.mem_of_getElem? (i := 1) (by decide +kernel)) (by decide +kernel), ⟨by decide +kernel, by decide +kernel, by decide +kernel⟩, by decide⟩
theorem imX10_cuts : Cond.instanceMethod yX10_cuts ∈ LW := inLW (List.mem_of_getElem? (i := 1093) (by decide +kernel)) (by decide +kernel)
theorem seX10_cuts : Cond.selects yX10_cuts.cls yX10_cuts yX10_cuts ∈ LW := inLW (List.mem_of_getElem? (i := 1094) (by decide +kernel)) (by decide +kernel)
theorem lbX10_flow : LkB yX10_flow cX10_flow 4 (some .int) 3 := ⟨inLW (List.mem_append_right _ (List.mem_append_right _ (List.mem_append_right _ (List.mem_append_right _ (List.mem_append_left _ (List.mem_of_getElem? (i := 146) rfl)))))) (by decide +kernel), inLW (List.mem_of_getElem? (i := 1) (by decide +kernel)) (by decide +kernel), ⟨by decide +kernel, by decide +kernel, by decide +kernel⟩, by decide⟩
theorem imX10_flow : Cond.instanceMethod yX10_flow ∈ LW := inLW (List.mem_of_getElem? (i := 1104) (by decide +kernel)) (by decide +kernel)
theorem seX10_flow : Cond.selects yX10_flow.cls yX10_flow yX10_flow ∈ LW := inLW (List.mem_of_getElem? (i := 1105) (by decide +kernel)) (by decide +kernel)
theorem lbX10_distance : LkB yX10_distance cX10_distance 4 (some .int) 2 := ⟨inLW (List.mem_append_right _ (List.mem_append_right _ (List.mem_append_right _ (List.mem_append_right _ (List.mem_append_left _ (List.mem_of_getElem? (i := 165) rfl)))))) (by decide +kernel), inLW (List.mem_of_getElem? (i := 1) (by decide +kernel)) (by decide +kernel), ⟨by decide +kernel, by decide +kernel, by decide +kernel⟩, by decide⟩
theorem imX10_distance : Cond.instanceMethod yX10_distance ∈ LW := inLW (List.mem_of_getElem? (i := 1123) (by decide +kernel)) (by decide +kernel)
theorem seX10_distance : Cond.selects yX10_distance.cls yX10_distance yX10_distance ∈ LW := inLW (List.mem_of_getElem? (i := 1124) (by decide +kernel)) (by decide +kernel)
theorem lbX10_room : LkB yX10_room cX10_room 2 (some .int) 1 := ⟨inLW (List.mem_append_right _ (List.mem_append_right _ (List.mem_append_right _ (List.mem_append_right _ (List.mem_append_left _ (List.mem_of_getElem? (i := 174) rfl)))))) (by decide +kernel), inLW (List.mem_of_getElem? (i := 1) (by decide +kernel)) (by decide +kernel), ⟨by decide +kernel, by decide +kernel, by decide +kernel⟩, by decide⟩
theorem imX10_room : Cond.instanceMethod yX10_room ∈ LW := inLW (List.mem_of_getElem? (i := 1132) (by decide +kernel)) (by decide +kernel)
theorem seX10_room : Cond.selects yX10_room.cls yX10_room yX10_room ∈ LW := inLW (List.mem_of_getElem? (i := 1133) (by decide +kernel)) (by decide +kernel)
theorem lbX10_saved : LkB yX10_saved cX10_saved 5 (some .int) 1 := ⟨inLW (List.mem_append_right _ (List.mem_append_right _ (List.mem_append_right _ (List.mem_append_right _ (List.mem_append_left _ (List.mem_of_getElem? (i := 181) rfl)))))) (by decide +kernel), inLW (List.mem_of_getElem? (i := 1) (by decide +kernel)) (by decide +kernel), ⟨by decide +kernel, by decide +kernel, by decide +kernel⟩, by decide⟩
theorem imX10_saved : Cond.instanceMethod yX10_saved ∈ LW := inLW (List.mem_of_getElem? (i := 1139) (by decide +kernel)) (by decide +kernel)
theorem seX10_saved : Cond.selects yX10_saved.cls yX10_saved yX10_saved ∈ LW := inLW (List.mem_of_getElem? (i := 1140) (by decide +kernel)) (by decide +kernel)
theorem lbX10_see : LkB yX10_see cX10_see 7 (some .int) 5 := ⟨inLW (List.mem_append_right _ (List.mem_append_right _ (List.mem_append_right _ (List.mem_append_right _ (List.mem_append_left _ (List.mem_of_getElem? (i := 193) rfl)))))) (by decide +kernel), inLW (List.mem_of_getElem? (i := 1) (by decide +kernel)) (by decide +kernel), ⟨by decide +kernel, by decide +kernel, by decide +kernel⟩, by decide⟩
theorem imX10_see : Cond.instanceMethod yX10_see ∈ LW := inLW (List.mem_of_getElem? (i := 1151) (by decide +kernel)) (by decide +kernel)
theorem seX10_see : Cond.selects yX10_see.cls yX10_see yX10_see ∈ LW := inLW (List.mem_of_getElem? (i := 1152) (by decide +kernel)) (by decide +kernel)
theorem lbX10_forget : LkB yX10_forget cX10_forget 1 none 0 := ⟨inLW (List.mem_append_right _ (List.mem_append_right _ (List.mem_append_left _ (List.mem_of_getElem? (i := 61) rfl)))) (by decide +kernel), inLW (List.mem_of_getElem? (i := 1) (by decide +kernel)) (by decide +kernel), ⟨by decide +kernel, by decide +kernel, by decide +kernel⟩, by decide⟩
theorem imX10_forget : Cond.instanceMethod yX10_forget ∈ LW := inLW (List.mem_of_getElem? (i := 539) (by decide +kernel)) (by decide +kernel)
theorem seX10_forget : Cond.selects yX10_forget.cls yX10_forget yX10_forget ∈ LW := inLW (List.mem_of_getElem? (i := 540) (by decide +kernel)) (by decide +kernel)
theorem lbX10_other : LkB yX10_other cX10_other 2 (some .int) 1 := ⟨inLW (List.mem_append_right _ (List.mem_append_right _ (List.mem_append_right _ (List.mem_append_right _ (List.mem_append_left _ (List.mem_of_getElem? (i := 204) rfl)))))) (by decide +kernel), inLW (List.mem_of_getElem? (i := 1) (by decide +kernel)) (by decide +kernel), ⟨by decide +kernel, by decide +kernel, by decide +kernel⟩, by decide⟩
theorem imX10_other : Cond.instanceMethod yX10_other ∈ LW := inLW (List.mem_of_getElem? (i := 1162) (by decide +kernel)) (by decide +kernel)
theorem seX10_other : Cond.selects yX10_other.cls yX10_other yX10_other ∈ LW := inLW (List.mem_of_getElem? (i := 1163) (by decide +kernel)) (by decide +kernel)
theorem lbX10_otherCapacities : LkB yX10_otherCapacities cX10_otherCapacities 7 (some .int) 1 := ⟨inLW (List.mem_append_right _ (List.mem_append_right _ (List.mem_append_right _ (List.mem_append_right _ (List.mem_append_left _ (List.mem_of_getElem? (i := 219) rfl)))))) (by decide +kernel), inLW (List.mem_of_getElem? (i := 1) (by decide +kernel)) (by decide +kernel), ⟨by decide +kernel, by decide +kernel, by decide +kernel⟩, by decide⟩
theorem imX10_otherCapacities : Cond.instanceMethod yX10_otherCapacities ∈ LW := inLW (List.mem_of_getElem? (i := 1178) (by decide +kernel)) (by decide +kernel)
theorem seX10_otherCapacities : Cond.selects yX10_otherCapacities.cls yX10_otherCapacities yX10_otherCapacities ∈ LW := inLWs (List.mem_of_getElem? (i := 83) (by decide +kernel)) (by decide +kernel)
theorem lbX10_luck : LkB yX10_luck cX10_luck 9 (some .int) 2 := ⟨inLW (List.mem_append_right _ (List.mem_append_right _ (List.mem_append_right _ (List.mem_append_right _ (List.mem_append_left _ (List.mem_of_getElem? (i := 235) rfl)))))) (by decide +kernel), inLW (List.mem_of_getElem? (i := 1) (by decide +kernel)) (by decide +kernel), ⟨by decide +kernel, by decide +kernel, by decide +kernel⟩, by decide⟩
theorem imX10_luck : Cond.instanceMethod yX10_luck ∈ LW := inLW (List.mem_of_getElem? (i := 1193) (by decide +kernel)) (by decide +kernel)
theorem seX10_luck : Cond.selects yX10_luck.cls yX10_luck yX10_luck ∈ LW := inLW (List.mem_of_getElem? (i := 1194) (by decide +kernel)) (by decide +kernel)
theorem lbX10_power : LkB yX10_power cX10_power 4 (some .int) 2 := ⟨inLW (List.mem_append_right _ (List.mem_append_right _ (List.mem_append_right _ (List.mem_append_right _ (List.mem_append_left _ (List.mem_of_getElem? (i := 239) rfl)))))) (by decide +kernel), inLW (List.mem_of_getElem? (i := 1) (by decide +kernel)) (by decide +kernel), ⟨by decide +kernel, by decide +kernel, by decide +kernel⟩, by decide⟩
theorem smX10_power : Cond.static yX10_power ∈ LW := inLW (List.mem_of_getElem? (i := 1198) (by decide +kernel)) (by decide +kernel)
theorem lbX10_years : LkB yX10_years cX10_years 6 (some .int) 3 := ⟨inLW (List.mem_append_right _ (List.mem_append_right _ (List.mem_append_right _ (List.mem_append_right _ (List.mem_append_right _ (List.mem_append_left _ (List.mem_of_getElem? (i := 6) rfl))))))) (by decide +kernel), inLW (List.mem_of_getElem? (i := 1) (by decide +kernel)) (by decide +kernel), ⟨by decide +kernel, by decide +kernel, by decide +kernel⟩, by decide⟩
theorem imX10_years : Cond.instanceMethod yX10_years ∈ LW := inLW (List.mem_of_getElem? (i := 1204) (by decide +kernel)) (by decide +kernel)
theorem seX10_years : Cond.selects yX10_years.cls yX10_years yX10_years ∈ LW := inLW (List.mem_of_getElem? (i := 1205) (by decide +kernel)) (by decide +kernel)
theorem lbX10_image : LkB yX10_image cX10_image 1 none 0 := ⟨inLW (List.mem_append_right _ (List.mem_append_right _ (List.mem_append_left _ (List.mem_of_getElem? (i := 69) rfl)))) (by decide +kernel), inLW (List.mem_of_getElem? (i := 1) (by decide +kernel)) (by decide +kernel), ⟨by decide +kernel, by decide +kernel, by decide +kernel⟩, by decide⟩
theorem imX10_image : Cond.instanceMethod yX10_image ∈ LW := inLW (List.mem_of_getElem? (i := 547) (by decide +kernel)) (by decide +kernel)
theorem seX10_image : Cond.selects yX10_image.cls yX10_image yX10_image ∈ LW := inLW (List.mem_of_getElem? (i := 548) (by decide +kernel)) (by decide +kernel)
theorem lbX10_restore : LkB yX10_restore cX10_restore 1 (some .boolean) 0 := ⟨inLW (List.mem_append_right _ (List.mem_append_right _ (List.mem_append_left _ (List.mem_of_getElem? (i := 82) rfl)))) (by decide +kernel), inLW (List.mem_of_getElem? (i := 1) (by decide +kernel)) (by decide +kernel), ⟨by decide +kernel, by decide +kernel, by decide +kernel⟩, by decide⟩
theorem imX10_restore : Cond.instanceMethod yX10_restore ∈ LW := inLW (List.mem_of_getElem? (i := 560) (by decide +kernel)) (by decide +kernel)
theorem seX10_restore : Cond.selects yX10_restore.cls yX10_restore yX10_restore ∈ LW := inLW (List.mem_of_getElem? (i := 561) (by decide +kernel)) (by decide +kernel)
theorem lbX11_init : LkB yX11_init cX11_init 2 none 0 := ⟨inLW (List.mem_append_right _ (List.mem_append_right _ (List.mem_append_right _ (List.mem_append_right _ (List.mem_append_right _ (List.mem_append_left _ (List.mem_of_getElem? (i := 49) rfl))))))) (by decide +kernel), inLW (List.mem_of_getElem? (i := 10) (by decide +kernel)) (by decide +kernel), ⟨by decide +kernel, by decide +kernel, by decide +kernel⟩, by decide⟩
theorem imX11_init : Cond.instanceMethod yX11_init ∈ LW := inLW (List.mem_of_getElem? (i := 1248) (by decide +kernel)) (by decide +kernel)
theorem lbX11_thrown : LkB yX11_thrown cX11_thrown 1 (some .int) 0 := ⟨inLW (List.mem_append_right _ (List.mem_append_right _ (List.mem_append_right _ (List.mem_append_right _ (List.mem_append_right _ (List.mem_append_left _ (List.mem_of_getElem? (i := 217) rfl))))))) (by decide +kernel), inLW (List.mem_of_getElem? (i := 10) (by decide +kernel)) (by decide +kernel), ⟨by decide +kernel, by decide +kernel, by decide +kernel⟩, by decide⟩
theorem imX11_thrown : Cond.instanceMethod yX11_thrown ∈ LW := inLW (List.mem_of_getElem? (i := 1415) (by decide +kernel)) (by decide +kernel)
theorem seX11_thrown : Cond.selects yX11_thrown.cls yX11_thrown yX11_thrown ∈ LW := inLW (List.mem_of_getElem? (i := 1416) (by decide +kernel)) (by decide +kernel)
theorem lbX11_right : LkB yX11_right cX11_right 3 (some .boolean) 2 := ⟨inLW (List.mem_append_right _ (List.mem_append_right _ (List.mem_append_right _ (List.mem_append_right _ (List.mem_append_right _ (List.mem_append_left _ (List.mem_of_getElem? (i := 233) rfl))))))) (by decide +kernel), inLW (List.mem_of_getElem? (i := 10) (by decide +kernel)) (by decide +kernel), ⟨by decide +kernel, by decide +kernel, by decide +kernel⟩, by decide⟩
theorem imX11_right : Cond.instanceMethod yX11_right ∈ LW := inLW (List.mem_of_getElem? (i := 1432) (by decide +kernel)) (by decide +kernel)
theorem seX11_right : Cond.selects yX11_right.cls yX11_right yX11_right ∈ LW := inLWs (List.mem_of_getElem? (i := 89) (by decide +kernel)) (by decide +kernel)
theorem lbX11_within : LkB yX11_within cX11_within 3 (some .boolean) 3 := ⟨inLW (List.mem_append_right _ (List.mem_append_right _ (List.mem_append_right _ (List.mem_append_right _ (List.mem_append_right _ (List.mem_append_right _ (List.mem_append_left _ (List.mem_of_getElem? (i := 70) rfl)))))))) (by decide +kernel), inLW (List.mem_of_getElem? (i := 10) (by decide +kernel)) (by decide +kernel), ⟨by decide +kernel, by decide +kernel, by decide +kernel⟩, by decide⟩
theorem smX11_within : Cond.static yX11_within ∈ LW := inLW (List.mem_of_getElem? (i := 1509) (by decide +kernel)) (by decide +kernel)
theorem lbX11_lesser : LkB yX11_lesser cX11_lesser 2 (some .int) 2 := ⟨inLW (List.mem_append_right _ (List.mem_append_right _ (List.mem_append_right _ (List.mem_append_right _ (List.mem_append_right _ (List.mem_append_right _ (List.mem_append_left _ (List.mem_of_getElem? (i := 162) rfl)))))))) (by decide +kernel), inLW (List.mem_of_getElem? (i := 10) (by decide +kernel)) (by decide +kernel), ⟨by decide +kernel, by decide +kernel, by decide +kernel⟩, by decide⟩
theorem smX11_lesser : Cond.static yX11_lesser ∈ LW := inLW (List.mem_of_getElem? (i := 1601) (by decide +kernel)) (by decide +kernel)
theorem lbX11_copies : LkB yX11_copies cX11_copies 4 none 2 := ⟨inLW (List.mem_append_right _ (List.mem_append_right _ (List.mem_append_right _ (List.mem_append_right _ (List.mem_append_right _ (List.mem_append_right _ (List.mem_append_left _ (List.mem_of_getElem? (i := 55) rfl)))))))) (by decide +kernel), inLW (List.mem_of_getElem? (i := 10) (by decide +kernel)) (by decide +kernel), ⟨by decide +kernel, by decide +kernel, by decide +kernel⟩, by decide⟩
theorem imX11_copies : Cond.instanceMethod yX11_copies ∈ LW := inLW (List.mem_of_getElem? (i := 1494) (by decide +kernel)) (by decide +kernel)
theorem seX11_copies : Cond.selects yX11_copies.cls yX11_copies yX11_copies ∈ LW := inLWs (List.mem_of_getElem? (i := 102) (by decide +kernel)) (by decide +kernel)
theorem lbX11_bits : LkB yX11_bits cX11_bits 3 (some .int) 1 := ⟨inLW (List.mem_append_right _ (List.mem_append_right _ (List.mem_append_right _ (List.mem_append_right _ (List.mem_append_right _ (List.mem_append_right _ (List.mem_append_left _ (List.mem_of_getElem? (i := 185) rfl)))))))) (by decide +kernel), inLW (List.mem_of_getElem? (i := 10) (by decide +kernel)) (by decide +kernel), ⟨by decide +kernel, by decide +kernel, by decide +kernel⟩, by decide⟩
theorem smX11_bits : Cond.static yX11_bits ∈ LW := inLW (List.mem_of_getElem? (i := 1624) (by decide +kernel)) (by decide +kernel)
theorem lbX11_feed : LkB yX11_feed cX11_feed 6 (some .int) 5 := ⟨inLW (List.mem_append_right _ (List.mem_append_right _ (List.mem_append_right _ (List.mem_append_right _ (List.mem_append_right _ (List.mem_append_left _ (List.mem_of_getElem? (i := 221) rfl))))))) (by decide +kernel), inLW (List.mem_of_getElem? (i := 10) (by decide +kernel)) (by decide +kernel), ⟨by decide +kernel, by decide +kernel, by decide +kernel⟩, by decide⟩
theorem imX11_feed : Cond.instanceMethod yX11_feed ∈ LW := inLW (List.mem_of_getElem? (i := 1419) (by decide +kernel)) (by decide +kernel)
theorem seX11_feed : Cond.selects yX11_feed.cls yX11_feed yX11_feed ∈ LW := inLW (List.mem_of_getElem? (i := 1420) (by decide +kernel)) (by decide +kernel)
theorem lbX11_lays : LkB yX11_lays cX11_lays 3 none 1 := ⟨inLW (List.mem_append_right _ (List.mem_append_right _ (List.mem_append_right _ (List.mem_append_right _ (List.mem_append_right _ (List.mem_append_left _ (List.mem_of_getElem? (i := 225) rfl))))))) (by decide +kernel), inLW (List.mem_of_getElem? (i := 10) (by decide +kernel)) (by decide +kernel), ⟨by decide +kernel, by decide +kernel, by decide +kernel⟩, by decide⟩
theorem imX11_lays : Cond.instanceMethod yX11_lays ∈ LW := inLW (List.mem_of_getElem? (i := 1424) (by decide +kernel)) (by decide +kernel)
theorem seX11_lays : Cond.selects yX11_lays.cls yX11_lays yX11_lays ∈ LW := inLWs (List.mem_of_getElem? (i := 88) (by decide +kernel)) (by decide +kernel)
theorem lbX11_byteAt : LkB yX11_byteAt cX11_byteAt 2 (some .int) 1 := ⟨inLW (List.mem_append_right _ (List.mem_append_right _ (List.mem_append_right _ (List.mem_append_right _ (List.mem_append_right _ (List.mem_append_right _ (List.mem_append_left _ (List.mem_of_getElem? (i := 1) rfl)))))))) (by decide +kernel), inLW (List.mem_of_getElem? (i := 10) (by decide +kernel)) (by decide +kernel), ⟨by decide +kernel, by decide +kernel, by decide +kernel⟩, by decide⟩
theorem imX11_byteAt : Cond.instanceMethod yX11_byteAt ∈ LW := inLW (List.mem_of_getElem? (i := 1440) (by decide +kernel)) (by decide +kernel)
theorem seX11_byteAt : Cond.selects yX11_byteAt.cls yX11_byteAt yX11_byteAt ∈ LW := inLWs (List.mem_of_getElem? (i := 91) (by decide +kernel)) (by decide +kernel)
theorem lbX11_isLetter : LkB yX11_isLetter cX11_isLetter 1 (some .boolean) 1 := ⟨inLW (List.mem_append_right _ (List.mem_append_right _ (List.mem_append_right _ (List.mem_append_right _ (List.mem_append_right _ (List.mem_append_right _ (List.mem_append_left _ (List.mem_of_getElem? (i := 4) rfl)))))))) (by decide +kernel), inLW (List.mem_of_getElem? (i := 10) (by decide +kernel)) (by decide +kernel), ⟨by decide +kernel, by decide +kernel, by decide +kernel⟩, by decide⟩
theorem smX11_isLetter : Cond.static yX11_isLetter ∈ LW := inLW (List.mem_of_getElem? (i := 1443) (by decide +kernel)) (by decide +kernel)
theorem lbX11_isDigit : LkB yX11_isDigit cX11_isDigit 1 (some .boolean) 1 := ⟨inLW (List.mem_append_right _ (List.mem_append_right _ (List.mem_append_right _ (List.mem_append_right _ (List.mem_append_right _ (List.mem_append_right _ (List.mem_append_left _ (List.mem_of_getElem? (i := 7) rfl)))))))) (by decide +kernel), inLW (List.mem_of_getElem? (i := 10) (by decide +kernel)) (by decide +kernel), ⟨by decide +kernel, by decide +kernel, by decide +kernel⟩, by decide⟩
theorem smX11_isDigit : Cond.static yX11_isDigit ∈ LW := inLW (List.mem_of_getElem? (i := 1446) (by decide +kernel)) (by decide +kernel)
theorem lbX11_goes : LkB yX11_goes cX11_goes 2 none 0 := ⟨inLW (List.mem_append_right _ (List.mem_append_right _ (List.mem_append_right _ (List.mem_append_right _ (List.mem_append_right _ (List.mem_append_left _ (List.mem_of_getElem? (i := 237) rfl))))))) (by decide +kernel), inLW (List.mem_of_getElem? (i := 10) (by decide +kernel)) (by decide +kernel), ⟨by decide +kernel, by decide +kernel, by decide +kernel⟩, by decide⟩
theorem imX11_goes : Cond.instanceMethod yX11_goes ∈ LW := inLW (List.mem_of_getElem? (i := 1436) (by decide +kernel)) (by decide +kernel)
theorem seX11_goes : Cond.selects yX11_goes.cls yX11_goes yX11_goes ∈ LW := inLWs (List.mem_of_getElem? (i := 90) (by decide +kernel)) (by decide +kernel)
theorem lbX11_spelled : LkB yX11_spelled cX11_spelled 8 (some .long) 6 := ⟨inLW (List.mem_append_right _ (List.mem_append_right _ (List.mem_append_right _ (List.mem_append_right _ (List.mem_append_right _ (List.mem_append_right _ (List.mem_append_left _ (List.mem_of_getElem? (i := 10) rfl)))))))) (by decide +kernel), inLW (List.mem_of_getElem? (i := 10) (by decide +kernel)) (by decide +kernel), ⟨by decide +kernel, by decide +kernel, by decide +kernel⟩, by decide⟩
theorem smX11_spelled : Cond.static yX11_spelled ∈ LW := inLW (List.mem_of_getElem? (i := 1449) (by decide +kernel)) (by decide +kernel)
theorem lbX11_isWord : LkB yX11_isWord cX11_isWord 4 (some .boolean) 2 := ⟨inLW (List.mem_append_right _ (List.mem_append_right _ (List.mem_append_right _ (List.mem_append_right _ (List.mem_append_right _ (List.mem_append_right _ (List.mem_append_left _ (List.mem_of_getElem? (i := 15) rfl)))))))) (by decide +kernel), inLW (List.mem_of_getElem? (i := 10) (by decide +kernel)) (by decide +kernel), ⟨by decide +kernel, by decide +kernel, by decide +kernel⟩, by decide⟩
theorem imX11_isWord : Cond.instanceMethod yX11_isWord ∈ LW := inLW (List.mem_of_getElem? (i := 1454) (by decide +kernel)) (by decide +kernel)
theorem seX11_isWord : Cond.selects yX11_isWord.cls yX11_isWord yX11_isWord ∈ LW := inLWs (List.mem_of_getElem? (i := 92) (by decide +kernel)) (by decide +kernel)
theorem lbX11_wrong : LkB yX11_wrong cX11_wrong 2 none 1 := ⟨inLW (List.mem_append_right _ (List.mem_append_right _ (List.mem_append_right _ (List.mem_append_right _ (List.mem_append_right _ (List.mem_append_right _ (List.mem_append_left _ (List.mem_of_getElem? (i := 27) rfl)))))))) (by decide +kernel), inLW (List.mem_of_getElem? (i := 10) (by decide +kernel)) (by decide +kernel), ⟨by decide +kernel, by decide +kernel, by decide +kernel⟩, by decide⟩
theorem imX11_wrong : Cond.instanceMethod yX11_wrong ∈ LW := inLW (List.mem_of_getElem? (i := 1466) (by decide +kernel)) (by decide +kernel)
theorem seX11_wrong : Cond.selects yX11_wrong.cls yX11_wrong yX11_wrong ∈ LW := inLWs (List.mem_of_getElem? (i := 95) (by decide +kernel)) (by decide +kernel)
theorem lbX11_isGood : LkB yX11_isGood cX11_isGood 1 (some .boolean) 0 := ⟨inLW (List.mem_append_right _ (List.mem_append_right _ (List.mem_append_right _ (List.mem_append_right _ (List.mem_append_right _ (List.mem_append_right _ (List.mem_append_left _ (List.mem_of_getElem? (i := 23) rfl)))))))) (by decide +kernel), inLW (List.mem_of_getElem? (i := 10) (by decide +kernel)) (by decide +kernel), ⟨by decide +kernel, by decide +kernel, by decide +kernel⟩, by decide⟩
theorem imX11_isGood : Cond.instanceMethod yX11_isGood ∈ LW := inLW (List.mem_of_getElem? (i := 1462) (by decide +kernel)) (by decide +kernel)
theorem seX11_isGood : Cond.selects yX11_isGood.cls yX11_isGood yX11_isGood ∈ LW := inLWs (List.mem_of_getElem? (i := 94) (by decide +kernel)) (by decide +kernel)
theorem lbX11_need : LkB yX11_need cX11_need 2 none 1 := ⟨inLW (List.mem_append_right _ (List.mem_append_right _ (List.mem_append_right _ (List.mem_append_right _ (List.mem_append_right _ (List.mem_append_right _ (List.mem_append_left _ (List.mem_of_getElem? (i := 31) rfl)))))))) (by decide +kernel), inLW (List.mem_of_getElem? (i := 10) (by decide +kernel)) (by decide +kernel), ⟨by decide +kernel, by decide +kernel, by decide +kernel⟩, by decide⟩
theorem imX11_need : Cond.instanceMethod yX11_need ∈ LW := inLW (List.mem_of_getElem? (i := 1470) (by decide +kernel)) (by decide +kernel)
theorem seX11_need : Cond.selects yX11_need.cls yX11_need yX11_need ∈ LW := inLWs (List.mem_of_getElem? (i := 96) (by decide +kernel)) (by decide +kernel)
theorem lbX11_number : LkB yX11_number cX11_number 4 (some .int) 2 := ⟨inLW (List.mem_append_right _ (List.mem_append_right _ (List.mem_append_right _ (List.mem_append_right _ (List.mem_append_right _ (List.mem_append_right _ (List.mem_append_left _ (List.mem_of_getElem? (i := 19) rfl)))))))) (by decide +kernel), inLW (List.mem_of_getElem? (i := 10) (by decide +kernel)) (by decide +kernel), ⟨by decide +kernel, by decide +kernel, by decide +kernel⟩, by decide⟩
theorem imX11_number : Cond.instanceMethod yX11_number ∈ LW := inLW (List.mem_of_getElem? (i := 1458) (by decide +kernel)) (by decide +kernel)
theorem seX11_number : Cond.selects yX11_number.cls yX11_number yX11_number ∈ LW := inLWs (List.mem_of_getElem? (i := 93) (by decide +kernel)) (by decide +kernel)
theorem lbX11_nodeBut : LkB yX11_nodeBut cX11_nodeBut 3 (some .int) 1 := ⟨inLW (List.mem_append_right _ (List.mem_append_right _ (List.mem_append_right _ (List.mem_append_right _ (List.mem_append_right _ (List.mem_append_right _ (List.mem_append_left _ (List.mem_of_getElem? (i := 47) rfl)))))))) (by decide +kernel), inLW (List.mem_of_getElem? (i := 10) (by decide +kernel)) (by decide +kernel), ⟨by decide +kernel, by decide +kernel, by decide +kernel⟩, by decide⟩
theorem imX11_nodeBut : Cond.instanceMethod yX11_nodeBut ∈ LW := inLW (List.mem_of_getElem? (i := 1486) (by decide +kernel)) (by decide +kernel)
theorem seX11_nodeBut : Cond.selects yX11_nodeBut.cls yX11_nodeBut yX11_nodeBut ∈ LW := inLWs (List.mem_of_getElem? (i := 100) (by decide +kernel)) (by decide +kernel)
theorem lbX11_begins : LkB yX11_begins cX11_begins 2 (some .boolean) 1 := ⟨inLW (List.mem_append_right _ (List.mem_append_right _ (List.mem_append_right _ (List.mem_append_right _ (List.mem_append_right _ (List.mem_append_right _ (List.mem_append_left _ (List.mem_of_getElem? (i := 39) rfl)))))))) (by decide +kernel), inLW (List.mem_of_getElem? (i := 10) (by decide +kernel)) (by decide +kernel), ⟨by decide +kernel, by decide +kernel, by decide +kernel⟩, by decide⟩
theorem imX11_begins : Cond.instanceMethod yX11_begins ∈ LW := inLW (List.mem_of_getElem? (i := 1478) (by decide +kernel)) (by decide +kernel)
theorem seX11_begins : Cond.selects yX11_begins.cls yX11_begins yX11_begins ∈ LW := inLWs (List.mem_of_getElem? (i := 98) (by decide +kernel)) (by decide +kernel)
theorem lbX11_readsLink : LkB yX11_readsLink cX11_readsLink 2 none 0 := ⟨inLW (List.mem_append_right _ (List.mem_append_right _ (List.mem_append_right _ (List.mem_append_right _ (List.mem_append_right _ (List.mem_append_right _ (List.mem_append_left _ (List.mem_of_getElem? (i := 43) rfl)))))))) (by decide +kernel), inLW (List.mem_of_getElem? (i := 10) (by decide +kernel)) (by decide +kernel), ⟨by decide +kernel, by decide +kernel, by decide +kernel⟩, by decide⟩
theorem imX11_readsLink : Cond.instanceMethod yX11_readsLink ∈ LW := inLW (List.mem_of_getElem? (i := 1482) (by decide +kernel)) (by decide +kernel)
theorem seX11_readsLink : Cond.selects yX11_readsLink.cls yX11_readsLink yX11_readsLink ∈ LW := inLWs (List.mem_of_getElem? (i := 99) (by decide +kernel)) (by decide +kernel)
theorem lbX11_readsTunnel : LkB yX11_readsTunnel cX11_readsTunnel 2 none 0 := ⟨inLW (List.mem_append_right _ (List.mem_append_right _ (List.mem_append_right _ (List.mem_append_right _ (List.mem_append_right _ (List.mem_append_right _ (List.mem_append_left _ (List.mem_of_getElem? (i := 51) rfl)))))))) (by decide +kernel), inLW (List.mem_of_getElem? (i := 10) (by decide +kernel)) (by decide +kernel), ⟨by decide +kernel, by decide +kernel, by decide +kernel⟩, by decide⟩
theorem imX11_readsTunnel : Cond.instanceMethod yX11_readsTunnel ∈ LW := inLW (List.mem_of_getElem? (i := 1490) (by decide +kernel)) (by decide +kernel)
theorem seX11_readsTunnel : Cond.selects yX11_readsTunnel.cls yX11_readsTunnel yX11_readsTunnel ∈ LW := inLWs (List.mem_of_getElem? (i := 101) (by decide +kernel)) (by decide +kernel)
theorem lbX11_line : LkB yX11_line cX11_line 1 none 0 := ⟨inLW (List.mem_append_right _ (List.mem_append_right _ (List.mem_append_right _ (List.mem_append_right _ (List.mem_append_right _ (List.mem_append_right _ (List.mem_append_left _ (List.mem_of_getElem? (i := 35) rfl)))))))) (by decide +kernel), inLW (List.mem_of_getElem? (i := 10) (by decide +kernel)) (by decide +kernel), ⟨by decide +kernel, by decide +kernel, by decide +kernel⟩, by decide⟩
theorem imX11_line : Cond.instanceMethod yX11_line ∈ LW := inLW (List.mem_of_getElem? (i := 1474) (by decide +kernel)) (by decide +kernel)
theorem seX11_line : Cond.selects yX11_line.cls yX11_line yX11_line ∈ LW := inLWs (List.mem_of_getElem? (i := 97) (by decide +kernel)) (by decide +kernel)
theorem lbX11_network : LkB yX11_network cX11_network 3 (some .int) 1 := ⟨inLW (List.mem_append_right _ (List.mem_append_right _ (List.mem_append_right _ (List.mem_append_right _ (List.mem_append_right _ (List.mem_append_left _ (List.mem_of_getElem? (i := 229) rfl))))))) (by decide +kernel), inLW (List.mem_of_getElem? (i := 10) (by decide +kernel)) (by decide +kernel), ⟨by decide +kernel, by decide +kernel, by decide +kernel⟩, by decide⟩
theorem imX11_network : Cond.instanceMethod yX11_network ∈ LW := inLW (List.mem_of_getElem? (i := 1427) (by decide +kernel)) (by decide +kernel)
theorem seX11_network : Cond.selects yX11_network.cls yX11_network yX11_network ∈ LW := inLW (List.mem_of_getElem? (i := 1428) (by decide +kernel)) (by decide +kernel)
theorem lbX11_fault : LkB yX11_fault cX11_fault 1 (some .int) 0 := ⟨inLW (List.mem_append_right _ (List.mem_append_right _ (List.mem_append_right _ (List.mem_append_right _ (List.mem_append_right _ (List.mem_append_right _ (List.mem_append_left _ (List.mem_of_getElem? (i := 59) rfl)))))))) (by decide +kernel), inLW (List.mem_of_getElem? (i := 10) (by decide +kernel)) (by decide +kernel), ⟨by decide +kernel, by decide +kernel, by decide +kernel⟩, by decide⟩
theorem imX11_fault : Cond.instanceMethod yX11_fault ∈ LW := inLW (List.mem_of_getElem? (i := 1497) (by decide +kernel)) (by decide +kernel)
theorem seX11_fault : Cond.selects yX11_fault.cls yX11_fault yX11_fault ∈ LW := inLW (List.mem_of_getElem? (i := 1498) (by decide +kernel)) (by decide +kernel)
theorem lbX11_keeps : LkB yX11_keeps cX11_keeps 2 none 0 := ⟨inLW (List.mem_append_right _ (List.mem_append_right _ (List.mem_append_right _ (List.mem_append_right _ (List.mem_append_right _ (List.mem_append_right _ (List.mem_append_right _ (List.mem_of_getElem? (i := 9) rfl)))))))) (by decide +kernel), inLW (List.mem_of_getElem? (i := 10) (by decide +kernel)) (by decide +kernel), ⟨by decide +kernel, by decide +kernel, by decide +kernel⟩, by decide⟩
theorem imX11_keeps : Cond.instanceMethod yX11_keeps ∈ LW := inLW (List.mem_of_getElem? (i := 1688) (by decide +kernel)) (by decide +kernel)
theorem seX11_keeps : Cond.selects yX11_keeps.cls yX11_keeps yX11_keeps ∈ LW := inLWs (List.mem_of_getElem? (i := 138) (by decide +kernel)) (by decide +kernel)
theorem lbX11_refuses : LkB yX11_refuses cX11_refuses 2 (some .int) 1 := ⟨inLW (List.mem_append_right _ (List.mem_append_right _ (List.mem_append_right _ (List.mem_append_right _ (List.mem_append_right _ (List.mem_append_right _ (List.mem_append_right _ (List.mem_of_getElem? (i := 5) rfl)))))))) (by decide +kernel), inLW (List.mem_of_getElem? (i := 10) (by decide +kernel)) (by decide +kernel), ⟨by decide +kernel, by decide +kernel, by decide +kernel⟩, by decide⟩
theorem imX11_refuses : Cond.instanceMethod yX11_refuses ∈ LW := inLW (List.mem_of_getElem? (i := 1684) (by decide +kernel)) (by decide +kernel)
theorem seX11_refuses : Cond.selects yX11_refuses.cls yX11_refuses yX11_refuses ∈ LW := inLWs (List.mem_of_getElem? (i := 137) (by decide +kernel)) (by decide +kernel)
theorem lbX11_undo : LkB yX11_undo cX11_undo 2 (some .int) 0 := ⟨inLW (List.mem_append_right _ (List.mem_append_right _ (List.mem_append_right _ (List.mem_append_right _ (List.mem_append_right _ (List.mem_append_right _ (List.mem_append_left _ (List.mem_of_getElem? (i := 63) rfl)))))))) (by decide +kernel), inLW (List.mem_of_getElem? (i := 10) (by decide +kernel)) (by decide +kernel), ⟨by decide +kernel, by decide +kernel, by decide +kernel⟩, by decide⟩
theorem imX11_undo : Cond.instanceMethod yX11_undo ∈ LW := inLW (List.mem_of_getElem? (i := 1501) (by decide +kernel)) (by decide +kernel)
theorem seX11_undo : Cond.selects yX11_undo.cls yX11_undo yX11_undo ∈ LW := inLW (List.mem_of_getElem? (i := 1502) (by decide +kernel)) (by decide +kernel)
theorem lbX11_tries : LkB yX11_tries cX11_tries 2 none 0 := ⟨inLW (List.mem_append_right _ (List.mem_append_right _ (List.mem_append_right _ (List.mem_append_right _ (List.mem_append_right _ (List.mem_append_right _ (List.mem_append_left _ (List.mem_of_getElem? (i := 130) rfl)))))))) (by decide +kernel), inLW (List.mem_of_getElem? (i := 10) (by decide +kernel)) (by decide +kernel), ⟨by decide +kernel, by decide +kernel, by decide +kernel⟩, by decide⟩
theorem imX11_tries : Cond.instanceMethod yX11_tries ∈ LW := inLW (List.mem_of_getElem? (i := 1569) (by decide +kernel)) (by decide +kernel)
theorem seX11_tries : Cond.selects yX11_tries.cls yX11_tries yX11_tries ∈ LW := inLWs (List.mem_of_getElem? (i := 117) (by decide +kernel)) (by decide +kernel)
theorem lbX11_isUp : LkB yX11_isUp cX11_isUp 3 (some .boolean) 2 := ⟨inLW (List.mem_append_right _ (List.mem_append_right _ (List.mem_append_right _ (List.mem_append_right _ (List.mem_append_right _ (List.mem_append_right _ (List.mem_append_left _ (List.mem_of_getElem? (i := 114) rfl)))))))) (by decide +kernel), inLW (List.mem_of_getElem? (i := 10) (by decide +kernel)) (by decide +kernel), ⟨by decide +kernel, by decide +kernel, by decide +kernel⟩, by decide⟩
theorem imX11_isUp : Cond.instanceMethod yX11_isUp ∈ LW := inLW (List.mem_of_getElem? (i := 1553) (by decide +kernel)) (by decide +kernel)
theorem seX11_isUp : Cond.selects yX11_isUp.cls yX11_isUp yX11_isUp ∈ LW := inLWs (List.mem_of_getElem? (i := 113) (by decide +kernel)) (by decide +kernel)
theorem lbX11_doesStand : LkB yX11_doesStand cX11_doesStand 3 (some .boolean) 2 := ⟨inLW (List.mem_append_right _ (List.mem_append_right _ (List.mem_append_right _ (List.mem_append_right _ (List.mem_append_right _ (List.mem_append_right _ (List.mem_append_left _ (List.mem_of_getElem? (i := 78) rfl)))))))) (by decide +kernel), inLW (List.mem_of_getElem? (i := 10) (by decide +kernel)) (by decide +kernel), ⟨by decide +kernel, by decide +kernel, by decide +kernel⟩, by decide⟩
theorem imX11_doesStand : Cond.instanceMethod yX11_doesStand ∈ LW := inLW (List.mem_of_getElem? (i := 1517) (by decide +kernel)) (by decide +kernel)
theorem seX11_doesStand : Cond.selects yX11_doesStand.cls yX11_doesStand yX11_doesStand ∈ LW := inLWs (List.mem_of_getElem? (i := 104) (by decide +kernel)) (by decide +kernel)
theorem lbX11_standing : LkB yX11_standing cX11_standing 4 (some .int) 1 := ⟨inLW (List.mem_append_right _ (List.mem_append_right _ (List.mem_append_right _ (List.mem_append_right _ (List.mem_append_right _ (List.mem_append_right _ (List.mem_append_left _ (List.mem_of_getElem? (i := 74) rfl)))))))) (by decide +kernel), inLW (List.mem_of_getElem? (i := 10) (by decide +kernel)) (by decide +kernel), ⟨by decide +kernel, by decide +kernel, by decide +kernel⟩, by decide⟩
theorem imX11_standing : Cond.instanceMethod yX11_standing ∈ LW := inLW (List.mem_of_getElem? (i := 1513) (by decide +kernel)) (by decide +kernel)
theorem seX11_standing : Cond.selects yX11_standing.cls yX11_standing yX11_standing ∈ LW := inLWs (List.mem_of_getElem? (i := 103) (by decide +kernel)) (by decide +kernel)
theorem lbX11_wayBits : LkB yX11_wayBits cX11_wayBits 5 (some .int) 2 := ⟨inLW (List.mem_append_right _ (List.mem_append_right _ (List.mem_append_right _ (List.mem_append_right _ (List.mem_append_right _ (List.mem_append_right _ (List.mem_append_left _ (List.mem_of_getElem? (i := 98) rfl)))))))) (by decide +kernel), inLW (List.mem_of_getElem? (i := 10) (by decide +kernel)) (by decide +kernel), ⟨by decide +kernel, by decide +kernel, by decide +kernel⟩, by decide⟩
theorem imX11_wayBits : Cond.instanceMethod yX11_wayBits ∈ LW := inLW (List.mem_of_getElem? (i := 1537) (by decide +kernel)) (by decide +kernel)
theorem seX11_wayBits : Cond.selects yX11_wayBits.cls yX11_wayBits yX11_wayBits ∈ LW := inLWs (List.mem_of_getElem? (i := 109) (by decide +kernel)) (by decide +kernel)
theorem lbX11_metric : LkB yX11_metric cX11_metric 4 (some .int) 1 := ⟨inLW (List.mem_append_right _ (List.mem_append_right _ (List.mem_append_right _ (List.mem_append_right _ (List.mem_append_right _ (List.mem_append_right _ (List.mem_append_left _ (List.mem_of_getElem? (i := 106) rfl)))))))) (by decide +kernel), inLW (List.mem_of_getElem? (i := 10) (by decide +kernel)) (by decide +kernel), ⟨by decide +kernel, by decide +kernel, by decide +kernel⟩, by decide⟩
theorem imX11_metric : Cond.instanceMethod yX11_metric ∈ LW := inLW (List.mem_of_getElem? (i := 1545) (by decide +kernel)) (by decide +kernel)
theorem seX11_metric : Cond.selects yX11_metric.cls yX11_metric yX11_metric ∈ LW := inLWs (List.mem_of_getElem? (i := 111) (by decide +kernel)) (by decide +kernel)
theorem lbX11_setupOf : LkB yX11_setupOf cX11_setupOf 2 (some .int) 1 := ⟨inLW (List.mem_append_right _ (List.mem_append_right _ (List.mem_append_right _ (List.mem_append_right _ (List.mem_append_right _ (List.mem_append_right _ (List.mem_append_left _ (List.mem_of_getElem? (i := 142) rfl)))))))) (by decide +kernel), inLW (List.mem_of_getElem? (i := 10) (by decide +kernel)) (by decide +kernel), ⟨by decide +kernel, by decide +kernel, by decide +kernel⟩, by decide⟩
theorem imX11_setupOf : Cond.instanceMethod yX11_setupOf ∈ LW := inLW (List.mem_of_getElem? (i := 1581) (by decide +kernel)) (by decide +kernel)
theorem seX11_setupOf : Cond.selects yX11_setupOf.cls yX11_setupOf yX11_setupOf ∈ LW := inLWs (List.mem_of_getElem? (i := 120) (by decide +kernel)) (by decide +kernel)
theorem lbX11_holdOf : LkB yX11_holdOf cX11_holdOf 2 (some .int) 1 := ⟨inLW (List.mem_append_right _ (List.mem_append_right _ (List.mem_append_right _ (List.mem_append_right _ (List.mem_append_right _ (List.mem_append_right _ (List.mem_append_left _ (List.mem_of_getElem? (i := 94) rfl)))))))) (by decide +kernel), inLW (List.mem_of_getElem? (i := 10) (by decide +kernel)) (by decide +kernel), ⟨by decide +kernel, by decide +kernel, by decide +kernel⟩, by decide⟩
theorem imX11_holdOf : Cond.instanceMethod yX11_holdOf ∈ LW := inLW (List.mem_of_getElem? (i := 1533) (by decide +kernel)) (by decide +kernel)
theorem seX11_holdOf : Cond.selects yX11_holdOf.cls yX11_holdOf yX11_holdOf ∈ LW := inLWs (List.mem_of_getElem? (i := 108) (by decide +kernel)) (by decide +kernel)
theorem lbX11_poolAt : LkB yX11_poolAt cX11_poolAt 6 (some .int) 3 := ⟨inLW (List.mem_append_right _ (List.mem_append_right _ (List.mem_append_right _ (List.mem_append_right _ (List.mem_append_right _ (List.mem_append_right _ (List.mem_append_left _ (List.mem_of_getElem? (i := 90) rfl)))))))) (by decide +kernel), inLW (List.mem_of_getElem? (i := 10) (by decide +kernel)) (by decide +kernel), ⟨by decide +kernel, by decide +kernel, by decide +kernel⟩, by decide⟩
theorem imX11_poolAt : Cond.instanceMethod yX11_poolAt ∈ LW := inLW (List.mem_of_getElem? (i := 1529) (by decide +kernel)) (by decide +kernel)
theorem seX11_poolAt : Cond.selects yX11_poolAt.cls yX11_poolAt yX11_poolAt ∈ LW := inLWs (List.mem_of_getElem? (i := 107) (by decide +kernel)) (by decide +kernel)
theorem lbX11_takenAt : LkB yX11_takenAt cX11_takenAt 3 (some .int) 2 := ⟨inLW (List.mem_append_right _ (List.mem_append_right _ (List.mem_append_right _ (List.mem_append_right _ (List.mem_append_right _ (List.mem_append_right _ (List.mem_append_left _ (List.mem_of_getElem? (i := 86) rfl)))))))) (by decide +kernel), inLW (List.mem_of_getElem? (i := 10) (by decide +kernel)) (by decide +kernel), ⟨by decide +kernel, by decide +kernel, by decide +kernel⟩, by decide⟩
theorem imX11_takenAt : Cond.instanceMethod yX11_takenAt ∈ LW := inLW (List.mem_of_getElem? (i := 1525) (by decide +kernel)) (by decide +kernel)
theorem seX11_takenAt : Cond.selects yX11_takenAt.cls yX11_takenAt yX11_takenAt ∈ LW := inLWs (List.mem_of_getElem? (i := 106) (by decide +kernel)) (by decide +kernel)
theorem lbX11_laysPools : LkB yX11_laysPools cX11_laysPools 9 none 5 := ⟨inLW (List.mem_append_right _ (List.mem_append_right _ (List.mem_append_right _ (List.mem_append_right _ (List.mem_append_right _ (List.mem_append_right _ (List.mem_append_left _ (List.mem_of_getElem? (i := 150) rfl)))))))) (by decide +kernel), inLW (List.mem_of_getElem? (i := 10) (by decide +kernel)) (by decide +kernel), ⟨by decide +kernel, by decide +kernel, by decide +kernel⟩, by decide⟩
theorem imX11_laysPools : Cond.instanceMethod yX11_laysPools ∈ LW := inLW (List.mem_of_getElem? (i := 1589) (by decide +kernel)) (by decide +kernel)
theorem seX11_laysPools : Cond.selects yX11_laysPools.cls yX11_laysPools yX11_laysPools ∈ LW := inLWs (List.mem_of_getElem? (i := 122) (by decide +kernel)) (by decide +kernel)
theorem lbX11_laysBest : LkB yX11_laysBest cX11_laysBest 7 none 1 := ⟨inLW (List.mem_append_right _ (List.mem_append_right _ (List.mem_append_right _ (List.mem_append_right _ (List.mem_append_right _ (List.mem_append_right _ (List.mem_append_left _ (List.mem_of_getElem? (i := 158) rfl)))))))) (by decide +kernel), inLW (List.mem_of_getElem? (i := 10) (by decide +kernel)) (by decide +kernel), ⟨by decide +kernel, by decide +kernel, by decide +kernel⟩, by decide⟩
theorem imX11_laysBest : Cond.instanceMethod yX11_laysBest ∈ LW := inLW (List.mem_of_getElem? (i := 1597) (by decide +kernel)) (by decide +kernel)
theorem seX11_laysBest : Cond.selects yX11_laysBest.cls yX11_laysBest yX11_laysBest ∈ LW := inLWs (List.mem_of_getElem? (i := 124) (by decide +kernel)) (by decide +kernel)
theorem lbX11_isFound : LkB yX11_isFound cX11_isFound 9 (some .boolean) 3 := ⟨inLW (List.mem_append_right _ (List.mem_append_right _ (List.mem_append_right _ (List.mem_append_right _ (List.mem_append_right _ (List.mem_append_right _ (List.mem_append_left _ (List.mem_of_getElem? (i := 154) rfl)))))))) (by decide +kernel), inLW (List.mem_of_getElem? (i := 10) (by decide +kernel)) (by decide +kernel), ⟨by decide +kernel, by decide +kernel, by decide +kernel⟩, by decide⟩
theorem imX11_isFound : Cond.instanceMethod yX11_isFound ∈ LW := inLW (List.mem_of_getElem? (i := 1593) (by decide +kernel)) (by decide +kernel)
theorem seX11_isFound : Cond.selects yX11_isFound.cls yX11_isFound yX11_isFound ∈ LW := inLWs (List.mem_of_getElem? (i := 123) (by decide +kernel)) (by decide +kernel)
theorem lbX11_hasBest : LkB yX11_hasBest cX11_hasBest 4 (some .boolean) 3 := ⟨inLW (List.mem_append_right _ (List.mem_append_right _ (List.mem_append_right _ (List.mem_append_right _ (List.mem_append_right _ (List.mem_append_right _ (List.mem_append_left _ (List.mem_of_getElem? (i := 146) rfl)))))))) (by decide +kernel), inLW (List.mem_of_getElem? (i := 10) (by decide +kernel)) (by decide +kernel), ⟨by decide +kernel, by decide +kernel, by decide +kernel⟩, by decide⟩
theorem imX11_hasBest : Cond.instanceMethod yX11_hasBest ∈ LW := inLW (List.mem_of_getElem? (i := 1585) (by decide +kernel)) (by decide +kernel)
theorem seX11_hasBest : Cond.selects yX11_hasBest.cls yX11_hasBest yX11_hasBest ∈ LW := inLWs (List.mem_of_getElem? (i := 121) (by decide +kernel)) (by decide +kernel)
theorem lbX11_hasAny : LkB yX11_hasAny cX11_hasAny 3 (some .boolean) 2 := ⟨inLW (List.mem_append_right _ (List.mem_append_right _ (List.mem_append_right _ (List.mem_append_right _ (List.mem_append_right _ (List.mem_append_right _ (List.mem_append_left _ (List.mem_of_getElem? (i := 225) rfl)))))))) (by decide +kernel), inLW (List.mem_of_getElem? (i := 10) (by decide +kernel)) (by decide +kernel), ⟨by decide +kernel, by decide +kernel, by decide +kernel⟩, by decide⟩
theorem imX11_hasAny : Cond.instanceMethod yX11_hasAny ∈ LW := inLW (List.mem_of_getElem? (i := 1664) (by decide +kernel)) (by decide +kernel)
theorem seX11_hasAny : Cond.selects yX11_hasAny.cls yX11_hasAny yX11_hasAny ∈ LW := inLWs (List.mem_of_getElem? (i := 136) (by decide +kernel)) (by decide +kernel)
theorem lbX11_takes : LkB yX11_takes cX11_takes 4 none 2 := ⟨inLW (List.mem_append_right _ (List.mem_append_right _ (List.mem_append_right _ (List.mem_append_right _ (List.mem_append_right _ (List.mem_append_right _ (List.mem_append_left _ (List.mem_of_getElem? (i := 166) rfl)))))))) (by decide +kernel), inLW (List.mem_of_getElem? (i := 10) (by decide +kernel)) (by decide +kernel), ⟨by decide +kernel, by decide +kernel, by decide +kernel⟩, by decide⟩
theorem imX11_takes : Cond.instanceMethod yX11_takes ∈ LW := inLW (List.mem_of_getElem? (i := 1605) (by decide +kernel)) (by decide +kernel)
theorem seX11_takes : Cond.selects yX11_takes.cls yX11_takes yX11_takes ∈ LW := inLWs (List.mem_of_getElem? (i := 125) (by decide +kernel)) (by decide +kernel)
theorem lbX11_isEnough : LkB yX11_isEnough cX11_isEnough 8 (some .boolean) 3 := ⟨inLW (List.mem_append_right _ (List.mem_append_right _ (List.mem_append_right _ (List.mem_append_right _ (List.mem_append_right _ (List.mem_append_right _ (List.mem_append_left _ (List.mem_of_getElem? (i := 174) rfl)))))))) (by decide +kernel), inLW (List.mem_of_getElem? (i := 10) (by decide +kernel)) (by decide +kernel), ⟨by decide +kernel, by decide +kernel, by decide +kernel⟩, by decide⟩
theorem imX11_isEnough : Cond.instanceMethod yX11_isEnough ∈ LW := inLW (List.mem_of_getElem? (i := 1613) (by decide +kernel)) (by decide +kernel)
theorem seX11_isEnough : Cond.selects yX11_isEnough.cls yX11_isEnough yX11_isEnough ∈ LW := inLWs (List.mem_of_getElem? (i := 127) (by decide +kernel)) (by decide +kernel)
theorem lbX11_harm : LkB yX11_harm cX11_harm 4 (some .int) 1 := ⟨inLW (List.mem_append_right _ (List.mem_append_right _ (List.mem_append_right _ (List.mem_append_right _ (List.mem_append_right _ (List.mem_append_right _ (List.mem_append_left _ (List.mem_of_getElem? (i := 182) rfl)))))))) (by decide +kernel), inLW (List.mem_of_getElem? (i := 10) (by decide +kernel)) (by decide +kernel), ⟨by decide +kernel, by decide +kernel, by decide +kernel⟩, by decide⟩
theorem imX11_harm : Cond.instanceMethod yX11_harm ∈ LW := inLW (List.mem_of_getElem? (i := 1621) (by decide +kernel)) (by decide +kernel)
theorem seX11_harm : Cond.selects yX11_harm.cls yX11_harm yX11_harm ∈ LW := inLWs (List.mem_of_getElem? (i := 129) (by decide +kernel)) (by decide +kernel)
theorem lbX11_bandOf : LkB yX11_bandOf cX11_bandOf 5 (some .int) 2 := ⟨inLW (List.mem_append_right _ (List.mem_append_right _ (List.mem_append_right _ (List.mem_append_right _ (List.mem_append_right _ (List.mem_append_right _ (List.mem_append_left _ (List.mem_of_getElem? (i := 189) rfl)))))))) (by decide +kernel), inLW (List.mem_of_getElem? (i := 10) (by decide +kernel)) (by decide +kernel), ⟨by decide +kernel, by decide +kernel, by decide +kernel⟩, by decide⟩
theorem imX11_bandOf : Cond.instanceMethod yX11_bandOf ∈ LW := inLW (List.mem_of_getElem? (i := 1628) (by decide +kernel)) (by decide +kernel)
theorem seX11_bandOf : Cond.selects yX11_bandOf.cls yX11_bandOf yX11_bandOf ∈ LW := inLWs (List.mem_of_getElem? (i := 130) (by decide +kernel)) (by decide +kernel)
theorem lbX11_isLess : LkB yX11_isLess cX11_isLess 4 (some .boolean) 3 := ⟨inLW (List.mem_append_right _ (List.mem_append_right _ (List.mem_append_right _ (List.mem_append_right _ (List.mem_append_right _ (List.mem_append_right _ (List.mem_append_left _ (List.mem_of_getElem? (i := 178) rfl)))))))) (by decide +kernel), inLW (List.mem_of_getElem? (i := 10) (by decide +kernel)) (by decide +kernel), ⟨by decide +kernel, by decide +kernel, by decide +kernel⟩, by decide⟩
theorem imX11_isLess : Cond.instanceMethod yX11_isLess ∈ LW := inLW (List.mem_of_getElem? (i := 1617) (by decide +kernel)) (by decide +kernel)
theorem seX11_isLess : Cond.selects yX11_isLess.cls yX11_isLess yX11_isLess ∈ LW := inLWs (List.mem_of_getElem? (i := 128) (by decide +kernel)) (by decide +kernel)
theorem lbX11_pushedBy : LkB yX11_pushedBy cX11_pushedBy 6 (some .int) 2 := ⟨inLW (List.mem_append_right _ (List.mem_append_right _ (List.mem_append_right _ (List.mem_append_right _ (List.mem_append_right _ (List.mem_append_right _ (List.mem_append_left _ (List.mem_of_getElem? (i := 170) rfl)))))))) (by decide +kernel), inLW (List.mem_of_getElem? (i := 10) (by decide +kernel)) (by decide +kernel), ⟨by decide +kernel, by decide +kernel, by decide +kernel⟩, by decide⟩
theorem imX11_pushedBy : Cond.instanceMethod yX11_pushedBy ∈ LW := inLW (List.mem_of_getElem? (i := 1609) (by decide +kernel)) (by decide +kernel)
theorem seX11_pushedBy : Cond.selects yX11_pushedBy.cls yX11_pushedBy yX11_pushedBy ∈ LW := inLWs (List.mem_of_getElem? (i := 126) (by decide +kernel)) (by decide +kernel)
theorem lbX11_settles : LkB yX11_settles cX11_settles 7 none 2 := ⟨inLW (List.mem_append_right _ (List.mem_append_right _ (List.mem_append_right _ (List.mem_append_right _ (List.mem_append_right _ (List.mem_append_right _ (List.mem_append_left _ (List.mem_of_getElem? (i := 138) rfl)))))))) (by decide +kernel), inLW (List.mem_of_getElem? (i := 10) (by decide +kernel)) (by decide +kernel), ⟨by decide +kernel, by decide +kernel, by decide +kernel⟩, by decide⟩
theorem imX11_settles : Cond.instanceMethod yX11_settles ∈ LW := inLW (List.mem_of_getElem? (i := 1577) (by decide +kernel)) (by decide +kernel)
theorem seX11_settles : Cond.selects yX11_settles.cls yX11_settles yX11_settles ∈ LW := inLWs (List.mem_of_getElem? (i := 119) (by decide +kernel)) (by decide +kernel)
theorem lbX11_fails : LkB yX11_fails cX11_fails 5 none 2 := ⟨inLW (List.mem_append_right _ (List.mem_append_right _ (List.mem_append_right _ (List.mem_append_right _ (List.mem_append_right _ (List.mem_append_right _ (List.mem_append_left _ (List.mem_of_getElem? (i := 134) rfl)))))))) (by decide +kernel), inLW (List.mem_of_getElem? (i := 10) (by decide +kernel)) (by decide +kernel), ⟨by decide +kernel, by decide +kernel, by decide +kernel⟩, by decide⟩
theorem imX11_fails : Cond.instanceMethod yX11_fails ∈ LW := inLW (List.mem_of_getElem? (i := 1573) (by decide +kernel)) (by decide +kernel)
theorem seX11_fails : Cond.selects yX11_fails.cls yX11_fails yX11_fails ∈ LW := inLWs (List.mem_of_getElem? (i := 118) (by decide +kernel)) (by decide +kernel)
theorem lbX11_lossBy : LkB yX11_lossBy cX11_lossBy 2 (some .int) 1 := ⟨inLW (List.mem_append_right _ (List.mem_append_right _ (List.mem_append_right _ (List.mem_append_right _ (List.mem_append_right _ (List.mem_append_right _ (List.mem_append_left _ (List.mem_of_getElem? (i := 126) rfl)))))))) (by decide +kernel), inLW (List.mem_of_getElem? (i := 10) (by decide +kernel)) (by decide +kernel), ⟨by decide +kernel, by decide +kernel, by decide +kernel⟩, by decide⟩
theorem imX11_lossBy : Cond.instanceMethod yX11_lossBy ∈ LW := inLW (List.mem_of_getElem? (i := 1565) (by decide +kernel)) (by decide +kernel)
theorem seX11_lossBy : Cond.selects yX11_lossBy.cls yX11_lossBy yX11_lossBy ∈ LW := inLWs (List.mem_of_getElem? (i := 116) (by decide +kernel)) (by decide +kernel)
theorem lbX11_takenAll : LkB yX11_takenAll cX11_takenAll 4 (some .int) 1 := ⟨inLW (List.mem_append_right _ (List.mem_append_right _ (List.mem_append_right _ (List.mem_append_right _ (List.mem_append_right _ (List.mem_append_right _ (List.mem_append_left _ (List.mem_of_getElem? (i := 82) rfl)))))))) (by decide +kernel), inLW (List.mem_of_getElem? (i := 10) (by decide +kernel)) (by decide +kernel), ⟨by decide +kernel, by decide +kernel, by decide +kernel⟩, by decide⟩
theorem imX11_takenAll : Cond.instanceMethod yX11_takenAll ∈ LW := inLW (List.mem_of_getElem? (i := 1521) (by decide +kernel)) (by decide +kernel)
theorem seX11_takenAll : Cond.selects yX11_takenAll.cls yX11_takenAll yX11_takenAll ∈ LW := inLWs (List.mem_of_getElem? (i := 105) (by decide +kernel)) (by decide +kernel)
theorem lbX11_metricAll : LkB yX11_metricAll cX11_metricAll 3 (some .int) 0 := ⟨inLW (List.mem_append_right _ (List.mem_append_right _ (List.mem_append_right _ (List.mem_append_right _ (List.mem_append_right _ (List.mem_append_right _ (List.mem_append_left _ (List.mem_of_getElem? (i := 102) rfl)))))))) (by decide +kernel), inLW (List.mem_of_getElem? (i := 10) (by decide +kernel)) (by decide +kernel), ⟨by decide +kernel, by decide +kernel, by decide +kernel⟩, by decide⟩
theorem imX11_metricAll : Cond.instanceMethod yX11_metricAll ∈ LW := inLW (List.mem_of_getElem? (i := 1541) (by decide +kernel)) (by decide +kernel)
theorem seX11_metricAll : Cond.selects yX11_metricAll.cls yX11_metricAll yX11_metricAll ∈ LW := inLWs (List.mem_of_getElem? (i := 110) (by decide +kernel)) (by decide +kernel)
theorem lbX11_loadAt : LkB yX11_loadAt cX11_loadAt 2 (some .int) 1 := ⟨inLW (List.mem_append_right _ (List.mem_append_right _ (List.mem_append_right _ (List.mem_append_right _ (List.mem_append_right _ (List.mem_append_right _ (List.mem_append_left _ (List.mem_of_getElem? (i := 118) rfl)))))))) (by decide +kernel), inLW (List.mem_of_getElem? (i := 10) (by decide +kernel)) (by decide +kernel), ⟨by decide +kernel, by decide +kernel, by decide +kernel⟩, by decide⟩
theorem imX11_loadAt : Cond.instanceMethod yX11_loadAt ∈ LW := inLW (List.mem_of_getElem? (i := 1557) (by decide +kernel)) (by decide +kernel)
theorem seX11_loadAt : Cond.selects yX11_loadAt.cls yX11_loadAt yX11_loadAt ∈ LW := inLWs (List.mem_of_getElem? (i := 114) (by decide +kernel)) (by decide +kernel)
theorem lbX11_heaviest : LkB yX11_heaviest cX11_heaviest 3 (some .int) 0 := ⟨inLW (List.mem_append_right _ (List.mem_append_right _ (List.mem_append_right _ (List.mem_append_right _ (List.mem_append_right _ (List.mem_append_right _ (List.mem_append_left _ (List.mem_of_getElem? (i := 110) rfl)))))))) (by decide +kernel), inLW (List.mem_of_getElem? (i := 10) (by decide +kernel)) (by decide +kernel), ⟨by decide +kernel, by decide +kernel, by decide +kernel⟩, by decide⟩
theorem imX11_heaviest : Cond.instanceMethod yX11_heaviest ∈ LW := inLW (List.mem_of_getElem? (i := 1549) (by decide +kernel)) (by decide +kernel)
theorem seX11_heaviest : Cond.selects yX11_heaviest.cls yX11_heaviest yX11_heaviest ∈ LW := inLWs (List.mem_of_getElem? (i := 112) (by decide +kernel)) (by decide +kernel)
theorem lbX11_worst : LkB yX11_worst cX11_worst 6 (some .int) 1 := ⟨inLW (List.mem_append_right _ (List.mem_append_right _ (List.mem_append_right _ (List.mem_append_right _ (List.mem_append_right _ (List.mem_append_right _ (List.mem_append_left _ (List.mem_of_getElem? (i := 122) rfl)))))))) (by decide +kernel), inLW (List.mem_of_getElem? (i := 10) (by decide +kernel)) (by decide +kernel), ⟨by decide +kernel, by decide +kernel, by decide +kernel⟩, by decide⟩
theorem imX11_worst : Cond.instanceMethod yX11_worst ∈ LW := inLW (List.mem_of_getElem? (i := 1561) (by decide +kernel)) (by decide +kernel)
theorem seX11_worst : Cond.selects yX11_worst.cls yX11_worst yX11_worst ∈ LW := inLWs (List.mem_of_getElem? (i := 115) (by decide +kernel)) (by decide +kernel)
theorem lbX11_count : LkB yX11_count cX11_count 2 (some .int) 1 := ⟨inLW (List.mem_append_right _ (List.mem_append_right _ (List.mem_append_right _ (List.mem_append_right _ (List.mem_append_right _ (List.mem_append_right _ (List.mem_append_left _ (List.mem_of_getElem? (i := 67) rfl)))))))) (by decide +kernel), inLW (List.mem_of_getElem? (i := 10) (by decide +kernel)) (by decide +kernel), ⟨by decide +kernel, by decide +kernel, by decide +kernel⟩, by decide⟩
theorem imX11_count : Cond.instanceMethod yX11_count ∈ LW := inLW (List.mem_of_getElem? (i := 1505) (by decide +kernel)) (by decide +kernel)
theorem seX11_count : Cond.selects yX11_count.cls yX11_count yX11_count ∈ LW := inLW (List.mem_of_getElem? (i := 1506) (by decide +kernel)) (by decide +kernel)
theorem lbX11_isLink : LkB yX11_isLink cX11_isLink 2 (some .boolean) 1 := ⟨inLW (List.mem_append_right _ (List.mem_append_right _ (List.mem_append_right _ (List.mem_append_right _ (List.mem_append_right _ (List.mem_append_right _ (List.mem_append_left _ (List.mem_of_getElem? (i := 197) rfl)))))))) (by decide +kernel), inLW (List.mem_of_getElem? (i := 10) (by decide +kernel)) (by decide +kernel), ⟨by decide +kernel, by decide +kernel, by decide +kernel⟩, by decide⟩
theorem imX11_isLink : Cond.instanceMethod yX11_isLink ∈ LW := inLW (List.mem_of_getElem? (i := 1636) (by decide +kernel)) (by decide +kernel)
theorem seX11_isLink : Cond.selects yX11_isLink.cls yX11_isLink yX11_isLink ∈ LW := inLWs (List.mem_of_getElem? (i := 131) (by decide +kernel)) (by decide +kernel)
theorem lbX11_isTunnel : LkB yX11_isTunnel cX11_isTunnel 2 (some .boolean) 1 := ⟨inLW (List.mem_append_right _ (List.mem_append_right _ (List.mem_append_right _ (List.mem_append_right _ (List.mem_append_right _ (List.mem_append_right _ (List.mem_append_left _ (List.mem_of_getElem? (i := 217) rfl)))))))) (by decide +kernel), inLW (List.mem_of_getElem? (i := 10) (by decide +kernel)) (by decide +kernel), ⟨by decide +kernel, by decide +kernel, by decide +kernel⟩, by decide⟩
theorem imX11_isTunnel : Cond.instanceMethod yX11_isTunnel ∈ LW := inLW (List.mem_of_getElem? (i := 1656) (by decide +kernel)) (by decide +kernel)
theorem seX11_isTunnel : Cond.selects yX11_isTunnel.cls yX11_isTunnel yX11_isTunnel ∈ LW := inLWs (List.mem_of_getElem? (i := 134) (by decide +kernel)) (by decide +kernel)
theorem lbX11_isNode : LkB yX11_isNode cX11_isNode 2 (some .boolean) 1 := ⟨inLW (List.mem_append_right _ (List.mem_append_right _ (List.mem_append_right _ (List.mem_append_right _ (List.mem_append_right _ (List.mem_append_right _ (List.mem_append_right _ (List.mem_of_getElem? (i := 73) rfl)))))))) (by decide +kernel), inLW (List.mem_of_getElem? (i := 10) (by decide +kernel)) (by decide +kernel), ⟨by decide +kernel, by decide +kernel, by decide +kernel⟩, by decide⟩
theorem imX11_isNode : Cond.instanceMethod yX11_isNode ∈ LW := inLW (List.mem_of_getElem? (i := 1752) (by decide +kernel)) (by decide +kernel)
theorem seX11_isNode : Cond.selects yX11_isNode.cls yX11_isNode yX11_isNode ∈ LW := inLWs (List.mem_of_getElem? (i := 145) (by decide +kernel)) (by decide +kernel)
theorem lbX11_isWhat : LkB yX11_isWhat cX11_isWhat 3 (some .boolean) 2 := ⟨inLW (List.mem_append_right _ (List.mem_append_right _ (List.mem_append_right _ (List.mem_append_right _ (List.mem_append_right _ (List.mem_append_right _ (List.mem_append_left _ (List.mem_of_getElem? (i := 201) rfl)))))))) (by decide +kernel), inLW (List.mem_of_getElem? (i := 10) (by decide +kernel)) (by decide +kernel), ⟨by decide +kernel, by decide +kernel, by decide +kernel⟩, by decide⟩
theorem imX11_isWhat : Cond.instanceMethod yX11_isWhat ∈ LW := inLW (List.mem_of_getElem? (i := 1640) (by decide +kernel)) (by decide +kernel)
theorem seX11_isWhat : Cond.selects yX11_isWhat.cls yX11_isWhat yX11_isWhat ∈ LW := inLWs (List.mem_of_getElem? (i := 132) (by decide +kernel)) (by decide +kernel)
theorem lbX11_onLink : LkB yX11_onLink cX11_onLink 4 (some .int) 1 := ⟨inLW (List.mem_append_right _ (List.mem_append_right _ (List.mem_append_right _ (List.mem_append_right _ (List.mem_append_right _ (List.mem_append_right _ (List.mem_append_left _ (List.mem_of_getElem? (i := 205) rfl)))))))) (by decide +kernel), inLW (List.mem_of_getElem? (i := 10) (by decide +kernel)) (by decide +kernel), ⟨by decide +kernel, by decide +kernel, by decide +kernel⟩, by decide⟩
theorem imX11_onLink : Cond.instanceMethod yX11_onLink ∈ LW := inLW (List.mem_of_getElem? (i := 1644) (by decide +kernel)) (by decide +kernel)
theorem seX11_onLink : Cond.selects yX11_onLink.cls yX11_onLink yX11_onLink ∈ LW := inLWs (List.mem_of_getElem? (i := 133) (by decide +kernel)) (by decide +kernel)
theorem lbX11_link : LkB yX11_link cX11_link 3 (some .int) 2 := ⟨inLW (List.mem_append_right _ (List.mem_append_right _ (List.mem_append_right _ (List.mem_append_right _ (List.mem_append_right _ (List.mem_append_right _ (List.mem_append_left _ (List.mem_of_getElem? (i := 193) rfl)))))))) (by decide +kernel), inLW (List.mem_of_getElem? (i := 10) (by decide +kernel)) (by decide +kernel), ⟨by decide +kernel, by decide +kernel, by decide +kernel⟩, by decide⟩
theorem imX11_link : Cond.instanceMethod yX11_link ∈ LW := inLW (List.mem_of_getElem? (i := 1631) (by decide +kernel)) (by decide +kernel)
theorem seX11_link : Cond.selects yX11_link.cls yX11_link yX11_link ∈ LW := inLW (List.mem_of_getElem? (i := 1632) (by decide +kernel)) (by decide +kernel)
theorem lbX11_pool : LkB yX11_pool cX11_pool 3 (some .int) 2 := ⟨inLW (List.mem_append_right _ (List.mem_append_right _ (List.mem_append_right _ (List.mem_append_right _ (List.mem_append_right _ (List.mem_append_right _ (List.mem_append_left _ (List.mem_of_getElem? (i := 209) rfl)))))))) (by decide +kernel), inLW (List.mem_of_getElem? (i := 10) (by decide +kernel)) (by decide +kernel), ⟨by decide +kernel, by decide +kernel, by decide +kernel⟩, by decide⟩
theorem imX11_pool : Cond.instanceMethod yX11_pool ∈ LW := inLW (List.mem_of_getElem? (i := 1647) (by decide +kernel)) (by decide +kernel)
theorem seX11_pool : Cond.selects yX11_pool.cls yX11_pool yX11_pool ∈ LW := inLW (List.mem_of_getElem? (i := 1648) (by decide +kernel)) (by decide +kernel)
theorem lbX11_stretch : LkB yX11_stretch cX11_stretch 2 (some .int) 1 := ⟨inLW (List.mem_append_right _ (List.mem_append_right _ (List.mem_append_right _ (List.mem_append_right _ (List.mem_append_right _ (List.mem_append_right _ (List.mem_append_left _ (List.mem_of_getElem? (i := 221) rfl)))))))) (by decide +kernel), inLW (List.mem_of_getElem? (i := 10) (by decide +kernel)) (by decide +kernel), ⟨by decide +kernel, by decide +kernel, by decide +kernel⟩, by decide⟩
theorem imX11_stretch : Cond.instanceMethod yX11_stretch ∈ LW := inLW (List.mem_of_getElem? (i := 1660) (by decide +kernel)) (by decide +kernel)
theorem seX11_stretch : Cond.selects yX11_stretch.cls yX11_stretch yX11_stretch ∈ LW := inLWs (List.mem_of_getElem? (i := 135) (by decide +kernel)) (by decide +kernel)
theorem lbX11_tunnel : LkB yX11_tunnel cX11_tunnel 3 (some .int) 2 := ⟨inLW (List.mem_append_right _ (List.mem_append_right _ (List.mem_append_right _ (List.mem_append_right _ (List.mem_append_right _ (List.mem_append_right _ (List.mem_append_left _ (List.mem_of_getElem? (i := 213) rfl)))))))) (by decide +kernel), inLW (List.mem_of_getElem? (i := 10) (by decide +kernel)) (by decide +kernel), ⟨by decide +kernel, by decide +kernel, by decide +kernel⟩, by decide⟩
theorem imX11_tunnel : Cond.instanceMethod yX11_tunnel ∈ LW := inLW (List.mem_of_getElem? (i := 1651) (by decide +kernel)) (by decide +kernel)
theorem seX11_tunnel : Cond.selects yX11_tunnel.cls yX11_tunnel yX11_tunnel ∈ LW := inLW (List.mem_of_getElem? (i := 1652) (by decide +kernel)) (by decide +kernel)
theorem lbX11_way : LkB yX11_way cX11_way 3 (some .int) 2 := ⟨inLW (List.mem_append_right _ (List.mem_append_right _ (List.mem_append_right _ (List.mem_append_right _ (List.mem_append_right _ (List.mem_append_right _ (List.mem_append_left _ (List.mem_of_getElem? (i := 229) rfl)))))))) (by decide +kernel), inLW (List.mem_of_getElem? (i := 10) (by decide +kernel)) (by decide +kernel), ⟨by decide +kernel, by decide +kernel, by decide +kernel⟩, by decide⟩
theorem imX11_way : Cond.instanceMethod yX11_way ∈ LW := inLW (List.mem_of_getElem? (i := 1667) (by decide +kernel)) (by decide +kernel)
theorem seX11_way : Cond.selects yX11_way.cls yX11_way yX11_way ∈ LW := inLW (List.mem_of_getElem? (i := 1668) (by decide +kernel)) (by decide +kernel)
theorem lbX11_best : LkB yX11_best cX11_best 3 (some .int) 2 := ⟨inLW (List.mem_append_right _ (List.mem_append_right _ (List.mem_append_right _ (List.mem_append_right _ (List.mem_append_right _ (List.mem_append_right _ (List.mem_append_left _ (List.mem_of_getElem? (i := 233) rfl)))))))) (by decide +kernel), inLW (List.mem_of_getElem? (i := 10) (by decide +kernel)) (by decide +kernel), ⟨by decide +kernel, by decide +kernel, by decide +kernel⟩, by decide⟩
theorem imX11_best : Cond.instanceMethod yX11_best ∈ LW := inLW (List.mem_of_getElem? (i := 1671) (by decide +kernel)) (by decide +kernel)
theorem seX11_best : Cond.selects yX11_best.cls yX11_best yX11_best ∈ LW := inLW (List.mem_of_getElem? (i := 1672) (by decide +kernel)) (by decide +kernel)
theorem lbX11_pushes : LkB yX11_pushes cX11_pushes 4 (some .int) 2 := ⟨inLW (List.mem_append_right _ (List.mem_append_right _ (List.mem_append_right _ (List.mem_append_right _ (List.mem_append_right _ (List.mem_append_right _ (List.mem_append_left _ (List.mem_of_getElem? (i := 237) rfl)))))))) (by decide +kernel), inLW (List.mem_of_getElem? (i := 10) (by decide +kernel)) (by decide +kernel), ⟨by decide +kernel, by decide +kernel, by decide +kernel⟩, by decide⟩
theorem imX11_pushes : Cond.instanceMethod yX11_pushes ∈ LW := inLW (List.mem_of_getElem? (i := 1675) (by decide +kernel)) (by decide +kernel)
theorem seX11_pushes : Cond.selects yX11_pushes.cls yX11_pushes yX11_pushes ∈ LW := inLW (List.mem_of_getElem? (i := 1676) (by decide +kernel)) (by decide +kernel)
theorem lbX11_setUp : LkB yX11_setUp cX11_setUp 2 (some .int) 1 := ⟨inLW (List.mem_append_right _ (List.mem_append_right _ (List.mem_append_right _ (List.mem_append_right _ (List.mem_append_right _ (List.mem_append_right _ (List.mem_append_right _ (List.mem_of_getElem? (i := 1) rfl)))))))) (by decide +kernel), inLW (List.mem_of_getElem? (i := 10) (by decide +kernel)) (by decide +kernel), ⟨by decide +kernel, by decide +kernel, by decide +kernel⟩, by decide⟩
theorem imX11_setUp : Cond.instanceMethod yX11_setUp ∈ LW := inLW (List.mem_of_getElem? (i := 1679) (by decide +kernel)) (by decide +kernel)
theorem seX11_setUp : Cond.selects yX11_setUp.cls yX11_setUp yX11_setUp ∈ LW := inLW (List.mem_of_getElem? (i := 1680) (by decide +kernel)) (by decide +kernel)
theorem lbX11_tearDown : LkB yX11_tearDown cX11_tearDown 2 (some .boolean) 1 := ⟨inLW (List.mem_append_right _ (List.mem_append_right _ (List.mem_append_right _ (List.mem_append_right _ (List.mem_append_right _ (List.mem_append_right _ (List.mem_append_right _ (List.mem_of_getElem? (i := 13) rfl)))))))) (by decide +kernel), inLW (List.mem_of_getElem? (i := 10) (by decide +kernel)) (by decide +kernel), ⟨by decide +kernel, by decide +kernel, by decide +kernel⟩, by decide⟩
theorem imX11_tearDown : Cond.instanceMethod yX11_tearDown ∈ LW := inLW (List.mem_of_getElem? (i := 1691) (by decide +kernel)) (by decide +kernel)
theorem seX11_tearDown : Cond.selects yX11_tearDown.cls yX11_tearDown yX11_tearDown ∈ LW := inLW (List.mem_of_getElem? (i := 1692) (by decide +kernel)) (by decide +kernel)
theorem lbX11_isAsBest : LkB yX11_isAsBest cX11_isAsBest 4 (some .boolean) 1 := ⟨inLW (List.mem_append_right _ (List.mem_append_right _ (List.mem_append_right _ (List.mem_append_right _ (List.mem_append_right _ (List.mem_append_right _ (List.mem_append_right _ (List.mem_of_getElem? (i := 21) rfl)))))))) (by decide +kernel), inLW (List.mem_of_getElem? (i := 10) (by decide +kernel)) (by decide +kernel), ⟨by decide +kernel, by decide +kernel, by decide +kernel⟩, by decide⟩
theorem imX11_isAsBest : Cond.instanceMethod yX11_isAsBest ∈ LW := inLW (List.mem_of_getElem? (i := 1700) (by decide +kernel)) (by decide +kernel)
theorem seX11_isAsBest : Cond.selects yX11_isAsBest.cls yX11_isAsBest yX11_isAsBest ∈ LW := inLWs (List.mem_of_getElem? (i := 139) (by decide +kernel)) (by decide +kernel)
theorem lbX11_move : LkB yX11_move cX11_move 2 (some .int) 1 := ⟨inLW (List.mem_append_right _ (List.mem_append_right _ (List.mem_append_right _ (List.mem_append_right _ (List.mem_append_right _ (List.mem_append_right _ (List.mem_append_right _ (List.mem_of_getElem? (i := 17) rfl)))))))) (by decide +kernel), inLW (List.mem_of_getElem? (i := 10) (by decide +kernel)) (by decide +kernel), ⟨by decide +kernel, by decide +kernel, by decide +kernel⟩, by decide⟩
theorem imX11_move : Cond.instanceMethod yX11_move ∈ LW := inLW (List.mem_of_getElem? (i := 1695) (by decide +kernel)) (by decide +kernel)
theorem seX11_move : Cond.selects yX11_move.cls yX11_move yX11_move ∈ LW := inLW (List.mem_of_getElem? (i := 1696) (by decide +kernel)) (by decide +kernel)
theorem lbX11_resize : LkB yX11_resize cX11_resize 7 (some .int) 2 := ⟨inLW (List.mem_append_right _ (List.mem_append_right _ (List.mem_append_right _ (List.mem_append_right _ (List.mem_append_right _ (List.mem_append_right _ (List.mem_append_right _ (List.mem_of_getElem? (i := 25) rfl)))))))) (by decide +kernel), inLW (List.mem_of_getElem? (i := 10) (by decide +kernel)) (by decide +kernel), ⟨by decide +kernel, by decide +kernel, by decide +kernel⟩, by decide⟩
theorem imX11_resize : Cond.instanceMethod yX11_resize ∈ LW := inLW (List.mem_of_getElem? (i := 1703) (by decide +kernel)) (by decide +kernel)
theorem seX11_resize : Cond.selects yX11_resize.cls yX11_resize yX11_resize ∈ LW := inLW (List.mem_of_getElem? (i := 1704) (by decide +kernel)) (by decide +kernel)
theorem lbX11_fail : LkB yX11_fail cX11_fail 3 (some .int) 1 := ⟨inLW (List.mem_append_right _ (List.mem_append_right _ (List.mem_append_right _ (List.mem_append_right _ (List.mem_append_right _ (List.mem_append_right _ (List.mem_append_right _ (List.mem_of_getElem? (i := 29) rfl)))))))) (by decide +kernel), inLW (List.mem_of_getElem? (i := 10) (by decide +kernel)) (by decide +kernel), ⟨by decide +kernel, by decide +kernel, by decide +kernel⟩, by decide⟩
theorem imX11_fail : Cond.instanceMethod yX11_fail ∈ LW := inLW (List.mem_of_getElem? (i := 1707) (by decide +kernel)) (by decide +kernel)
theorem seX11_fail : Cond.selects yX11_fail.cls yX11_fail yX11_fail ∈ LW := inLW (List.mem_of_getElem? (i := 1708) (by decide +kernel)) (by decide +kernel)
theorem lbX11_mend : LkB yX11_mend cX11_mend 2 (some .boolean) 1 := ⟨inLW (List.mem_append_right _ (List.mem_append_right _ (List.mem_append_right _ (List.mem_append_right _ (List.mem_append_right _ (List.mem_append_right _ (List.mem_append_right _ (List.mem_of_getElem? (i := 33) rfl)))))))) (by decide +kernel), inLW (List.mem_of_getElem? (i := 10) (by decide +kernel)) (by decide +kernel), ⟨by decide +kernel, by decide +kernel, by decide +kernel⟩, by decide⟩
theorem imX11_mend : Cond.instanceMethod yX11_mend ∈ LW := inLW (List.mem_of_getElem? (i := 1711) (by decide +kernel)) (by decide +kernel)
theorem seX11_mend : Cond.selects yX11_mend.cls yX11_mend yX11_mend ∈ LW := inLW (List.mem_of_getElem? (i := 1712) (by decide +kernel)) (by decide +kernel)
theorem lbX11_isSooner : LkB yX11_isSooner cX11_isSooner 3 (some .boolean) 2 := ⟨inLW (List.mem_append_right _ (List.mem_append_right _ (List.mem_append_right _ (List.mem_append_right _ (List.mem_append_right _ (List.mem_append_right _ (List.mem_append_right _ (List.mem_of_getElem? (i := 45) rfl)))))))) (by decide +kernel), inLW (List.mem_of_getElem? (i := 10) (by decide +kernel)) (by decide +kernel), ⟨by decide +kernel, by decide +kernel, by decide +kernel⟩, by decide⟩
theorem imX11_isSooner : Cond.instanceMethod yX11_isSooner ∈ LW := inLW (List.mem_of_getElem? (i := 1724) (by decide +kernel)) (by decide +kernel)
theorem seX11_isSooner : Cond.selects yX11_isSooner.cls yX11_isSooner yX11_isSooner ∈ LW := inLWs (List.mem_of_getElem? (i := 141) (by decide +kernel)) (by decide +kernel)
theorem lbX11_laysPlan : LkB yX11_laysPlan cX11_laysPlan 4 none 0 := ⟨inLW (List.mem_append_right _ (List.mem_append_right _ (List.mem_append_right _ (List.mem_append_right _ (List.mem_append_right _ (List.mem_append_right _ (List.mem_append_right _ (List.mem_of_getElem? (i := 41) rfl)))))))) (by decide +kernel), inLW (List.mem_of_getElem? (i := 10) (by decide +kernel)) (by decide +kernel), ⟨by decide +kernel, by decide +kernel, by decide +kernel⟩, by decide⟩
theorem imX11_laysPlan : Cond.instanceMethod yX11_laysPlan ∈ LW := inLW (List.mem_of_getElem? (i := 1720) (by decide +kernel)) (by decide +kernel)
theorem seX11_laysPlan : Cond.selects yX11_laysPlan.cls yX11_laysPlan yX11_laysPlan ∈ LW := inLWs (List.mem_of_getElem? (i := 140) (by decide +kernel)) (by decide +kernel)
theorem lbX11_planned : LkB yX11_planned cX11_planned 3 (some .int) 2 := ⟨inLW (List.mem_append_right _ (List.mem_append_right _ (List.mem_append_right _ (List.mem_append_right _ (List.mem_append_right _ (List.mem_append_right _ (List.mem_append_right _ (List.mem_of_getElem? (i := 37) rfl)))))))) (by decide +kernel), inLW (List.mem_of_getElem? (i := 10) (by decide +kernel)) (by decide +kernel), ⟨by decide +kernel, by decide +kernel, by decide +kernel⟩, by decide⟩
theorem imX11_planned : Cond.instanceMethod yX11_planned ∈ LW := inLW (List.mem_of_getElem? (i := 1715) (by decide +kernel)) (by decide +kernel)
theorem seX11_planned : Cond.selects yX11_planned.cls yX11_planned yX11_planned ∈ LW := inLW (List.mem_of_getElem? (i := 1716) (by decide +kernel)) (by decide +kernel)
theorem lbX11_toMove : LkB yX11_toMove cX11_toMove 5 (some .int) 0 := ⟨inLW (List.mem_append_right _ (List.mem_append_right _ (List.mem_append_right _ (List.mem_append_right _ (List.mem_append_right _ (List.mem_append_right _ (List.mem_append_right _ (List.mem_of_getElem? (i := 53) rfl)))))))) (by decide +kernel), inLW (List.mem_of_getElem? (i := 10) (by decide +kernel)) (by decide +kernel), ⟨by decide +kernel, by decide +kernel, by decide +kernel⟩, by decide⟩
theorem imX11_toMove : Cond.instanceMethod yX11_toMove ∈ LW := inLW (List.mem_of_getElem? (i := 1732) (by decide +kernel)) (by decide +kernel)
theorem seX11_toMove : Cond.selects yX11_toMove.cls yX11_toMove yX11_toMove ∈ LW := inLWs (List.mem_of_getElem? (i := 142) (by decide +kernel)) (by decide +kernel)
theorem lbX11_isBooked : LkB yX11_isBooked cX11_isBooked 8 (some .boolean) 3 := ⟨inLW (List.mem_append_right _ (List.mem_append_right _ (List.mem_append_right _ (List.mem_append_right _ (List.mem_append_right _ (List.mem_append_right _ (List.mem_append_right _ (List.mem_of_getElem? (i := 61) rfl)))))))) (by decide +kernel), inLW (List.mem_of_getElem? (i := 10) (by decide +kernel)) (by decide +kernel), ⟨by decide +kernel, by decide +kernel, by decide +kernel⟩, by decide⟩
theorem imX11_isBooked : Cond.instanceMethod yX11_isBooked ∈ LW := inLW (List.mem_of_getElem? (i := 1740) (by decide +kernel)) (by decide +kernel)
theorem seX11_isBooked : Cond.selects yX11_isBooked.cls yX11_isBooked yX11_isBooked ∈ LW := inLWs (List.mem_of_getElem? (i := 144) (by decide +kernel)) (by decide +kernel)
theorem lbX11_laysCan : LkB yX11_laysCan cX11_laysCan 5 none 2 := ⟨inLW (List.mem_append_right _ (List.mem_append_right _ (List.mem_append_right _ (List.mem_append_right _ (List.mem_append_right _ (List.mem_append_right _ (List.mem_append_right _ (List.mem_of_getElem? (i := 57) rfl)))))))) (by decide +kernel), inLW (List.mem_of_getElem? (i := 10) (by decide +kernel)) (by decide +kernel), ⟨by decide +kernel, by decide +kernel, by decide +kernel⟩, by decide⟩
theorem imX11_laysCan : Cond.instanceMethod yX11_laysCan ∈ LW := inLW (List.mem_of_getElem? (i := 1736) (by decide +kernel)) (by decide +kernel)
theorem seX11_laysCan : Cond.selects yX11_laysCan.cls yX11_laysCan yX11_laysCan ∈ LW := inLWs (List.mem_of_getElem? (i := 143) (by decide +kernel)) (by decide +kernel)
theorem lbX11_order : LkB yX11_order cX11_order 6 (some .int) 1 := ⟨inLW (List.mem_append_right _ (List.mem_append_right _ (List.mem_append_right _ (List.mem_append_right _ (List.mem_append_right _ (List.mem_append_right _ (List.mem_append_right _ (List.mem_of_getElem? (i := 49) rfl)))))))) (by decide +kernel), inLW (List.mem_of_getElem? (i := 10) (by decide +kernel)) (by decide +kernel), ⟨by decide +kernel, by decide +kernel, by decide +kernel⟩, by decide⟩
theorem imX11_order : Cond.instanceMethod yX11_order ∈ LW := inLW (List.mem_of_getElem? (i := 1727) (by decide +kernel)) (by decide +kernel)
theorem seX11_order : Cond.selects yX11_order.cls yX11_order yX11_order ∈ LW := inLW (List.mem_of_getElem? (i := 1728) (by decide +kernel)) (by decide +kernel)
theorem lbX11_toBreak : LkB yX11_toBreak cX11_toBreak 4 (some .int) 0 := ⟨inLW (List.mem_append_right _ (List.mem_append_right _ (List.mem_append_right _ (List.mem_append_right _ (List.mem_append_right _ (List.mem_append_right _ (List.mem_append_right _ (List.mem_of_getElem? (i := 65) rfl)))))))) (by decide +kernel), inLW (List.mem_of_getElem? (i := 10) (by decide +kernel)) (by decide +kernel), ⟨by decide +kernel, by decide +kernel, by decide +kernel⟩, by decide⟩
theorem imX11_toBreak : Cond.instanceMethod yX11_toBreak ∈ LW := inLW (List.mem_of_getElem? (i := 1743) (by decide +kernel)) (by decide +kernel)
theorem seX11_toBreak : Cond.selects yX11_toBreak.cls yX11_toBreak yX11_toBreak ∈ LW := inLW (List.mem_of_getElem? (i := 1744) (by decide +kernel)) (by decide +kernel)
theorem lbX11_isFoundFor : LkB yX11_isFoundFor cX11_isFoundFor 5 (some .boolean) 4 := ⟨inLW (List.mem_append_right _ (List.mem_append_right _ (List.mem_append_right _ (List.mem_append_right _ (List.mem_append_right _ (List.mem_append_right _ (List.mem_append_right _ (List.mem_of_getElem? (i := 77) rfl)))))))) (by decide +kernel), inLW (List.mem_of_getElem? (i := 10) (by decide +kernel)) (by decide +kernel), ⟨by decide +kernel, by decide +kernel, by decide +kernel⟩, by decide⟩
theorem imX11_isFoundFor : Cond.instanceMethod yX11_isFoundFor ∈ LW := inLW (List.mem_of_getElem? (i := 1756) (by decide +kernel)) (by decide +kernel)
theorem seX11_isFoundFor : Cond.selects yX11_isFoundFor.cls yX11_isFoundFor yX11_isFoundFor ∈ LW := inLWs (List.mem_of_getElem? (i := 146) (by decide +kernel)) (by decide +kernel)
theorem lbX11_widest : LkB yX11_widest cX11_widest 5 (some .int) 3 := ⟨inLW (List.mem_append_right _ (List.mem_append_right _ (List.mem_append_right _ (List.mem_append_right _ (List.mem_append_right _ (List.mem_append_right _ (List.mem_append_right _ (List.mem_of_getElem? (i := 69) rfl)))))))) (by decide +kernel), inLW (List.mem_of_getElem? (i := 10) (by decide +kernel)) (by decide +kernel), ⟨by decide +kernel, by decide +kernel, by decide +kernel⟩, by decide⟩
theorem imX11_widest : Cond.instanceMethod yX11_widest ∈ LW := inLW (List.mem_of_getElem? (i := 1747) (by decide +kernel)) (by decide +kernel)
theorem seX11_widest : Cond.selects yX11_widest.cls yX11_widest yX11_widest ∈ LW := inLW (List.mem_of_getElem? (i := 1748) (by decide +kernel)) (by decide +kernel)
theorem lbX11_apart : LkB yX11_apart cX11_apart 6 (some .int) 1 := ⟨inLW (List.mem_append_right _ (List.mem_append_right _ (List.mem_append_right _ (List.mem_append_right _ (List.mem_append_right _ (List.mem_append_right _ (List.mem_append_right _ (List.mem_of_getElem? (i := 81) rfl)))))))) (by decide +kernel), inLW (List.mem_of_getElem? (i := 10) (by decide +kernel)) (by decide +kernel), ⟨by decide +kernel, by decide +kernel, by decide +kernel⟩, by decide⟩
theorem imX11_apart : Cond.instanceMethod yX11_apart ∈ LW := inLW (List.mem_of_getElem? (i := 1759) (by decide +kernel)) (by decide +kernel)
theorem seX11_apart : Cond.selects yX11_apart.cls yX11_apart yX11_apart ∈ LW := inLW (List.mem_of_getElem? (i := 1760) (by decide +kernel)) (by decide +kernel)
theorem lbX11_doesReach : LkB yX11_doesReach cX11_doesReach 7 (some .boolean) 3 := ⟨inLW (List.mem_append_right _ (List.mem_append_right _ (List.mem_append_right _ (List.mem_append_right _ (List.mem_append_right _ (List.mem_append_right _ (List.mem_append_right _ (List.mem_of_getElem? (i := 89) rfl)))))))) (by decide +kernel), inLW (List.mem_of_getElem? (i := 10) (by decide +kernel)) (by decide +kernel), ⟨by decide +kernel, by decide +kernel, by decide +kernel⟩, by decide⟩
theorem imX11_doesReach : Cond.instanceMethod yX11_doesReach ∈ LW := inLW (List.mem_of_getElem? (i := 1768) (by decide +kernel)) (by decide +kernel)
theorem seX11_doesReach : Cond.selects yX11_doesReach.cls yX11_doesReach yX11_doesReach ∈ LW := inLWs (List.mem_of_getElem? (i := 147) (by decide +kernel)) (by decide +kernel)
theorem lbX11_cuts : LkB yX11_cuts cX11_cuts 5 (some .int) 2 := ⟨inLW (List.mem_append_right _ (List.mem_append_right _ (List.mem_append_right _ (List.mem_append_right _ (List.mem_append_right _ (List.mem_append_right _ (List.mem_append_right _ (List.mem_of_getElem? (i := 85) rfl)))))))) (by decide +kernel), inLW (List.mem_of_getElem? (i := 10) (by decide +kernel)) (by decide +kernel), ⟨by decide +kernel, by decide +kernel, by decide +kernel⟩, by decide⟩
theorem imX11_cuts : Cond.instanceMethod yX11_cuts ∈ LW := inLW (List.mem_of_getElem? (i := 1763) (by decide +kernel)) (by decide +kernel)
theorem seX11_cuts : Cond.selects yX11_cuts.cls yX11_cuts yX11_cuts ∈ LW := inLW (List.mem_of_getElem? (i := 1764) (by decide +kernel)) (by decide +kernel)
theorem lbX11_isAugmented : LkB yX11_isAugmented cX11_isAugmented 10 (some .boolean) 2 := ⟨inLW (List.mem_append_right _ (List.mem_append_right _ (List.mem_append_right _ (List.mem_append_right _ (List.mem_append_right _ (List.mem_append_right _ (List.mem_append_right _ (List.mem_of_getElem? (i := 97) rfl)))))))) (by decide +kernel), inLW (List.mem_of_getElem? (i := 10) (by decide +kernel)) (by decide +kernel), ⟨by decide +kernel, by decide +kernel, by decide +kernel⟩, by decide⟩
theorem imX11_isAugmented : Cond.instanceMethod yX11_isAugmented ∈ LW := inLW (List.mem_of_getElem? (i := 1776) (by decide +kernel)) (by decide +kernel)
theorem seX11_isAugmented : Cond.selects yX11_isAugmented.cls yX11_isAugmented yX11_isAugmented ∈ LW := inLWs (List.mem_of_getElem? (i := 148) (by decide +kernel)) (by decide +kernel)
theorem lbX11_flow : LkB yX11_flow cX11_flow 8 (some .int) 3 := ⟨inLW (List.mem_append_right _ (List.mem_append_right _ (List.mem_append_right _ (List.mem_append_right _ (List.mem_append_right _ (List.mem_append_right _ (List.mem_append_right _ (List.mem_of_getElem? (i := 93) rfl)))))))) (by decide +kernel), inLW (List.mem_of_getElem? (i := 10) (by decide +kernel)) (by decide +kernel), ⟨by decide +kernel, by decide +kernel, by decide +kernel⟩, by decide⟩
theorem imX11_flow : Cond.instanceMethod yX11_flow ∈ LW := inLW (List.mem_of_getElem? (i := 1771) (by decide +kernel)) (by decide +kernel)
theorem seX11_flow : Cond.selects yX11_flow.cls yX11_flow yX11_flow ∈ LW := inLW (List.mem_of_getElem? (i := 1772) (by decide +kernel)) (by decide +kernel)
theorem lbX11_distance : LkB yX11_distance cX11_distance 5 (some .int) 2 := ⟨inLW (List.mem_append_right _ (List.mem_append_right _ (List.mem_append_right _ (List.mem_append_right _ (List.mem_append_right _ (List.mem_append_right _ (List.mem_append_right _ (List.mem_of_getElem? (i := 101) rfl)))))))) (by decide +kernel), inLW (List.mem_of_getElem? (i := 10) (by decide +kernel)) (by decide +kernel), ⟨by decide +kernel, by decide +kernel, by decide +kernel⟩, by decide⟩
theorem imX11_distance : Cond.instanceMethod yX11_distance ∈ LW := inLW (List.mem_of_getElem? (i := 1779) (by decide +kernel)) (by decide +kernel)
theorem seX11_distance : Cond.selects yX11_distance.cls yX11_distance yX11_distance ∈ LW := inLW (List.mem_of_getElem? (i := 1780) (by decide +kernel)) (by decide +kernel)
theorem lbX11_room : LkB yX11_room cX11_room 3 (some .int) 1 := ⟨inLW (List.mem_append_right _ (List.mem_append_right _ (List.mem_append_right _ (List.mem_append_right _ (List.mem_append_right _ (List.mem_append_right _ (List.mem_append_right _ (List.mem_of_getElem? (i := 105) rfl)))))))) (by decide +kernel), inLW (List.mem_of_getElem? (i := 10) (by decide +kernel)) (by decide +kernel), ⟨by decide +kernel, by decide +kernel, by decide +kernel⟩, by decide⟩
theorem imX11_room : Cond.instanceMethod yX11_room ∈ LW := inLW (List.mem_of_getElem? (i := 1783) (by decide +kernel)) (by decide +kernel)
theorem seX11_room : Cond.selects yX11_room.cls yX11_room yX11_room ∈ LW := inLW (List.mem_of_getElem? (i := 1784) (by decide +kernel)) (by decide +kernel)
theorem lbX11_saved : LkB yX11_saved cX11_saved 4 (some .int) 1 := ⟨inLW (List.mem_append_right _ (List.mem_append_right _ (List.mem_append_right _ (List.mem_append_right _ (List.mem_append_right _ (List.mem_append_right _ (List.mem_append_right _ (List.mem_of_getElem? (i := 109) rfl)))))))) (by decide +kernel), inLW (List.mem_of_getElem? (i := 10) (by decide +kernel)) (by decide +kernel), ⟨by decide +kernel, by decide +kernel, by decide +kernel⟩, by decide⟩
theorem imX11_saved : Cond.instanceMethod yX11_saved ∈ LW := inLW (List.mem_of_getElem? (i := 1787) (by decide +kernel)) (by decide +kernel)
theorem seX11_saved : Cond.selects yX11_saved.cls yX11_saved yX11_saved ∈ LW := inLW (List.mem_of_getElem? (i := 1788) (by decide +kernel)) (by decide +kernel)
theorem lbX11_see : LkB yX11_see cX11_see 6 (some .int) 5 := ⟨inLW (List.mem_append_right _ (List.mem_append_right _ (List.mem_append_right _ (List.mem_append_right _ (List.mem_append_right _ (List.mem_append_right _ (List.mem_append_right _ (List.mem_of_getElem? (i := 113) rfl)))))))) (by decide +kernel), inLW (List.mem_of_getElem? (i := 10) (by decide +kernel)) (by decide +kernel), ⟨by decide +kernel, by decide +kernel, by decide +kernel⟩, by decide⟩
theorem imX11_see : Cond.instanceMethod yX11_see ∈ LW := inLW (List.mem_of_getElem? (i := 1791) (by decide +kernel)) (by decide +kernel)
theorem seX11_see : Cond.selects yX11_see.cls yX11_see yX11_see ∈ LW := inLW (List.mem_of_getElem? (i := 1792) (by decide +kernel)) (by decide +kernel)
theorem lbX11_forget : LkB yX11_forget cX11_forget 1 none 0 := ⟨inLW (List.mem_append_right _ (List.mem_append_right _ (List.mem_append_right _ (List.mem_append_right _ (List.mem_append_right _ (List.mem_append_right _ (List.mem_append_right _ (List.mem_of_getElem? (i := 117) rfl)))))))) (by decide +kernel), inLW (List.mem_of_getElem? (i := 10) (by decide +kernel)) (by decide +kernel), ⟨by decide +kernel, by decide +kernel, by decide +kernel⟩, by decide⟩
theorem imX11_forget : Cond.instanceMethod yX11_forget ∈ LW := inLW (List.mem_of_getElem? (i := 1795) (by decide +kernel)) (by decide +kernel)
theorem seX11_forget : Cond.selects yX11_forget.cls yX11_forget yX11_forget ∈ LW := inLW (List.mem_of_getElem? (i := 1796) (by decide +kernel)) (by decide +kernel)
theorem lbX11_isSeen : LkB yX11_isSeen cX11_isSeen 2 (some .boolean) 0 := ⟨inLW (List.mem_append_right _ (List.mem_append_right _ (List.mem_append_right _ (List.mem_append_right _ (List.mem_append_right _ (List.mem_append_right _ (List.mem_append_right _ (List.mem_of_getElem? (i := 125) rfl)))))))) (by decide +kernel), inLW (List.mem_of_getElem? (i := 10) (by decide +kernel)) (by decide +kernel), ⟨by decide +kernel, by decide +kernel, by decide +kernel⟩, by decide⟩
theorem imX11_isSeen : Cond.instanceMethod yX11_isSeen ∈ LW := inLW (List.mem_of_getElem? (i := 1804) (by decide +kernel)) (by decide +kernel)
theorem seX11_isSeen : Cond.selects yX11_isSeen.cls yX11_isSeen yX11_isSeen ∈ LW := inLWs (List.mem_of_getElem? (i := 149) (by decide +kernel)) (by decide +kernel)
theorem lbX11_other : LkB yX11_other cX11_other 8 (some .int) 1 := ⟨inLW (List.mem_append_right _ (List.mem_append_right _ (List.mem_append_right _ (List.mem_append_right _ (List.mem_append_right _ (List.mem_append_right _ (List.mem_append_right _ (List.mem_of_getElem? (i := 121) rfl)))))))) (by decide +kernel), inLW (List.mem_of_getElem? (i := 10) (by decide +kernel)) (by decide +kernel), ⟨by decide +kernel, by decide +kernel, by decide +kernel⟩, by decide⟩
theorem imX11_other : Cond.instanceMethod yX11_other ∈ LW := inLW (List.mem_of_getElem? (i := 1799) (by decide +kernel)) (by decide +kernel)
theorem seX11_other : Cond.selects yX11_other.cls yX11_other yX11_other ∈ LW := inLW (List.mem_of_getElem? (i := 1800) (by decide +kernel)) (by decide +kernel)
theorem lbX11_luck : LkB yX11_luck cX11_luck 8 (some .int) 2 := ⟨inLW (List.mem_append_right _ (List.mem_append_right _ (List.mem_append_right _ (List.mem_append_right _ (List.mem_append_right _ (List.mem_append_right _ (List.mem_append_right _ (List.mem_of_getElem? (i := 129) rfl)))))))) (by decide +kernel), inLW (List.mem_of_getElem? (i := 10) (by decide +kernel)) (by decide +kernel), ⟨by decide +kernel, by decide +kernel, by decide +kernel⟩, by decide⟩
theorem imX11_luck : Cond.instanceMethod yX11_luck ∈ LW := inLW (List.mem_of_getElem? (i := 1807) (by decide +kernel)) (by decide +kernel)
theorem seX11_luck : Cond.selects yX11_luck.cls yX11_luck yX11_luck ∈ LW := inLW (List.mem_of_getElem? (i := 1808) (by decide +kernel)) (by decide +kernel)
theorem lbX11_draw : LkB yX11_draw cX11_draw 2 (some .int) 1 := ⟨inLW (List.mem_append_right _ (List.mem_append_right _ (List.mem_append_right _ (List.mem_append_right _ (List.mem_append_right _ (List.mem_append_right _ (List.mem_append_right _ (List.mem_of_getElem? (i := 141) rfl)))))))) (by decide +kernel), inLW (List.mem_of_getElem? (i := 10) (by decide +kernel)) (by decide +kernel), ⟨by decide +kernel, by decide +kernel, by decide +kernel⟩, by decide⟩
theorem imX11_draw : Cond.instanceMethod yX11_draw ∈ LW := inLW (List.mem_of_getElem? (i := 1820) (by decide +kernel)) (by decide +kernel)
theorem seX11_draw : Cond.selects yX11_draw.cls yX11_draw yX11_draw ∈ LW := inLWs (List.mem_of_getElem? (i := 151) (by decide +kernel)) (by decide +kernel)
theorem lbX11_happens : LkB yX11_happens cX11_happens 3 none 0 := ⟨inLW (List.mem_append_right _ (List.mem_append_right _ (List.mem_append_right _ (List.mem_append_right _ (List.mem_append_right _ (List.mem_append_right _ (List.mem_append_right _ (List.mem_of_getElem? (i := 137) rfl)))))))) (by decide +kernel), inLW (List.mem_of_getElem? (i := 10) (by decide +kernel)) (by decide +kernel), ⟨by decide +kernel, by decide +kernel, by decide +kernel⟩, by decide⟩
theorem imX11_happens : Cond.instanceMethod yX11_happens ∈ LW := inLW (List.mem_of_getElem? (i := 1816) (by decide +kernel)) (by decide +kernel)
theorem seX11_happens : Cond.selects yX11_happens.cls yX11_happens yX11_happens ∈ LW := inLWs (List.mem_of_getElem? (i := 150) (by decide +kernel)) (by decide +kernel)
theorem lbX11_years : LkB yX11_years cX11_years 5 (some .int) 3 := ⟨inLW (List.mem_append_right _ (List.mem_append_right _ (List.mem_append_right _ (List.mem_append_right _ (List.mem_append_right _ (List.mem_append_right _ (List.mem_append_right _ (List.mem_of_getElem? (i := 133) rfl)))))))) (by decide +kernel), inLW (List.mem_of_getElem? (i := 10) (by decide +kernel)) (by decide +kernel), ⟨by decide +kernel, by decide +kernel, by decide +kernel⟩, by decide⟩
theorem imX11_years : Cond.instanceMethod yX11_years ∈ LW := inLW (List.mem_of_getElem? (i := 1811) (by decide +kernel)) (by decide +kernel)
theorem seX11_years : Cond.selects yX11_years.cls yX11_years yX11_years ∈ LW := inLW (List.mem_of_getElem? (i := 1812) (by decide +kernel)) (by decide +kernel)
theorem lbX11_image : LkB yX11_image cX11_image 2 none 0 := ⟨inLW (List.mem_append_right _ (List.mem_append_right _ (List.mem_append_right _ (List.mem_append_right _ (List.mem_append_right _ (List.mem_append_right _ (List.mem_append_right _ (List.mem_of_getElem? (i := 146) rfl)))))))) (by decide +kernel), inLW (List.mem_of_getElem? (i := 10) (by decide +kernel)) (by decide +kernel), ⟨by decide +kernel, by decide +kernel, by decide +kernel⟩, by decide⟩
theorem imX11_image : Cond.instanceMethod yX11_image ∈ LW := inLW (List.mem_of_getElem? (i := 1824) (by decide +kernel)) (by decide +kernel)
theorem seX11_image : Cond.selects yX11_image.cls yX11_image yX11_image ∈ LW := inLW (List.mem_of_getElem? (i := 1825) (by decide +kernel)) (by decide +kernel)
theorem lbX11_restore : LkB yX11_restore cX11_restore 2 (some .boolean) 0 := ⟨inLW (List.mem_append_right _ (List.mem_append_right _ (List.mem_append_right _ (List.mem_append_right _ (List.mem_append_right _ (List.mem_append_right _ (List.mem_append_right _ (List.mem_of_getElem? (i := 150) rfl)))))))) (by decide +kernel), inLW (List.mem_of_getElem? (i := 10) (by decide +kernel)) (by decide +kernel), ⟨by decide +kernel, by decide +kernel, by decide +kernel⟩, by decide⟩
theorem imX11_restore : Cond.instanceMethod yX11_restore ∈ LW := inLW (List.mem_of_getElem? (i := 1828) (by decide +kernel)) (by decide +kernel)
theorem seX11_restore : Cond.selects yX11_restore.cls yX11_restore yX11_restore ∈ LW := inLW (List.mem_of_getElem? (i := 1829) (by decide +kernel)) (by decide +kernel)
theorem lbJ6_bitCount_0f7a4 : LkB yJ6_bitCount_0f7a4 cJ6_bitCount_0f7a4 1 (some .int) 1 := ⟨inLW (List.mem_append_right _ (List.mem_append_right _ (List.mem_append_left _ (List.mem_of_getElem? (i := 42) rfl)))) (by decide +kernel), inLW (List.mem_of_getElem? (i := 21) (by decide +kernel)) (by decide +kernel), ⟨by decide +kernel, by decide +kernel, by decide +kernel⟩, by decide⟩
theorem smJ6_bitCount_0f7a4 : Cond.static yJ6_bitCount_0f7a4 ∈ LW := inLW (List.mem_of_getElem? (i := 521) (by decide +kernel)) (by decide +kernel)
theorem lbJ9_max_7cf53 : LkB yJ9_max_7cf53 cJ9_max_7cf53 2 (some .int) 2 := ⟨inLW (List.mem_append_right _ (List.mem_append_right _ (List.mem_append_left _ (List.mem_of_getElem? (i := 11) rfl)))) (by decide +kernel), inLW (List.mem_of_getElem? (i := 15) (by decide +kernel)) (by decide +kernel), ⟨by decide +kernel, by decide +kernel, by decide +kernel⟩, by decide⟩
theorem smJ9_max_7cf53 : Cond.static yJ9_max_7cf53 ∈ LW := inLW (List.mem_of_getElem? (i := 490) (by decide +kernel)) (by decide +kernel)
theorem lbJ9_min_7cf53 : LkB yJ9_min_7cf53 cJ9_min_7cf53 2 (some .int) 2 := ⟨inLW (List.mem_append_right _ (List.mem_append_right _ (List.mem_append_left _ (List.mem_of_getElem? (i := 8) rfl)))) (by decide +kernel), inLW (List.mem_of_getElem? (i := 15) (by decide +kernel)) (by decide +kernel), ⟨by decide +kernel, by decide +kernel, by decide +kernel⟩, by decide⟩
theorem smJ9_min_7cf53 : Cond.static yJ9_min_7cf53 ∈ LW := inLW (List.mem_of_getElem? (i := 487) (by decide +kernel)) (by decide +kernel)
theorem lbJ0_length_8abf5 : LkB yJ0_length_8abf5 cJ0_length_8abf5 1 (some .int) 0 := ⟨inLW (List.mem_append_right _ (List.mem_append_right _ (List.mem_append_left _ (List.mem_of_getElem? (i := 190) rfl)))) (by decide +kernel), inLW (List.mem_of_getElem? (i := 16) (by decide +kernel)) (by decide +kernel), ⟨by decide +kernel, by decide +kernel, by decide +kernel⟩, by decide⟩
theorem imJ0_length_8abf5 : Cond.instanceMethod yJ0_length_8abf5 ∈ LW := inLW (List.mem_of_getElem? (i := 668) (by decide +kernel)) (by decide +kernel)
theorem seJ0_length_8abf5 : Cond.selects yJ0_length_8abf5.cls yJ0_length_8abf5 yJ0_length_8abf5 ∈ LW := inLW (List.mem_of_getElem? (i := 669) (by decide +kernel)) (by decide +kernel)
theorem lbJ0_charAt_5068e : LkB yJ0_charAt_5068e cJ0_charAt_5068e 2 (some .char) 1 := ⟨inLW (List.mem_append_right _ (List.mem_append_right _ (List.mem_append_left _ (List.mem_of_getElem? (i := 200) rfl)))) (by decide +kernel), inLW (List.mem_of_getElem? (i := 16) (by decide +kernel)) (by decide +kernel), ⟨by decide +kernel, by decide +kernel, by decide +kernel⟩, by decide⟩
theorem imJ0_charAt_5068e : Cond.instanceMethod yJ0_charAt_5068e ∈ LW := inLW (List.mem_of_getElem? (i := 678) (by decide +kernel)) (by decide +kernel)
theorem seJ0_charAt_5068e : Cond.selects yJ0_charAt_5068e.cls yJ0_charAt_5068e yJ0_charAt_5068e ∈ LW := inLW (List.mem_of_getElem? (i := 679) (by decide +kernel)) (by decide +kernel)
theorem lbJ0_coder_7d493 : LkB yJ0_coder_7d493 cJ0_coder_7d493 1 (some .byte) 0 := ⟨inLW (List.mem_append_right _ (List.mem_append_right _ (List.mem_append_left _ (List.mem_of_getElem? (i := 194) rfl)))) (by decide +kernel), inLW (List.mem_of_getElem? (i := 16) (by decide +kernel)) (by decide +kernel), ⟨by decide +kernel, by decide +kernel, by decide +kernel⟩, by decide⟩
theorem imJ0_coder_7d493 : Cond.instanceMethod yJ0_coder_7d493 ∈ LW := inLW (List.mem_of_getElem? (i := 672) (by decide +kernel)) (by decide +kernel)
theorem seJ0_coder_7d493 : Cond.selects yJ0_coder_7d493.cls yJ0_coder_7d493 yJ0_coder_7d493 ∈ LW := inLW (List.mem_of_getElem? (i := 673) (by decide +kernel)) (by decide +kernel)
theorem lbJ0_isLatin1_aae02 : LkB yJ0_isLatin1_aae02 cJ0_isLatin1_aae02 1 (some .boolean) 0 := ⟨inLW (List.mem_append_right _ (List.mem_append_right _ (List.mem_append_left _ (List.mem_of_getElem? (i := 204) rfl)))) (by decide +kernel), inLW (List.mem_of_getElem? (i := 16) (by decide +kernel)) (by decide +kernel), ⟨by decide +kernel, by decide +kernel, by decide +kernel⟩, by decide⟩
theorem imJ0_isLatin1_aae02 : Cond.instanceMethod yJ0_isLatin1_aae02 ∈ LW := inLW (List.mem_of_getElem? (i := 682) (by decide +kernel)) (by decide +kernel)
theorem seJ0_isLatin1_aae02 : Cond.selects yJ0_isLatin1_aae02.cls yJ0_isLatin1_aae02 yJ0_isLatin1_aae02 ∈ LW := inLW (List.mem_of_getElem? (i := 683) (by decide +kernel)) (by decide +kernel)
theorem lbJ0_checkIndex_df160 : LkB yJ0_checkIndex_df160 cJ0_checkIndex_df160 2 none 2 := ⟨inLW (List.mem_append_right _ (List.mem_append_right _ (List.mem_append_left _ (List.mem_of_getElem? (i := 210) rfl)))) (by decide +kernel), inLW (List.mem_of_getElem? (i := 16) (by decide +kernel)) (by decide +kernel), ⟨by decide +kernel, by decide +kernel, by decide +kernel⟩, by decide⟩
theorem smJ0_checkIndex_df160 : Cond.static yJ0_checkIndex_df160 ∈ LW := inLW (List.mem_of_getElem? (i := 689) (by decide +kernel)) (by decide +kernel)
theorem lbJ1_charAt_3b067 : LkB yJ1_charAt_3b067 cJ1_charAt_3b067 2 (some .char) 2 := ⟨inLW (List.mem_append_right _ (List.mem_append_right _ (List.mem_append_left _ (List.mem_of_getElem? (i := 207) rfl)))) (by decide +kernel), inLW (List.mem_of_getElem? (i := 17) (by decide +kernel)) (by decide +kernel), ⟨by decide +kernel, by decide +kernel, by decide +kernel⟩, by decide⟩
theorem smJ1_charAt_3b067 : Cond.static yJ1_charAt_3b067 ∈ LW := inLW (List.mem_of_getElem? (i := 686) (by decide +kernel)) (by decide +kernel)
theorem lbJ2_getChar_3b067 : LkB yJ2_getChar_3b067 cJ2_getChar_3b067 2 (some .char) 2 := ⟨inLW (List.mem_append_right _ (List.mem_append_right _ (List.mem_append_left _ (List.mem_of_getElem? (i := 228) rfl)))) (by decide +kernel), inLW (List.mem_of_getElem? (i := 19) (by decide +kernel)) (by decide +kernel), ⟨by decide +kernel, by decide +kernel, by decide +kernel⟩, by decide⟩
theorem smJ2_getChar_3b067 : Cond.static yJ2_getChar_3b067 ∈ LW := inLW (List.mem_of_getElem? (i := 707) (by decide +kernel)) (by decide +kernel)
theorem lbJ2_length_9d52b : LkB yJ2_length_9d52b cJ2_length_9d52b 1 (some .int) 1 := ⟨inLW (List.mem_append_right _ (List.mem_append_right _ (List.mem_append_left _ (List.mem_of_getElem? (i := 224) rfl)))) (by decide +kernel), inLW (List.mem_of_getElem? (i := 19) (by decide +kernel)) (by decide +kernel), ⟨by decide +kernel, by decide +kernel, by decide +kernel⟩, by decide⟩
theorem smJ2_length_9d52b : Cond.static yJ2_length_9d52b ∈ LW := inLW (List.mem_of_getElem? (i := 703) (by decide +kernel)) (by decide +kernel)
theorem lbJ2_charAt_3b067 : LkB yJ2_charAt_3b067 cJ2_charAt_3b067 2 (some .char) 2 := ⟨inLW (List.mem_append_right _ (List.mem_append_right _ (List.mem_append_left _ (List.mem_of_getElem? (i := 218) rfl)))) (by decide +kernel), inLW (List.mem_of_getElem? (i := 19) (by decide +kernel)) (by decide +kernel), ⟨by decide +kernel, by decide +kernel, by decide +kernel⟩, by decide⟩
theorem smJ2_charAt_3b067 : Cond.static yJ2_charAt_3b067 ∈ LW := inLW (List.mem_of_getElem? (i := 697) (by decide +kernel)) (by decide +kernel)
theorem lbJ2_checkIndex_2214a : LkB yJ2_checkIndex_2214a cJ2_checkIndex_2214a 2 none 2 := ⟨inLW (List.mem_append_right _ (List.mem_append_right _ (List.mem_append_left _ (List.mem_of_getElem? (i := 221) rfl)))) (by decide +kernel), inLW (List.mem_of_getElem? (i := 19) (by decide +kernel)) (by decide +kernel), ⟨by decide +kernel, by decide +kernel, by decide +kernel⟩, by decide⟩
theorem smJ2_checkIndex_2214a : Cond.static yJ2_checkIndex_2214a ∈ LW := inLW (List.mem_of_getElem? (i := 700) (by decide +kernel)) (by decide +kernel)
theorem lbJ3_checkIndex_8e157 : LkB yJ3_checkIndex_8e157 cJ3_checkIndex_8e157 3 (some .int) 3 := ⟨inLW (List.mem_append_right _ (List.mem_append_right _ (List.mem_append_left _ (List.mem_of_getElem? (i := 215) rfl)))) (by decide +kernel), inLW (List.mem_of_getElem? (i := 18) (by decide +kernel)) (by decide +kernel), ⟨by decide +kernel, by decide +kernel, by decide +kernel⟩, by decide⟩
theorem smJ3_checkIndex_8e157 : Cond.static yJ3_checkIndex_8e157 ∈ LW := inLW (List.mem_of_getElem? (i := 694) (by decide +kernel)) (by decide +kernel)
theorem smL_network : Cond.static yL_network ∈ LW := inLW (List.mem_of_getElem? (i := 564) (by decide +kernel)) (by decide +kernel)
theorem smL_count : Cond.static yL_count ∈ LW := inLW (List.mem_of_getElem? (i := 759) (by decide +kernel)) (by decide +kernel)
theorem smL_link : Cond.static yL_link ∈ LW := inLW (List.mem_of_getElem? (i := 859) (by decide +kernel)) (by decide +kernel)
theorem smL_pool : Cond.static yL_pool ∈ LW := inLW (List.mem_of_getElem? (i := 873) (by decide +kernel)) (by decide +kernel)
theorem smL_tunnel : Cond.static yL_tunnel ∈ LW := inLW (List.mem_of_getElem? (i := 888) (by decide +kernel)) (by decide +kernel)
theorem smL_way : Cond.static yL_way ∈ LW := inLW (List.mem_of_getElem? (i := 907) (by decide +kernel)) (by decide +kernel)
theorem smL_best : Cond.static yL_best ∈ LW := inLW (List.mem_of_getElem? (i := 927) (by decide +kernel)) (by decide +kernel)
theorem smL_pushes : Cond.static yL_pushes ∈ LW := inLW (List.mem_of_getElem? (i := 938) (by decide +kernel)) (by decide +kernel)
theorem smL_setUp : Cond.static yL_setUp ∈ LW := inLW (List.mem_of_getElem? (i := 948) (by decide +kernel)) (by decide +kernel)
theorem smL_tearDown : Cond.static yL_tearDown ∈ LW := inLW (List.mem_of_getElem? (i := 963) (by decide +kernel)) (by decide +kernel)
theorem smL_move : Cond.static yL_move ∈ LW := inLW (List.mem_of_getElem? (i := 970) (by decide +kernel)) (by decide +kernel)
theorem smL_resize : Cond.static yL_resize ∈ LW := inLW (List.mem_of_getElem? (i := 977) (by decide +kernel)) (by decide +kernel)
theorem smL_fail : Cond.static yL_fail ∈ LW := inLW (List.mem_of_getElem? (i := 988) (by decide +kernel)) (by decide +kernel)
theorem smL_mend : Cond.static yL_mend ∈ LW := inLW (List.mem_of_getElem? (i := 995) (by decide +kernel)) (by decide +kernel)
theorem smL_planned : Cond.static yL_planned ∈ LW := inLW (List.mem_of_getElem? (i := 1002) (by decide +kernel)) (by decide +kernel)
theorem smL_order : Cond.static yL_order ∈ LW := inLW (List.mem_of_getElem? (i := 1013) (by decide +kernel)) (by decide +kernel)
theorem smL_widest : Cond.static yL_widest ∈ LW := inLW (List.mem_of_getElem? (i := 1024) (by decide +kernel)) (by decide +kernel)
theorem smL_apart : Cond.static yL_apart ∈ LW := inLW (List.mem_of_getElem? (i := 1045) (by decide +kernel)) (by decide +kernel)
theorem smL_cuts : Cond.static yL_cuts ∈ LW := inLW (List.mem_of_getElem? (i := 1090) (by decide +kernel)) (by decide +kernel)
theorem smL_flow : Cond.static yL_flow ∈ LW := inLW (List.mem_of_getElem? (i := 1101) (by decide +kernel)) (by decide +kernel)
theorem smL_distance : Cond.static yL_distance ∈ LW := inLW (List.mem_of_getElem? (i := 1120) (by decide +kernel)) (by decide +kernel)
theorem smL_room : Cond.static yL_room ∈ LW := inLW (List.mem_of_getElem? (i := 1129) (by decide +kernel)) (by decide +kernel)
theorem smL_saved : Cond.static yL_saved ∈ LW := inLW (List.mem_of_getElem? (i := 1136) (by decide +kernel)) (by decide +kernel)
theorem smL_see : Cond.static yL_see ∈ LW := inLW (List.mem_of_getElem? (i := 1148) (by decide +kernel)) (by decide +kernel)
theorem smL_other : Cond.static yL_other ∈ LW := inLW (List.mem_of_getElem? (i := 1159) (by decide +kernel)) (by decide +kernel)
theorem smL_luck : Cond.static yL_luck ∈ LW := inLW (List.mem_of_getElem? (i := 1190) (by decide +kernel)) (by decide +kernel)
theorem smL_years : Cond.static yL_years ∈ LW := inLW (List.mem_of_getElem? (i := 1201) (by decide +kernel)) (by decide +kernel)
