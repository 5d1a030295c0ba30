/-! constructors: words of the tables by their places -/
set_option maxRecDepth 20000 in
theorem ac_int : Cond.arrayClass .int ∈ WSg := wsg_t (i := 86) (by decide +kernel) (by decide +kernel)
set_option maxRecDepth 20000 in
theorem ac_boolean : Cond.arrayClass .boolean ∈ WSg := wsg_t (i := 1265) (by decide +kernel) (by decide +kernel)
set_option maxRecDepth 20000 in
theorem ac_long : Cond.arrayClass .long ∈ WSg := wsg_t (i := 1613) (by decide +kernel) (by decide +kernel)
set_option maxRecDepth 20000 in
theorem oi_w : Cond.instanceMethod Lib.objectInit ∈ WSg ∧ Cond.code Lib.objectInit ⟨#[0xb1]⟩ 1 none ∈ WSg := ⟨wsg_t (i := 27) (by decide +kernel) (by decide +kernel), wsg_t (i := 28) (by decide +kernel) (by decide +kernel)⟩
set_option maxRecDepth 20000 in
theorem oi_X11 : Cond.methodLink RX11 1 Lib.objectInit ∈ WSg ∧ Cond.instanceMethod Lib.objectInit ∈ WSg ∧ Cond.code Lib.objectInit ⟨#[0xb1]⟩ 1 none ∈ WSg := ⟨wsg_t (i := 26) (by decide +kernel) (by decide +kernel), oi_w⟩
set_option maxRecDepth 20000 in
theorem kc_X3_init : Cond.instanceMethod mdX3_init.2.1 ∈ WSg ∧ Cond.initialized mdX3_init.2.1.cls ∈ WSg ∧ Cond.code mdX3_init.2.1 mdX3_init.2.2.1 mdX3_init.2.2.2.1 none ∈ WSg ∧ mdX3_init.2.2.2.2.1 = none ∧ mdX3_init.2.1.name = "<init>" ∧ mdX3_init.2.1.cls ≠ "java/lang/invoke/MethodHandle" ∧ mdX3_init.2.1.cls ≠ "java/lang/invoke/VarHandle" ∧ (parseMethodDescriptor mdX3_init.2.1.desc).map (fun d => d.parameters.length) = some 0 := ⟨wsg_t (i := 32) (by decide +kernel) (by decide +kernel), wsg_t (i := 2) (by decide +kernel) (by decide +kernel), wsg_t (i := 33) (by decide +kernel) (by decide +kernel), rfl, rfl, by decide, by decide, by decide +kernel⟩
set_option maxRecDepth 20000 in
theorem ci_X11_9 : CVI RX11 9 mdX3_init := ⟨wsg_t (i := 31) (by decide +kernel) (by decide +kernel), kc_X3_init⟩
set_option maxRecDepth 20000 in
theorem kc_X10_init : Cond.instanceMethod mdX10_init.2.1 ∈ WSg ∧ Cond.initialized mdX10_init.2.1.cls ∈ WSg ∧ Cond.code mdX10_init.2.1 mdX10_init.2.2.1 mdX10_init.2.2.2.1 none ∈ WSg ∧ mdX10_init.2.2.2.2.1 = none ∧ mdX10_init.2.1.name = "<init>" ∧ mdX10_init.2.1.cls ≠ "java/lang/invoke/MethodHandle" ∧ mdX10_init.2.1.cls ≠ "java/lang/invoke/VarHandle" ∧ (parseMethodDescriptor mdX10_init.2.1.desc).map (fun d => d.parameters.length) = some 0 := ⟨wsg_t (i := 209) (by decide +kernel) (by decide +kernel), wsg_t (i := 7) (by decide +kernel) (by decide +kernel), wsg_t (i := 210) (by decide +kernel) (by decide +kernel), rfl, rfl, by decide, by decide, by decide +kernel⟩
set_option maxRecDepth 20000 in
theorem ci_X11_18 : CVI RX11 18 mdX10_init := ⟨wsg_t (i := 208) (by decide +kernel) (by decide +kernel), kc_X10_init⟩
set_option maxRecDepth 20000 in
theorem kc_X7_init : Cond.instanceMethod mdX7_init.2.1 ∈ WSg ∧ Cond.initialized mdX7_init.2.1.cls ∈ WSg ∧ Cond.code mdX7_init.2.1 mdX7_init.2.2.1 mdX7_init.2.2.2.1 none ∈ WSg ∧ mdX7_init.2.2.2.2.1 = none ∧ mdX7_init.2.1.name = "<init>" ∧ mdX7_init.2.1.cls ≠ "java/lang/invoke/MethodHandle" ∧ mdX7_init.2.1.cls ≠ "java/lang/invoke/VarHandle" ∧ (parseMethodDescriptor mdX7_init.2.1.desc).map (fun d => d.parameters.length) = some 0 := ⟨wsg_t (i := 265) (by decide +kernel) (by decide +kernel), wsg_t (i := 9) (by decide +kernel) (by decide +kernel), wsg_t (i := 266) (by decide +kernel) (by decide +kernel), rfl, rfl, by decide, by decide, by decide +kernel⟩
set_option maxRecDepth 20000 in
theorem ci_X11_25 : CVI RX11 25 mdX7_init := ⟨wsg_t (i := 264) (by decide +kernel) (by decide +kernel), kc_X7_init⟩
set_option maxRecDepth 20000 in
theorem kc_X2_init : Cond.instanceMethod mdX2_init.2.1 ∈ WSg ∧ Cond.initialized mdX2_init.2.1.cls ∈ WSg ∧ Cond.code mdX2_init.2.1 mdX2_init.2.2.1 mdX2_init.2.2.2.1 none ∈ WSg ∧ mdX2_init.2.2.2.2.1 = none ∧ mdX2_init.2.1.name = "<init>" ∧ mdX2_init.2.1.cls ≠ "java/lang/invoke/MethodHandle" ∧ mdX2_init.2.1.cls ≠ "java/lang/invoke/VarHandle" ∧ (parseMethodDescriptor mdX2_init.2.1.desc).map (fun d => d.parameters.length) = some 0 := ⟨wsg_t (i := 311) (by decide +kernel) (by decide +kernel), wsg_t (i := 11) (by decide +kernel) (by decide +kernel), wsg_t (i := 312) (by decide +kernel) (by decide +kernel), rfl, rfl, by decide, by decide, by decide +kernel⟩
set_option maxRecDepth 20000 in
theorem ci_X11_32 : CVI RX11 32 mdX2_init := ⟨wsg_t (i := 310) (by decide +kernel) (by decide +kernel), kc_X2_init⟩
set_option maxRecDepth 20000 in
theorem oi_X0 : Cond.methodLink RX0 1 Lib.objectInit ∈ WSg ∧ Cond.instanceMethod Lib.objectInit ∈ WSg ∧ Cond.code Lib.objectInit ⟨#[0xb1]⟩ 1 none ∈ WSg := ⟨wsg_t (i := 147) (by decide +kernel) (by decide +kernel), oi_w⟩
set_option maxRecDepth 20000 in
theorem oi_X1 : Cond.methodLink RX1 1 Lib.objectInit ∈ WSg ∧ Cond.instanceMethod Lib.objectInit ∈ WSg ∧ Cond.code Lib.objectInit ⟨#[0xb1]⟩ 1 none ∈ WSg := ⟨wsg_t (i := 320) (by decide +kernel) (by decide +kernel), oi_w⟩
set_option maxRecDepth 20000 in
theorem oi_X2 : Cond.methodLink RX2 3 Lib.objectInit ∈ WSg ∧ Cond.instanceMethod Lib.objectInit ∈ WSg ∧ Cond.code Lib.objectInit ⟨#[0xb1]⟩ 1 none ∈ WSg := ⟨wsg_t (i := 313) (by decide +kernel) (by decide +kernel), oi_w⟩
set_option maxRecDepth 20000 in
theorem oi_X3 : Cond.methodLink RX3 3 Lib.objectInit ∈ WSg ∧ Cond.instanceMethod Lib.objectInit ∈ WSg ∧ Cond.code Lib.objectInit ⟨#[0xb1]⟩ 1 none ∈ WSg := ⟨wsg_t (i := 34) (by decide +kernel) (by decide +kernel), oi_w⟩
set_option maxRecDepth 20000 in
theorem oi_X4 : Cond.methodLink RX4 1 Lib.objectInit ∈ WSg ∧ Cond.instanceMethod Lib.objectInit ∈ WSg ∧ Cond.code Lib.objectInit ⟨#[0xb1]⟩ 1 none ∈ WSg := ⟨wsg_t (i := 40) (by decide +kernel) (by decide +kernel), oi_w⟩
set_option maxRecDepth 20000 in
theorem oi_X5 : Cond.methodLink RX5 3 Lib.objectInit ∈ WSg ∧ Cond.instanceMethod Lib.objectInit ∈ WSg ∧ Cond.code Lib.objectInit ⟨#[0xb1]⟩ 1 none ∈ WSg := ⟨wsg_t (i := 95) (by decide +kernel) (by decide +kernel), oi_w⟩
set_option maxRecDepth 20000 in
theorem oi_X6 : Cond.methodLink RX6 1 Lib.objectInit ∈ WSg ∧ Cond.instanceMethod Lib.objectInit ∈ WSg ∧ Cond.code Lib.objectInit ⟨#[0xb1]⟩ 1 none ∈ WSg := ⟨wsg_t (i := 274) (by decide +kernel) (by decide +kernel), oi_w⟩
set_option maxRecDepth 20000 in
theorem oi_X7 : Cond.methodLink RX7 3 Lib.objectInit ∈ WSg ∧ Cond.instanceMethod Lib.objectInit ∈ WSg ∧ Cond.code Lib.objectInit ⟨#[0xb1]⟩ 1 none ∈ WSg := ⟨wsg_t (i := 267) (by decide +kernel) (by decide +kernel), oi_w⟩
set_option maxRecDepth 20000 in
theorem oi_X8 : Cond.methodLink RX8 3 Lib.objectInit ∈ WSg ∧ Cond.instanceMethod Lib.objectInit ∈ WSg ∧ Cond.code Lib.objectInit ⟨#[0xb1]⟩ 1 none ∈ WSg := ⟨wsg_t (i := 72) (by decide +kernel) (by decide +kernel), oi_w⟩
set_option maxRecDepth 20000 in
theorem oi_X9 : Cond.methodLink RX9 1 Lib.objectInit ∈ WSg ∧ Cond.instanceMethod Lib.objectInit ∈ WSg ∧ Cond.code Lib.objectInit ⟨#[0xb1]⟩ 1 none ∈ WSg := ⟨wsg_t (i := 218) (by decide +kernel) (by decide +kernel), oi_w⟩
set_option maxRecDepth 20000 in
theorem oi_X10 : Cond.methodLink RX10 3 Lib.objectInit ∈ WSg ∧ Cond.instanceMethod Lib.objectInit ∈ WSg ∧ Cond.code Lib.objectInit ⟨#[0xb1]⟩ 1 none ∈ WSg := ⟨wsg_t (i := 211) (by decide +kernel) (by decide +kernel), oi_w⟩
set_option maxRecDepth 20000 in
theorem kc_X11_init : Cond.instanceMethod mdX11_init.2.1 ∈ WSg ∧ Cond.initialized mdX11_init.2.1.cls ∈ WSg ∧ Cond.code mdX11_init.2.1 mdX11_init.2.2.1 mdX11_init.2.2.2.1 none ∈ WSg ∧ mdX11_init.2.2.2.2.1 = none ∧ mdX11_init.2.1.name = "<init>" ∧ mdX11_init.2.1.cls ≠ "java/lang/invoke/MethodHandle" ∧ mdX11_init.2.1.cls ≠ "java/lang/invoke/VarHandle" ∧ (parseMethodDescriptor mdX11_init.2.1.desc).map (fun d => d.parameters.length) = some 0 := ⟨wsg_t (i := 24) (by decide +kernel) (by decide +kernel), wsg_t (i := 1) (by decide +kernel) (by decide +kernel), wsg_t (i := 25) (by decide +kernel) (by decide +kernel), rfl, rfl, by decide, by decide, by decide +kernel⟩
set_option maxRecDepth 20000 in
theorem ci_L_120 : CVI RL 120 mdX11_init := ⟨wsg_t (i := 23) (by decide +kernel) (by decide +kernel), kc_X11_init⟩
set_option maxRecDepth 20000 in
theorem kc_X12_init : Cond.instanceMethod mdX12_init.2.1 ∈ WSg ∧ Cond.initialized mdX12_init.2.1.cls ∈ WSg ∧ Cond.code mdX12_init.2.1 mdX12_init.2.2.1 mdX12_init.2.2.2.1 none ∈ WSg ∧ mdX12_init.2.2.2.2.1 = none ∧ mdX12_init.2.1.name = "<init>" ∧ mdX12_init.2.1.cls ≠ "java/lang/invoke/MethodHandle" ∧ mdX12_init.2.1.cls ≠ "java/lang/invoke/VarHandle" ∧ (parseMethodDescriptor mdX12_init.2.1.desc).map (fun d => d.parameters.length) = some 0 := ⟨wsg_t (i := 1105) (by decide +kernel) (by decide +kernel), wsg_t (i := 13) (by decide +kernel) (by decide +kernel), wsg_t (i := 1106) (by decide +kernel) (by decide +kernel), rfl, rfl, by decide, by decide, by decide +kernel⟩
set_option maxRecDepth 20000 in
theorem ci_L_123 : CVI RL 123 mdX12_init := ⟨wsg_t (i := 1104) (by decide +kernel) (by decide +kernel), kc_X12_init⟩
set_option maxRecDepth 20000 in
theorem oi_X12 : Cond.methodLink RX12 1 Lib.objectInit ∈ WSg ∧ Cond.instanceMethod Lib.objectInit ∈ WSg ∧ Cond.code Lib.objectInit ⟨#[0xb1]⟩ 1 none ∈ WSg := ⟨wsg_t (i := 1107) (by decide +kernel) (by decide +kernel), oi_w⟩
set_option maxRecDepth 20000 in
theorem kc_X1_init : Cond.instanceMethod mdX1_init.2.1 ∈ WSg ∧ Cond.initialized mdX1_init.2.1.cls ∈ WSg ∧ Cond.code mdX1_init.2.1 mdX1_init.2.2.1 mdX1_init.2.2.2.1 none ∈ WSg ∧ mdX1_init.2.2.2.2.1 = none ∧ mdX1_init.2.1.name = "<init>" ∧ mdX1_init.2.1.cls ≠ "java/lang/invoke/MethodHandle" ∧ mdX1_init.2.1.cls ≠ "java/lang/invoke/VarHandle" ∧ (parseMethodDescriptor mdX1_init.2.1.desc).map (fun d => d.parameters.length) = some 0 := ⟨wsg_t (i := 318) (by decide +kernel) (by decide +kernel), wsg_t (i := 12) (by decide +kernel) (by decide +kernel), wsg_t (i := 319) (by decide +kernel) (by decide +kernel), rfl, rfl, by decide, by decide, by decide +kernel⟩
set_option maxRecDepth 20000 in
theorem cn_X2_17 : CVN RX2 17 "Newsmint" mdX1_init := ⟨wsx_t (i := 317) (by decide +kernel) (by decide +kernel), kc_X1_init⟩
set_option maxRecDepth 20000 in
theorem kc_X4_init : Cond.instanceMethod mdX4_init.2.1 ∈ WSg ∧ Cond.initialized mdX4_init.2.1.cls ∈ WSg ∧ Cond.code mdX4_init.2.1 mdX4_init.2.2.1 mdX4_init.2.2.2.1 none ∈ WSg ∧ mdX4_init.2.2.2.2.1 = none ∧ mdX4_init.2.1.name = "<init>" ∧ mdX4_init.2.1.cls ≠ "java/lang/invoke/MethodHandle" ∧ mdX4_init.2.1.cls ≠ "java/lang/invoke/VarHandle" ∧ (parseMethodDescriptor mdX4_init.2.1.desc).map (fun d => d.parameters.length) = some 0 := ⟨wsg_t (i := 38) (by decide +kernel) (by decide +kernel), wsg_t (i := 3) (by decide +kernel) (by decide +kernel), wsg_t (i := 39) (by decide +kernel) (by decide +kernel), rfl, rfl, by decide, by decide, by decide +kernel⟩
set_option maxRecDepth 20000 in
theorem cn_X3_11 : CVN RX3 11 "Newsmint" mdX4_init := ⟨wsx_t (i := 37) (by decide +kernel) (by decide +kernel), kc_X4_init⟩
set_option maxRecDepth 20000 in
theorem kc_X8_init : Cond.instanceMethod mdX8_init.2.1 ∈ WSg ∧ Cond.initialized mdX8_init.2.1.cls ∈ WSg ∧ Cond.code mdX8_init.2.1 mdX8_init.2.2.1 mdX8_init.2.2.2.1 none ∈ WSg ∧ mdX8_init.2.2.2.2.1 = none ∧ mdX8_init.2.1.name = "<init>" ∧ mdX8_init.2.1.cls ≠ "java/lang/invoke/MethodHandle" ∧ mdX8_init.2.1.cls ≠ "java/lang/invoke/VarHandle" ∧ (parseMethodDescriptor mdX8_init.2.1.desc).map (fun d => d.parameters.length) = some 0 := ⟨wsg_t (i := 70) (by decide +kernel) (by decide +kernel), wsg_t (i := 4) (by decide +kernel) (by decide +kernel), wsg_t (i := 71) (by decide +kernel) (by decide +kernel), rfl, rfl, by decide, by decide, by decide +kernel⟩
set_option maxRecDepth 20000 in
theorem cn_X3_20 : CVN RX3 20 "Newsmint" mdX8_init := ⟨wsx_t (i := 69) (by decide +kernel) (by decide +kernel), kc_X8_init⟩
set_option maxRecDepth 20000 in
theorem kc_X5_init : Cond.instanceMethod mdX5_init.2.1 ∈ WSg ∧ Cond.initialized mdX5_init.2.1.cls ∈ WSg ∧ Cond.code mdX5_init.2.1 mdX5_init.2.2.1 mdX5_init.2.2.2.1 none ∈ WSg ∧ mdX5_init.2.2.2.2.1 = none ∧ mdX5_init.2.1.name = "<init>" ∧ mdX5_init.2.1.cls ≠ "java/lang/invoke/MethodHandle" ∧ mdX5_init.2.1.cls ≠ "java/lang/invoke/VarHandle" ∧ (parseMethodDescriptor mdX5_init.2.1.desc).map (fun d => d.parameters.length) = some 0 := ⟨wsg_t (i := 93) (by decide +kernel) (by decide +kernel), wsg_t (i := 5) (by decide +kernel) (by decide +kernel), wsg_t (i := 94) (by decide +kernel) (by decide +kernel), rfl, rfl, by decide, by decide, by decide +kernel⟩
set_option maxRecDepth 20000 in
theorem cn_X3_37 : CVN RX3 37 "Newsmint" mdX5_init := ⟨wsx_t (i := 92) (by decide +kernel) (by decide +kernel), kc_X5_init⟩
set_option maxRecDepth 20000 in
theorem kc_X0_init : Cond.instanceMethod mdX0_init.2.1 ∈ WSg ∧ Cond.initialized mdX0_init.2.1.cls ∈ WSg ∧ Cond.code mdX0_init.2.1 mdX0_init.2.2.1 mdX0_init.2.2.2.1 none ∈ WSg ∧ mdX0_init.2.2.2.2.1 = none ∧ mdX0_init.2.1.name = "<init>" ∧ mdX0_init.2.1.cls ≠ "java/lang/invoke/MethodHandle" ∧ mdX0_init.2.1.cls ≠ "java/lang/invoke/VarHandle" ∧ (parseMethodDescriptor mdX0_init.2.1.desc).map (fun d => d.parameters.length) = some 0 := ⟨wsg_t (i := 145) (by decide +kernel) (by decide +kernel), wsg_t (i := 6) (by decide +kernel) (by decide +kernel), wsg_t (i := 146) (by decide +kernel) (by decide +kernel), rfl, rfl, by decide, by decide, by decide +kernel⟩
set_option maxRecDepth 20000 in
theorem cn_X3_42 : CVN RX3 42 "Newsmint" mdX0_init := ⟨wsx_t (i := 144) (by decide +kernel) (by decide +kernel), kc_X0_init⟩
set_option maxRecDepth 20000 in
theorem kc_X6_init : Cond.instanceMethod mdX6_init.2.1 ∈ WSg ∧ Cond.initialized mdX6_init.2.1.cls ∈ WSg ∧ Cond.code mdX6_init.2.1 mdX6_init.2.2.1 mdX6_init.2.2.2.1 none ∈ WSg ∧ mdX6_init.2.2.2.2.1 = none ∧ mdX6_init.2.1.name = "<init>" ∧ mdX6_init.2.1.cls ≠ "java/lang/invoke/MethodHandle" ∧ mdX6_init.2.1.cls ≠ "java/lang/invoke/VarHandle" ∧ (parseMethodDescriptor mdX6_init.2.1.desc).map (fun d => d.parameters.length) = some 0 := ⟨wsg_t (i := 272) (by decide +kernel) (by decide +kernel), wsg_t (i := 10) (by decide +kernel) (by decide +kernel), wsg_t (i := 273) (by decide +kernel) (by decide +kernel), rfl, rfl, by decide, by decide, by decide +kernel⟩
set_option maxRecDepth 20000 in
theorem cn_X7_17 : CVN RX7 17 "Newsmint" mdX6_init := ⟨wsx_t (i := 271) (by decide +kernel) (by decide +kernel), kc_X6_init⟩
set_option maxRecDepth 20000 in
theorem kc_X9_init : Cond.instanceMethod mdX9_init.2.1 ∈ WSg ∧ Cond.initialized mdX9_init.2.1.cls ∈ WSg ∧ Cond.code mdX9_init.2.1 mdX9_init.2.2.1 mdX9_init.2.2.2.1 none ∈ WSg ∧ mdX9_init.2.2.2.2.1 = none ∧ mdX9_init.2.1.name = "<init>" ∧ mdX9_init.2.1.cls ≠ "java/lang/invoke/MethodHandle" ∧ mdX9_init.2.1.cls ≠ "java/lang/invoke/VarHandle" ∧ (parseMethodDescriptor mdX9_init.2.1.desc).map (fun d => d.parameters.length) = some 0 := ⟨wsg_t (i := 216) (by decide +kernel) (by decide +kernel), wsg_t (i := 8) (by decide +kernel) (by decide +kernel), wsg_t (i := 217) (by decide +kernel) (by decide +kernel), rfl, rfl, by decide, by decide, by decide +kernel⟩
set_option maxRecDepth 20000 in
theorem cn_X10_17 : CVN RX10 17 "Newsmint" mdX9_init := ⟨wsx_t (i := 215) (by decide +kernel) (by decide +kernel), kc_X9_init⟩
set_option maxRecDepth 20000 in
theorem ql_X11_7 : Cond.classLink RX11 7 RX3 ∈ WSg := wsg_t (i := 29) (by decide +kernel) (by decide +kernel)
set_option maxRecDepth 20000 in
theorem nw_X11_7 : Cond.classLink RX11 7 RX3 ∈ WSg ∧ Cond.instantiable RX3 6 ∈ WSg ∧ Cond.initialized RX3 ∈ WSg := ⟨ql_X11_7, wsg_t (i := 30) (by decide +kernel) (by decide +kernel), wsg_t (i := 2) (by decide +kernel) (by decide +kernel)⟩
set_option maxRecDepth 20000 in
theorem ql_X11_16 : Cond.classLink RX11 16 RX10 ∈ WSg := wsg_t (i := 206) (by decide +kernel) (by decide +kernel)
set_option maxRecDepth 20000 in
theorem nw_X11_16 : Cond.classLink RX11 16 RX10 ∈ WSg ∧ Cond.instantiable RX10 3 ∈ WSg ∧ Cond.initialized RX10 ∈ WSg := ⟨ql_X11_16, wsg_t (i := 207) (by decide +kernel) (by decide +kernel), wsg_t (i := 7) (by decide +kernel) (by decide +kernel)⟩
set_option maxRecDepth 20000 in
theorem ql_X11_23 : Cond.classLink RX11 23 RX7 ∈ WSg := wsg_t (i := 262) (by decide +kernel) (by decide +kernel)
set_option maxRecDepth 20000 in
theorem nw_X11_23 : Cond.classLink RX11 23 RX7 ∈ WSg ∧ Cond.instantiable RX7 3 ∈ WSg ∧ Cond.initialized RX7 ∈ WSg := ⟨ql_X11_23, wsg_t (i := 263) (by decide +kernel) (by decide +kernel), wsg_t (i := 9) (by decide +kernel) (by decide +kernel)⟩
set_option maxRecDepth 20000 in
theorem ql_X11_30 : Cond.classLink RX11 30 RX2 ∈ WSg := wsg_t (i := 308) (by decide +kernel) (by decide +kernel)
set_option maxRecDepth 20000 in
theorem nw_X11_30 : Cond.classLink RX11 30 RX2 ∈ WSg ∧ Cond.instantiable RX2 6 ∈ WSg ∧ Cond.initialized RX2 ∈ WSg := ⟨ql_X11_30, wsg_t (i := 309) (by decide +kernel) (by decide +kernel), wsg_t (i := 11) (by decide +kernel) (by decide +kernel)⟩
set_option maxRecDepth 20000 in
theorem ql_X2_9 : Cond.classLink RX2 9 RX1 ∈ WSg := wsg_t (i := 314) (by decide +kernel) (by decide +kernel)
set_option maxRecDepth 20000 in
theorem nw_X2_9 : Cond.classLink RX2 9 RX1 ∈ WSg ∧ Cond.instantiable RX1 5 ∈ WSg ∧ Cond.initialized RX1 ∈ WSg := ⟨ql_X2_9, wsg_t (i := 316) (by decide +kernel) (by decide +kernel), wsg_t (i := 12) (by decide +kernel) (by decide +kernel)⟩
set_option maxRecDepth 20000 in
theorem ql_X3_9 : Cond.classLink RX3 9 RX4 ∈ WSg := wsg_t (i := 35) (by decide +kernel) (by decide +kernel)
set_option maxRecDepth 20000 in
theorem nw_X3_9 : Cond.classLink RX3 9 RX4 ∈ WSg ∧ Cond.instantiable RX4 7 ∈ WSg ∧ Cond.initialized RX4 ∈ WSg := ⟨ql_X3_9, wsg_t (i := 36) (by decide +kernel) (by decide +kernel), wsg_t (i := 3) (by decide +kernel) (by decide +kernel)⟩
set_option maxRecDepth 20000 in
theorem ql_X3_18 : Cond.classLink RX3 18 RX8 ∈ WSg := wsg_t (i := 67) (by decide +kernel) (by decide +kernel)
set_option maxRecDepth 20000 in
theorem nw_X3_18 : Cond.classLink RX3 18 RX8 ∈ WSg ∧ Cond.instantiable RX8 4 ∈ WSg ∧ Cond.initialized RX8 ∈ WSg := ⟨ql_X3_18, wsg_t (i := 68) (by decide +kernel) (by decide +kernel), wsg_t (i := 4) (by decide +kernel) (by decide +kernel)⟩
set_option maxRecDepth 20000 in
theorem ql_X3_25 : Cond.classLink RX3 25 RX5 ∈ WSg := wsg_t (i := 87) (by decide +kernel) (by decide +kernel)
set_option maxRecDepth 20000 in
theorem nw_X3_25 : Cond.classLink RX3 25 RX5 ∈ WSg ∧ Cond.instantiable RX5 11 ∈ WSg ∧ Cond.initialized RX5 ∈ WSg := ⟨ql_X3_25, wsg_t (i := 91) (by decide +kernel) (by decide +kernel), wsg_t (i := 5) (by decide +kernel) (by decide +kernel)⟩
set_option maxRecDepth 20000 in
theorem ql_X3_31 : Cond.classLink RX3 31 RX0 ∈ WSg := wsg_t (i := 89) (by decide +kernel) (by decide +kernel)
set_option maxRecDepth 20000 in
theorem nw_X3_31 : Cond.classLink RX3 31 RX0 ∈ WSg ∧ Cond.instantiable RX0 8 ∈ WSg ∧ Cond.initialized RX0 ∈ WSg := ⟨ql_X3_31, wsg_t (i := 143) (by decide +kernel) (by decide +kernel), wsg_t (i := 6) (by decide +kernel) (by decide +kernel)⟩
set_option maxRecDepth 20000 in
theorem ql_X7_9 : Cond.classLink RX7 9 RX6 ∈ WSg := wsg_t (i := 268) (by decide +kernel) (by decide +kernel)
set_option maxRecDepth 20000 in
theorem nw_X7_9 : Cond.classLink RX7 9 RX6 ∈ WSg ∧ Cond.instantiable RX6 5 ∈ WSg ∧ Cond.initialized RX6 ∈ WSg := ⟨ql_X7_9, wsg_t (i := 270) (by decide +kernel) (by decide +kernel), wsg_t (i := 10) (by decide +kernel) (by decide +kernel)⟩
set_option maxRecDepth 20000 in
theorem ql_X10_9 : Cond.classLink RX10 9 RX9 ∈ WSg := wsg_t (i := 212) (by decide +kernel) (by decide +kernel)
set_option maxRecDepth 20000 in
theorem nw_X10_9 : Cond.classLink RX10 9 RX9 ∈ WSg ∧ Cond.instantiable RX9 9 ∈ WSg ∧ Cond.initialized RX9 ∈ WSg := ⟨ql_X10_9, wsg_t (i := 214) (by decide +kernel) (by decide +kernel), wsg_t (i := 8) (by decide +kernel) (by decide +kernel)⟩
set_option maxRecDepth 20000 in
theorem ql_L_8 : Cond.classLink RL 8 RX11 ∈ WSg := wsg_t (i := 21) (by decide +kernel) (by decide +kernel)
set_option maxRecDepth 20000 in
theorem nw_L_8 : Cond.classLink RL 8 RX11 ∈ WSg ∧ Cond.instantiable RX11 5 ∈ WSg ∧ Cond.initialized RX11 ∈ WSg := ⟨ql_L_8, wsg_t (i := 22) (by decide +kernel) (by decide +kernel), wsg_t (i := 1) (by decide +kernel) (by decide +kernel)⟩
set_option maxRecDepth 20000 in
theorem ql_L_121 : Cond.classLink RL 121 RX12 ∈ WSg := wsg_t (i := 1102) (by decide +kernel) (by decide +kernel)
set_option maxRecDepth 20000 in
theorem nw_L_121 : Cond.classLink RL 121 RX12 ∈ WSg ∧ Cond.instantiable RX12 52 ∈ WSg ∧ Cond.initialized RX12 ∈ WSg := ⟨ql_L_121, wsg_t (i := 1103) (by decide +kernel) (by decide +kernel), wsg_t (i := 13) (by decide +kernel) (by decide +kernel)⟩
