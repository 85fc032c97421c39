set_option maxRecDepth 100000 in
theorem zo_ins : Cond.instanceMethod Lib.objectInit ∈ xTb := tc1 31 rfl rfl
set_option maxRecDepth 100000 in
theorem zo_code : Cond.code Lib.objectInit { data := #[177] } 1 none ∈ xTb := tc1 32 rfl rfl
set_option maxRecDepth 100000 in
theorem zk_L_8 : Cond.classLink RL 8 RX10 ∈ xTb := tc1 25 rfl rfl
set_option maxRecDepth 100000 in
theorem zi_10 : Cond.instantiable RX10 19 ∈ xTb := tc1 26 rfl rfl
set_option maxRecDepth 100000 in
theorem zn_10 : Cond.initialized RX10 ∈ xTb := tc1 1 rfl rfl
set_option maxRecDepth 100000 in
theorem zl_X10_3 : Cond.methodLink RX10 3 Lib.objectInit ∈ xTb := tc1 30 rfl rfl
set_option maxRecDepth 100000 in
theorem zk_X10_9 : Cond.classLink RX10 9 RX2 ∈ xTb := tc1 33 rfl rfl
set_option maxRecDepth 100000 in
theorem zi_2 : Cond.instantiable RX2 15 ∈ xTb := tc1 34 rfl rfl
set_option maxRecDepth 100000 in
theorem zn_2 : Cond.initialized RX2 ∈ xTb := tc1 2 rfl rfl
set_option maxRecDepth 100000 in
theorem zl_X2_3 : Cond.methodLink RX2 3 Lib.objectInit ∈ xTb := tc1 38 rfl rfl
set_option maxRecDepth 100000 in
theorem za_int : Cond.arrayClass .int ∈ xTb := tc1 114 rfl rfl
set_option maxRecDepth 100000 in
theorem zk_X2_18 : Cond.classLink RX2 18 ("[" ++ (FieldType.array .int).toString) ∈ xTb := tc1 39 (by decide +kernel) rfl
set_option maxRecDepth 100000 in
theorem za_boolean : Cond.arrayClass .boolean ∈ xTb := tc1 115 rfl rfl
set_option maxRecDepth 100000 in
theorem zl_X2_39 : Cond.methodLink RX2 39 yJ7_fill_53178 ∈ xTb := tc1 41 rfl rfl
set_option maxRecDepth 100000 in
theorem zm_2 : Cond.instanceMethod yX2_init ∈ xTb := tc1 36 rfl rfl
set_option maxRecDepth 100000 in
theorem zl_X10_11 : Cond.methodLink RX10 11 yX2_init ∈ xTb := tc1 35 rfl rfl
set_option maxRecDepth 100000 in
theorem zk_X10_16 : Cond.classLink RX10 16 RX5 ∈ xTb := tc1 116 rfl rfl
set_option maxRecDepth 100000 in
theorem zi_5 : Cond.instantiable RX5 14 ∈ xTb := tc1 117 rfl rfl
set_option maxRecDepth 100000 in
theorem zn_5 : Cond.initialized RX5 ∈ xTb := tc1 4 rfl rfl
set_option maxRecDepth 100000 in
theorem zl_X5_3 : Cond.methodLink RX5 3 Lib.objectInit ∈ xTb := tc1 121 rfl rfl
set_option maxRecDepth 100000 in
theorem zm_5 : Cond.instanceMethod yX5_init ∈ xTb := tc1 119 rfl rfl
set_option maxRecDepth 100000 in
theorem zl_X10_18 : Cond.methodLink RX10 18 yX5_init ∈ xTb := tc1 118 rfl rfl
set_option maxRecDepth 100000 in
theorem zk_X10_28 : Cond.classLink RX10 28 RX1 ∈ xTb := tc1 168 rfl rfl
set_option maxRecDepth 100000 in
theorem zi_1 : Cond.instantiable RX1 11 ∈ xTb := tc1 169 rfl rfl
set_option maxRecDepth 100000 in
theorem zn_1 : Cond.initialized RX1 ∈ xTb := tc1 5 rfl rfl
set_option maxRecDepth 100000 in
theorem zl_X1_3 : Cond.methodLink RX1 3 Lib.objectInit ∈ xTb := tc1 173 rfl rfl
set_option maxRecDepth 100000 in
theorem zk_X1_9 : Cond.classLink RX1 9 ("[" ++ (FieldType.array .int).toString) ∈ xTb := tc1 174 (by decide +kernel) rfl
set_option maxRecDepth 100000 in
theorem zm_1 : Cond.instanceMethod yX1_init ∈ xTb := tc1 171 rfl rfl
set_option maxRecDepth 100000 in
theorem zl_X10_30 : Cond.methodLink RX10 30 yX1_init ∈ xTb := tc1 170 rfl rfl
set_option maxRecDepth 100000 in
theorem zk_X10_35 : Cond.classLink RX10 35 RX3 ∈ xTb := tc1 209 rfl rfl
set_option maxRecDepth 100000 in
theorem zi_3 : Cond.instantiable RX3 4 ∈ xTb := tc1 210 rfl rfl
set_option maxRecDepth 100000 in
theorem zn_3 : Cond.initialized RX3 ∈ xTb := tc1 6 rfl rfl
set_option maxRecDepth 100000 in
theorem zl_X3_3 : Cond.methodLink RX3 3 Lib.objectInit ∈ xTb := tc1 214 rfl rfl
set_option maxRecDepth 100000 in
theorem zm_3 : Cond.instanceMethod yX3_init ∈ xTb := tc1 212 rfl rfl
set_option maxRecDepth 100000 in
theorem zl_X10_37 : Cond.methodLink RX10 37 yX3_init ∈ xTb := tc1 211 rfl rfl
set_option maxRecDepth 100000 in
theorem zk_X10_44 : Cond.classLink RX10 44 RX9 ∈ xTb := tc1 228 rfl rfl
set_option maxRecDepth 100000 in
theorem zi_9 : Cond.instantiable RX9 18 ∈ xTb := tc1 229 rfl rfl
set_option maxRecDepth 100000 in
theorem zn_9 : Cond.initialized RX9 ∈ xTb := tc1 7 rfl rfl
set_option maxRecDepth 100000 in
theorem zl_X9_3 : Cond.methodLink RX9 3 Lib.objectInit ∈ xTb := tc1 233 rfl rfl
set_option maxRecDepth 100000 in
theorem zm_9 : Cond.instanceMethod yX9_init ∈ xTb := tc1 231 rfl rfl
set_option maxRecDepth 100000 in
theorem zl_X10_46 : Cond.methodLink RX10 46 yX9_init ∈ xTb := tc1 230 rfl rfl
set_option maxRecDepth 100000 in
theorem zk_X10_64 : Cond.classLink RX10 64 RX0 ∈ xTb := tc2 55 rfl rfl
set_option maxRecDepth 100000 in
theorem zi_0 : Cond.instantiable RX0 6 ∈ xTb := tc2 56 rfl rfl
set_option maxRecDepth 100000 in
theorem zn_0 : Cond.initialized RX0 ∈ xTb := tc1 8 rfl rfl
set_option maxRecDepth 100000 in
theorem zl_X0_3 : Cond.methodLink RX0 3 Lib.objectInit ∈ xTb := tc2 60 rfl rfl
set_option maxRecDepth 100000 in
theorem zm_0 : Cond.instanceMethod yX0_init ∈ xTb := tc2 58 rfl rfl
set_option maxRecDepth 100000 in
theorem zl_X10_66 : Cond.methodLink RX10 66 yX0_init ∈ xTb := tc2 57 rfl rfl
set_option maxRecDepth 100000 in
theorem zk_X10_71 : Cond.classLink RX10 71 RX8 ∈ xTb := tc2 80 rfl rfl
set_option maxRecDepth 100000 in
theorem zi_8 : Cond.instantiable RX8 3 ∈ xTb := tc2 81 rfl rfl
set_option maxRecDepth 100000 in
theorem zn_8 : Cond.initialized RX8 ∈ xTb := tc1 9 rfl rfl
set_option maxRecDepth 100000 in
theorem zl_X8_3 : Cond.methodLink RX8 3 Lib.objectInit ∈ xTb := tc2 85 rfl rfl
set_option maxRecDepth 100000 in
theorem zm_8 : Cond.instanceMethod yX8_init ∈ xTb := tc2 83 rfl rfl
set_option maxRecDepth 100000 in
theorem zl_X10_73 : Cond.methodLink RX10 73 yX8_init ∈ xTb := tc2 82 rfl rfl
set_option maxRecDepth 100000 in
theorem zk_X10_80 : Cond.classLink RX10 80 RX7 ∈ xTb := tc2 96 rfl rfl
set_option maxRecDepth 100000 in
theorem zi_7 : Cond.instantiable RX7 13 ∈ xTb := tc2 97 rfl rfl
set_option maxRecDepth 100000 in
theorem zn_7 : Cond.initialized RX7 ∈ xTb := tc1 10 rfl rfl
set_option maxRecDepth 100000 in
theorem zl_X7_3 : Cond.methodLink RX7 3 Lib.objectInit ∈ xTb := tc2 101 rfl rfl
set_option maxRecDepth 100000 in
theorem zk_X7_15 : Cond.classLink RX7 15 ("[" ++ (FieldType.array .int).toString) ∈ xTb := tc2 102 (by decide +kernel) rfl
set_option maxRecDepth 100000 in
theorem zm_7 : Cond.instanceMethod yX7_init ∈ xTb := tc2 99 rfl rfl
set_option maxRecDepth 100000 in
theorem zl_X10_82 : Cond.methodLink RX10 82 yX7_init ∈ xTb := tc2 98 rfl rfl
set_option maxRecDepth 100000 in
theorem zk_X10_87 : Cond.classLink RX10 87 RX6 ∈ xTb := tc2 143 rfl rfl
set_option maxRecDepth 100000 in
theorem zi_6 : Cond.instantiable RX6 3 ∈ xTb := tc2 144 rfl rfl
set_option maxRecDepth 100000 in
theorem zn_6 : Cond.initialized RX6 ∈ xTb := tc1 11 rfl rfl
set_option maxRecDepth 100000 in
theorem zl_X6_3 : Cond.methodLink RX6 3 Lib.objectInit ∈ xTb := tc2 148 rfl rfl
set_option maxRecDepth 100000 in
theorem zm_6 : Cond.instanceMethod yX6_init ∈ xTb := tc2 146 rfl rfl
set_option maxRecDepth 100000 in
theorem zl_X10_89 : Cond.methodLink RX10 89 yX6_init ∈ xTb := tc2 145 rfl rfl
set_option maxRecDepth 100000 in
theorem zk_X10_94 : Cond.classLink RX10 94 RX4 ∈ xTb := tc2 159 rfl rfl
set_option maxRecDepth 100000 in
theorem zi_4 : Cond.instantiable RX4 4 ∈ xTb := tc2 160 rfl rfl
set_option maxRecDepth 100000 in
theorem zn_4 : Cond.initialized RX4 ∈ xTb := tc1 12 rfl rfl
set_option maxRecDepth 100000 in
theorem zl_X4_3 : Cond.methodLink RX4 3 Lib.objectInit ∈ xTb := tc2 164 rfl rfl
set_option maxRecDepth 100000 in
theorem zl_X4_15 : Cond.methodLink RX4 15 yJ7_fill_53178 ∈ xTb := tc2 165 rfl rfl
set_option maxRecDepth 100000 in
theorem zm_4 : Cond.instanceMethod yX4_init ∈ xTb := tc2 162 rfl rfl
set_option maxRecDepth 100000 in
theorem zl_X10_96 : Cond.methodLink RX10 96 yX4_init ∈ xTb := tc2 161 rfl rfl
set_option maxRecDepth 100000 in
theorem zm_10 : Cond.instanceMethod yX10_init ∈ xTb := tc1 28 rfl rfl
set_option maxRecDepth 100000 in
theorem zl_L_15 : Cond.methodLink RL 15 yX10_init ∈ xTb := tc1 27 rfl rfl
set_option maxRecDepth 100000 in
theorem zk_L_16 : Cond.classLink RL 16 RX11 ∈ xTb := tc6 223 rfl rfl
set_option maxRecDepth 100000 in
theorem zi_11 : Cond.instantiable RX11 38 ∈ xTb := tc6 224 rfl rfl
set_option maxRecDepth 100000 in
theorem zn_11 : Cond.initialized RX11 ∈ xTb := tc1 13 rfl rfl
set_option maxRecDepth 100000 in
theorem zl_X11_1 : Cond.methodLink RX11 1 Lib.objectInit ∈ xTb := tc6 228 rfl rfl
set_option maxRecDepth 100000 in
theorem za_long : Cond.arrayClass .long ∈ xTb := tc7 106 rfl rfl
set_option maxRecDepth 100000 in
theorem zm_11 : Cond.instanceMethod yX11_init ∈ xTb := tc6 226 rfl rfl
set_option maxRecDepth 100000 in
theorem zl_L_18 : Cond.methodLink RL 18 yX11_init ∈ xTb := tc6 225 rfl rfl
set_option maxRecDepth 100000 in
theorem zc_2 : xCal yX2_init cX2_init 1 none 0 := ⟨tl1 37 rfl, tc1 2 rfl rfl, ⟨by decide +kernel, by decide +kernel, by decide +kernel⟩, by decide⟩
set_option maxRecDepth 100000 in
theorem zc_5 : xCal yX5_init cX5_init 2 none 1 := ⟨tl1 120 rfl, tc1 4 rfl rfl, ⟨by decide +kernel, by decide +kernel, by decide +kernel⟩, by decide⟩
set_option maxRecDepth 100000 in
theorem zc_1 : xCal yX1_init cX1_init 2 none 1 := ⟨tl1 172 rfl, tc1 5 rfl rfl, ⟨by decide +kernel, by decide +kernel, by decide +kernel⟩, by decide⟩
set_option maxRecDepth 100000 in
theorem zc_3 : xCal yX3_init cX3_init 3 none 2 := ⟨tl1 213 rfl, tc1 6 rfl rfl, ⟨by decide +kernel, by decide +kernel, by decide +kernel⟩, by decide⟩
set_option maxRecDepth 100000 in
theorem zc_9 : xCal yX9_init cX9_init 2 none 1 := ⟨tl1 232 rfl, tc1 7 rfl rfl, ⟨by decide +kernel, by decide +kernel, by decide +kernel⟩, by decide⟩
set_option maxRecDepth 100000 in
theorem zc_0 : xCal yX0_init cX0_init 3 none 2 := ⟨tl2 59 rfl, tc1 8 rfl rfl, ⟨by decide +kernel, by decide +kernel, by decide +kernel⟩, by decide⟩
set_option maxRecDepth 100000 in
theorem zc_8 : xCal yX8_init cX8_init 4 none 3 := ⟨tl2 84 rfl, tc1 9 rfl rfl, ⟨by decide +kernel, by decide +kernel, by decide +kernel⟩, by decide⟩
set_option maxRecDepth 100000 in
theorem zc_7 : xCal yX7_init cX7_init 3 none 2 := ⟨tl2 100 rfl, tc1 10 rfl rfl, ⟨by decide +kernel, by decide +kernel, by decide +kernel⟩, by decide⟩
set_option maxRecDepth 100000 in
theorem zc_6 : xCal yX6_init cX6_init 3 none 2 := ⟨tl2 147 rfl, tc1 11 rfl rfl, ⟨by decide +kernel, by decide +kernel, by decide +kernel⟩, by decide⟩
set_option maxRecDepth 100000 in
theorem zc_4 : xCal yX4_init cX4_init 1 none 0 := ⟨tl2 163 rfl, tc1 12 rfl rfl, ⟨by decide +kernel, by decide +kernel, by decide +kernel⟩, by decide⟩
set_option maxRecDepth 100000 in
theorem zc_10 : xCal yX10_init cX10_init 2 none 0 := ⟨tl1 29 rfl, tc1 1 rfl rfl, ⟨by decide +kernel, by decide +kernel, by decide +kernel⟩, by decide⟩
set_option maxRecDepth 100000 in
theorem zc_11 : xCal yX11_init cX11_init 1 none 0 := ⟨tl6 227 rfl, tc1 13 rfl rfl, ⟨by decide +kernel, by decide +kernel, by decide +kernel⟩, by decide⟩
theorem zf_10 : ∀ j, j < 19 → defaultValue (tyX10 j) = vp_V [.null, .null, .null, .null, .null, .null, .null, .null, .null, .null, .null, .null, .null, .null, .null, .null, .null, iV 0, iV 0] j := by decide +kernel
theorem zf_2 : ∀ j, j < 15 → defaultValue (tyX2 j) = vp_V [iV 0, iV 0, iV 0, iV 0, iV 0, iV 0, iV 0, .null, .null, .null, .null, .null, .null, .null, .null] j := by decide +kernel
theorem zf_5 : ∀ j, j < 14 → defaultValue (tyX5 j) = vp_V [iV 0, iV 0, iV 0, .null, .null, .null, .null, iV 0, iV 0, iV 0, iV 0, iV 0, iV 0, iV 0] j := by decide +kernel
theorem zf_1 : ∀ j, j < 11 → defaultValue (tyX1 j) = vp_V [.null, .null, .null, .null, .null, .null, .null, .null, .null, .null, .null] j := by decide +kernel
theorem zf_3 : ∀ j, j < 4 → defaultValue (tyX3 j) = vp_V [.null, .null, .null, .null] j := by decide +kernel
theorem zf_9 : ∀ j, j < 18 → defaultValue (tyX9 j) = vp_V [iV 0, iV 0, iV 0, iV 0, iV 0, iV 0, .null, .null, .null, .null, .null, iV 0, iV 0, iV 0, iV 0, iV 0, iV 0, iV 0] j := by decide +kernel
theorem zf_0 : ∀ j, j < 6 → defaultValue (tyX0 j) = vp_V [.null, .null, .null, .null, iV 0, iV 0] j := by decide +kernel
theorem zf_8 : ∀ j, j < 3 → defaultValue (tyX8 j) = vp_V [.null, .null, .null] j := by decide +kernel
theorem zf_7 : ∀ j, j < 13 → defaultValue (tyX7 j) = vp_V [.null, .null, .null, .null, .null, .null, .null, .null, .null, iV 0, iV 0, iV 0, iV 0] j := by decide +kernel
theorem zf_6 : ∀ j, j < 3 → defaultValue (tyX6 j) = vp_V [.null, .null, .null] j := by decide +kernel
theorem zf_4 : ∀ j, j < 4 → defaultValue (tyX4 j) = vp_V [iV 0, iV 0, iV 0, .null] j := by decide +kernel
theorem zf_11 : ∀ j, j < 38 → defaultValue (tyX11 j) = vp_V [iV 0, .null, iV 0, iV 0, iV 0, iV 0, iV 0, iV 0, iV 0, iV 0, iV 0, iV 0, .null, iV 0, iV 0, .null, .null, .null, .null, iV 0, .null, .null, .null, .null, .null, .null, .null, .null, .null, iV 0, iV 0, iV 0, iV 0, iV 0, .null, .null, .null, .null] j := by decide +kernel
