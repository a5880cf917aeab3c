set_option maxRecDepth 100000 in
theorem c_bipush_96 : (Int8.ofInt 96).toInt32 = (96 : Int32) := by decide
set_option maxRecDepth 100000 in
theorem c_bipush_11 : (Int8.ofInt 11).toInt32 = (11 : Int32) := by decide
set_option maxRecDepth 100000 in
theorem c_sipush_180 : (Int16.ofInt 180).toInt32 = (180 : Int32) := by decide
set_option maxRecDepth 100000 in
theorem c_bipush_119 : (Int8.ofInt 119).toInt32 = (119 : Int32) := by decide
set_option maxRecDepth 100000 in
theorem c_sipush_441 : (Int16.ofInt 441).toInt32 = (441 : Int32) := by decide
set_option maxRecDepth 100000 in
theorem c_sipush_1800 : (Int16.ofInt 1800).toInt32 = (1800 : Int32) := by decide
set_option maxRecDepth 100000 in
theorem c_sipush_3200 : (Int16.ofInt 3200).toInt32 = (3200 : Int32) := by decide
set_option maxRecDepth 100000 in
theorem c_sipush_500 : (Int16.ofInt 500).toInt32 = (500 : Int32) := by decide
set_option maxRecDepth 100000 in
theorem c_sipush_132 : (Int16.ofInt 132).toInt32 = (132 : Int32) := by decide
set_option maxRecDepth 100000 in
theorem c_sipush_8448 : (Int16.ofInt 8448).toInt32 = (8448 : Int32) := by decide
set_option maxRecDepth 100000 in
theorem c_sipush_2640 : (Int16.ofInt 2640).toInt32 = (2640 : Int32) := by decide
set_option maxRecDepth 100000 in
theorem fl_RX0_12 : zFL RX0 12 0 0 2 := ⟨⟨by decide, by decide, rfl⟩, zW2 102 rfl rfl⟩
set_option maxRecDepth 100000 in
theorem cb_RX6_24 : zCB RX6 24 yX6_listWords cX6_listWords 8 (some .int) 3 ∧ Cond.static yX6_listWords ∈ zTb := ⟨⟨zW2 189 rfl rfl, zW1 12 rfl rfl, zW2 191 rfl rfl, ⟨by decide +kernel, by decide +kernel, by decide +kernel⟩⟩, zW2 190 rfl rfl⟩
set_option maxRecDepth 100000 in
theorem zac_20 : Cond.arrayClass (zAT 20) ∈ zTb := zW1 46 rfl rfl
set_option maxRecDepth 100000 in
theorem zac_21 : Cond.arrayClass (zAT 21) ∈ zTb := zW2 101 rfl rfl
set_option maxRecDepth 100000 in
theorem zac_22 : Cond.arrayClass (zAT 22) ∈ zTb := zW7 55 rfl rfl
set_option maxRecDepth 100000 in
theorem nw_RX5_9 : Cond.classLink RX5 9 (zNm 8) ∈ zTb ∧ Cond.instantiable (zNm 8) (zN 8) ∈ zTb ∧ Cond.initialized (zNm 8) ∈ zTb ∧ 8 < 13 ∧ zN 8 = 5 := ⟨zW1 135 rfl rfl, zW1 137 rfl rfl, zW1 6 rfl rfl, by decide, rfl⟩
set_option maxRecDepth 100000 in
theorem nw_RX7_9 : Cond.classLink RX7 9 (zNm 5) ∈ zTb ∧ Cond.instantiable (zNm 5) (zN 5) ∈ zTb ∧ Cond.initialized (zNm 5) ∈ zTb ∧ 5 < 13 ∧ zN 5 = 2 := ⟨zW1 194 rfl rfl, zW1 130 rfl rfl, zW1 5 rfl rfl, by decide, rfl⟩
set_option maxRecDepth 100000 in
theorem nw_RX0_9 : Cond.classLink RX0 9 (zNm 1) ∈ zTb ∧ Cond.instantiable (zNm 1) (zN 1) ∈ zTb ∧ Cond.initialized (zNm 1) ∈ zTb ∧ 1 < 13 ∧ zN 1 = 13 := ⟨zW2 37 rfl rfl, zW2 38 rfl rfl, zW1 11 rfl rfl, by decide, rfl⟩
set_option maxRecDepth 100000 in
theorem nw_RX11_16 : Cond.classLink RX11 16 (zNm 10) ∈ zTb ∧ Cond.instantiable (zNm 10) (zN 10) ∈ zTb ∧ Cond.initialized (zNm 10) ∈ zTb ∧ 10 < 13 ∧ zN 10 = 3 := ⟨zW1 30 rfl rfl, zW1 31 rfl rfl, zW1 2 rfl rfl, by decide, rfl⟩
set_option maxRecDepth 100000 in
theorem nw_RX11_23 : Cond.classLink RX11 23 (zNm 2) ∈ zTb ∧ Cond.instantiable (zNm 2) (zN 2) ∈ zTb ∧ Cond.initialized (zNm 2) ∈ zTb ∧ 2 < 13 ∧ zN 2 = 10 := ⟨zW1 47 rfl rfl, zW1 48 rfl rfl, zW1 3 rfl rfl, by decide, rfl⟩
set_option maxRecDepth 100000 in
theorem nw_RX11_30 : Cond.classLink RX11 30 (zNm 3) ∈ zTb ∧ Cond.instantiable (zNm 3) (zN 3) ∈ zTb ∧ Cond.initialized (zNm 3) ∈ zTb ∧ 3 < 13 ∧ zN 3 = 8 := ⟨zW1 92 rfl rfl, zW1 93 rfl rfl, zW1 4 rfl rfl, by decide, rfl⟩
set_option maxRecDepth 100000 in
theorem nw_RX11_39 : Cond.classLink RX11 39 (zNm 5) ∈ zTb ∧ Cond.instantiable (zNm 5) (zN 5) ∈ zTb ∧ Cond.initialized (zNm 5) ∈ zTb ∧ 5 < 13 ∧ zN 5 = 2 := ⟨zW1 129 rfl rfl, zW1 130 rfl rfl, zW1 5 rfl rfl, by decide, rfl⟩
set_option maxRecDepth 100000 in
theorem nw_RX11_49 : Cond.classLink RX11 49 (zNm 8) ∈ zTb ∧ Cond.instantiable (zNm 8) (zN 8) ∈ zTb ∧ Cond.initialized (zNm 8) ∈ zTb ∧ 8 < 13 ∧ zN 8 = 5 := ⟨zW1 186 rfl rfl, zW1 137 rfl rfl, zW1 6 rfl rfl, by decide, rfl⟩
set_option maxRecDepth 100000 in
theorem nw_RX11_58 : Cond.classLink RX11 58 (zNm 7) ∈ zTb ∧ Cond.instantiable (zNm 7) (zN 7) ∈ zTb ∧ Cond.initialized (zNm 7) ∈ zTb ∧ 7 < 13 ∧ zN 7 = 6 := ⟨zW1 188 rfl rfl, zW1 189 rfl rfl, zW1 7 rfl rfl, by decide, rfl⟩
set_option maxRecDepth 100000 in
theorem nw_RX11_65 : Cond.classLink RX11 65 (zNm 9) ∈ zTb ∧ Cond.instantiable (zNm 9) (zN 9) ∈ zTb ∧ Cond.initialized (zNm 9) ∈ zTb ∧ 9 < 13 ∧ zN 9 = 9 := ⟨zW1 217 rfl rfl, zW1 218 rfl rfl, zW1 8 rfl rfl, by decide, rfl⟩
set_option maxRecDepth 100000 in
theorem nw_RX11_72 : Cond.classLink RX11 72 (zNm 4) ∈ zTb ∧ Cond.instantiable (zNm 4) (zN 4) ∈ zTb ∧ Cond.initialized (zNm 4) ∈ zTb ∧ 4 < 13 ∧ zN 4 = 2 := ⟨zW2 16 rfl rfl, zW2 17 rfl rfl, zW1 9 rfl rfl, by decide, rfl⟩
set_option maxRecDepth 100000 in
theorem nw_RX11_79 : Cond.classLink RX11 79 (zNm 0) ∈ zTb ∧ Cond.instantiable (zNm 0) (zN 0) ∈ zTb ∧ Cond.initialized (zNm 0) ∈ zTb ∧ 0 < 13 ∧ zN 0 = 15 := ⟨zW2 31 rfl rfl, zW2 32 rfl rfl, zW1 10 rfl rfl, by decide, rfl⟩
set_option maxRecDepth 100000 in
theorem nw_RX11_89 : Cond.classLink RX11 89 (zNm 6) ∈ zTb ∧ Cond.instantiable (zNm 6) (zN 6) ∈ zTb ∧ Cond.initialized (zNm 6) ∈ zTb ∧ 6 < 13 ∧ zN 6 = 13 := ⟨zW2 182 rfl rfl, zW2 183 rfl rfl, zW1 12 rfl rfl, by decide, rfl⟩
set_option maxRecDepth 100000 in
theorem na_RX5_9 : Cond.classLink RX5 9 (zNm 8) ∈ zTb := zW1 135 rfl rfl
set_option maxRecDepth 100000 in
theorem na_RX7_9 : Cond.classLink RX7 9 (zNm 5) ∈ zTb := zW1 194 rfl rfl
set_option maxRecDepth 100000 in
theorem oi_RX8_3 : Cond.methodLink RX8 3 Lib.objectInit ∈ zTb ∧ Cond.instanceMethod Lib.objectInit ∈ zTb ∧ Cond.code Lib.objectInit ⟨#[0xb1]⟩ 1 none ∈ zTb := ⟨zW1 141 rfl rfl, zW1 28 rfl rfl, zW1 29 rfl rfl⟩
set_option maxRecDepth 100000 in
theorem oi_RX5_3 : Cond.methodLink RX5 3 Lib.objectInit ∈ zTb ∧ Cond.instanceMethod Lib.objectInit ∈ zTb ∧ Cond.code Lib.objectInit ⟨#[0xb1]⟩ 1 none ∈ zTb := ⟨zW1 134 rfl rfl, zW1 28 rfl rfl, zW1 29 rfl rfl⟩
set_option maxRecDepth 100000 in
theorem oi_RX10_3 : Cond.methodLink RX10 3 Lib.objectInit ∈ zTb ∧ Cond.instanceMethod Lib.objectInit ∈ zTb ∧ Cond.code Lib.objectInit ⟨#[0xb1]⟩ 1 none ∈ zTb := ⟨zW1 35 rfl rfl, zW1 28 rfl rfl, zW1 29 rfl rfl⟩
set_option maxRecDepth 100000 in
theorem oi_RX2_3 : Cond.methodLink RX2 3 Lib.objectInit ∈ zTb ∧ Cond.instanceMethod Lib.objectInit ∈ zTb ∧ Cond.code Lib.objectInit ⟨#[0xb1]⟩ 1 none ∈ zTb := ⟨zW1 52 rfl rfl, zW1 28 rfl rfl, zW1 29 rfl rfl⟩
set_option maxRecDepth 100000 in
theorem oi_RX3_3 : Cond.methodLink RX3 3 Lib.objectInit ∈ zTb ∧ Cond.instanceMethod Lib.objectInit ∈ zTb ∧ Cond.code Lib.objectInit ⟨#[0xb1]⟩ 1 none ∈ zTb := ⟨zW1 97 rfl rfl, zW1 28 rfl rfl, zW1 29 rfl rfl⟩
set_option maxRecDepth 100000 in
theorem oi_RX7_3 : Cond.methodLink RX7 3 Lib.objectInit ∈ zTb ∧ Cond.instanceMethod Lib.objectInit ∈ zTb ∧ Cond.code Lib.objectInit ⟨#[0xb1]⟩ 1 none ∈ zTb := ⟨zW1 193 rfl rfl, zW1 28 rfl rfl, zW1 29 rfl rfl⟩
set_option maxRecDepth 100000 in
theorem oi_RX9_3 : Cond.methodLink RX9 3 Lib.objectInit ∈ zTb ∧ Cond.instanceMethod Lib.objectInit ∈ zTb ∧ Cond.code Lib.objectInit ⟨#[0xb1]⟩ 1 none ∈ zTb := ⟨zW1 222 rfl rfl, zW1 28 rfl rfl, zW1 29 rfl rfl⟩
set_option maxRecDepth 100000 in
theorem oi_RX4_3 : Cond.methodLink RX4 3 Lib.objectInit ∈ zTb ∧ Cond.instanceMethod Lib.objectInit ∈ zTb ∧ Cond.code Lib.objectInit ⟨#[0xb1]⟩ 1 none ∈ zTb := ⟨zW2 21 rfl rfl, zW1 28 rfl rfl, zW1 29 rfl rfl⟩
set_option maxRecDepth 100000 in
theorem oi_RX1_3 : Cond.methodLink RX1 3 Lib.objectInit ∈ zTb ∧ Cond.instanceMethod Lib.objectInit ∈ zTb ∧ Cond.code Lib.objectInit ⟨#[0xb1]⟩ 1 none ∈ zTb := ⟨zW2 42 rfl rfl, zW1 28 rfl rfl, zW1 29 rfl rfl⟩
set_option maxRecDepth 100000 in
theorem oi_RX0_3 : Cond.methodLink RX0 3 Lib.objectInit ∈ zTb ∧ Cond.instanceMethod Lib.objectInit ∈ zTb ∧ Cond.code Lib.objectInit ⟨#[0xb1]⟩ 1 none ∈ zTb := ⟨zW2 36 rfl rfl, zW1 28 rfl rfl, zW1 29 rfl rfl⟩
set_option maxRecDepth 100000 in
theorem oi_RX6_3 : Cond.methodLink RX6 3 Lib.objectInit ∈ zTb ∧ Cond.instanceMethod Lib.objectInit ∈ zTb ∧ Cond.code Lib.objectInit ⟨#[0xb1]⟩ 1 none ∈ zTb := ⟨zW2 187 rfl rfl, zW1 28 rfl rfl, zW1 29 rfl rfl⟩
set_option maxRecDepth 100000 in
theorem oi_RX11_3 : Cond.methodLink RX11 3 Lib.objectInit ∈ zTb ∧ Cond.instanceMethod Lib.objectInit ∈ zTb ∧ Cond.code Lib.objectInit ⟨#[0xb1]⟩ 1 none ∈ zTb := ⟨zW1 27 rfl rfl, zW1 28 rfl rfl, zW1 29 rfl rfl⟩
set_option maxRecDepth 100000 in
theorem oi_RX12_1 : Cond.methodLink RX12 1 Lib.objectInit ∈ zTb ∧ Cond.instanceMethod Lib.objectInit ∈ zTb ∧ Cond.code Lib.objectInit ⟨#[0xb1]⟩ 1 none ∈ zTb := ⟨zW6 65 rfl rfl, zW1 28 rfl rfl, zW1 29 rfl rfl⟩
set_option maxRecDepth 100000 in
theorem ic_RX5_17 : (zCB RX5 17 yX8_init cX8_init 2 none 1 ∨ zCN RX5 17 yX8_init cX8_init 2 none 1) ∧ yX8_init.name = "<init>" ∧ Cond.instanceMethod yX8_init ∈ zTb := ⟨Or.inl ⟨zW1 138 rfl rfl, zW1 6 rfl rfl, zW1 140 rfl rfl, ⟨by decide +kernel, by decide +kernel, by decide +kernel⟩⟩, rfl, zW1 139 rfl rfl⟩
set_option maxRecDepth 100000 in
theorem ic_RX7_24 : (zCB RX7 24 yX5_init cX5_init 2 none 0 ∨ zCN RX7 24 yX5_init cX5_init 2 none 0) ∧ yX5_init.name = "<init>" ∧ Cond.instanceMethod yX5_init ∈ zTb := ⟨Or.inl ⟨zW1 196 rfl rfl, zW1 5 rfl rfl, zW1 133 rfl rfl, ⟨by decide +kernel, by decide +kernel, by decide +kernel⟩⟩, rfl, zW1 132 rfl rfl⟩
set_option maxRecDepth 100000 in
theorem ic_RX0_11 : (zCB RX0 11 yX1_init cX1_init 1 none 0 ∨ zCN RX0 11 yX1_init cX1_init 1 none 0) ∧ yX1_init.name = "<init>" ∧ Cond.instanceMethod yX1_init ∈ zTb := ⟨Or.inr ⟨⟨_, List.mem_of_getElem? (i := 5) (by rfl)⟩, zW1 11 rfl rfl, zW2 41 rfl rfl, ⟨by decide +kernel, by decide +kernel, by decide +kernel⟩⟩, rfl, zW2 40 rfl rfl⟩
set_option maxRecDepth 100000 in
theorem ic_RX11_18 : (zCB RX11 18 yX10_init cX10_init 1 none 0 ∨ zCN RX11 18 yX10_init cX10_init 1 none 0) ∧ yX10_init.name = "<init>" ∧ Cond.instanceMethod yX10_init ∈ zTb := ⟨Or.inr ⟨⟨_, List.mem_of_getElem? (i := 0) (by rfl)⟩, zW1 2 rfl rfl, zW1 34 rfl rfl, ⟨by decide +kernel, by decide +kernel, by decide +kernel⟩⟩, rfl, zW1 33 rfl rfl⟩
set_option maxRecDepth 100000 in
theorem ic_RX11_25 : (zCB RX11 25 yX2_init cX2_init 1 none 0 ∨ zCN RX11 25 yX2_init cX2_init 1 none 0) ∧ yX2_init.name = "<init>" ∧ Cond.instanceMethod yX2_init ∈ zTb := ⟨Or.inr ⟨⟨_, List.mem_of_getElem? (i := 1) (by rfl)⟩, zW1 3 rfl rfl, zW1 51 rfl rfl, ⟨by decide +kernel, by decide +kernel, by decide +kernel⟩⟩, rfl, zW1 50 rfl rfl⟩
set_option maxRecDepth 100000 in
theorem ic_RX11_32 : (zCB RX11 32 yX3_init cX3_init 3 none 2 ∨ zCN RX11 32 yX3_init cX3_init 3 none 2) ∧ yX3_init.name = "<init>" ∧ Cond.instanceMethod yX3_init ∈ zTb := ⟨Or.inl ⟨zW1 94 rfl rfl, zW1 4 rfl rfl, zW1 96 rfl rfl, ⟨by decide +kernel, by decide +kernel, by decide +kernel⟩⟩, rfl, zW1 95 rfl rfl⟩
set_option maxRecDepth 100000 in
theorem ic_RX11_41 : (zCB RX11 41 yX5_init cX5_init 2 none 0 ∨ zCN RX11 41 yX5_init cX5_init 2 none 0) ∧ yX5_init.name = "<init>" ∧ Cond.instanceMethod yX5_init ∈ zTb := ⟨Or.inl ⟨zW1 131 rfl rfl, zW1 5 rfl rfl, zW1 133 rfl rfl, ⟨by decide +kernel, by decide +kernel, by decide +kernel⟩⟩, rfl, zW1 132 rfl rfl⟩
set_option maxRecDepth 100000 in
theorem ic_RX11_51 : (zCB RX11 51 yX8_init cX8_init 2 none 1 ∨ zCN RX11 51 yX8_init cX8_init 2 none 1) ∧ yX8_init.name = "<init>" ∧ Cond.instanceMethod yX8_init ∈ zTb := ⟨Or.inl ⟨zW1 187 rfl rfl, zW1 6 rfl rfl, zW1 140 rfl rfl, ⟨by decide +kernel, by decide +kernel, by decide +kernel⟩⟩, rfl, zW1 139 rfl rfl⟩
set_option maxRecDepth 100000 in
theorem ic_RX11_60 : (zCB RX11 60 yX7_init cX7_init 2 none 0 ∨ zCN RX11 60 yX7_init cX7_init 2 none 0) ∧ yX7_init.name = "<init>" ∧ Cond.instanceMethod yX7_init ∈ zTb := ⟨Or.inl ⟨zW1 190 rfl rfl, zW1 7 rfl rfl, zW1 192 rfl rfl, ⟨by decide +kernel, by decide +kernel, by decide +kernel⟩⟩, rfl, zW1 191 rfl rfl⟩
set_option maxRecDepth 100000 in
theorem ic_RX11_67 : (zCB RX11 67 yX9_init cX9_init 1 none 0 ∨ zCN RX11 67 yX9_init cX9_init 1 none 0) ∧ yX9_init.name = "<init>" ∧ Cond.instanceMethod yX9_init ∈ zTb := ⟨Or.inr ⟨⟨_, List.mem_of_getElem? (i := 2) (by rfl)⟩, zW1 8 rfl rfl, zW1 221 rfl rfl, ⟨by decide +kernel, by decide +kernel, by decide +kernel⟩⟩, rfl, zW1 220 rfl rfl⟩
set_option maxRecDepth 100000 in
theorem ic_RX11_74 : (zCB RX11 74 yX4_init cX4_init 1 none 0 ∨ zCN RX11 74 yX4_init cX4_init 1 none 0) ∧ yX4_init.name = "<init>" ∧ Cond.instanceMethod yX4_init ∈ zTb := ⟨Or.inr ⟨⟨_, List.mem_of_getElem? (i := 3) (by rfl)⟩, zW1 9 rfl rfl, zW2 20 rfl rfl, ⟨by decide +kernel, by decide +kernel, by decide +kernel⟩⟩, rfl, zW2 19 rfl rfl⟩
set_option maxRecDepth 100000 in
theorem ic_RX11_81 : (zCB RX11 81 yX0_init cX0_init 1 none 0 ∨ zCN RX11 81 yX0_init cX0_init 1 none 0) ∧ yX0_init.name = "<init>" ∧ Cond.instanceMethod yX0_init ∈ zTb := ⟨Or.inr ⟨⟨_, List.mem_of_getElem? (i := 4) (by rfl)⟩, zW1 10 rfl rfl, zW2 35 rfl rfl, ⟨by decide +kernel, by decide +kernel, by decide +kernel⟩⟩, rfl, zW2 34 rfl rfl⟩
set_option maxRecDepth 100000 in
theorem ic_RX11_91 : (zCB RX11 91 yX6_init cX6_init 4 none 2 ∨ zCN RX11 91 yX6_init cX6_init 4 none 2) ∧ yX6_init.name = "<init>" ∧ Cond.instanceMethod yX6_init ∈ zTb := ⟨Or.inl ⟨zW2 184 rfl rfl, zW1 12 rfl rfl, zW2 186 rfl rfl, ⟨by decide +kernel, by decide +kernel, by decide +kernel⟩⟩, rfl, zW2 185 rfl rfl⟩
set_option maxRecDepth 100000 in
def dt_X8_init : List (Nat × Instr × Nat) := [(0, .aload_n 0, 1), (1, .invokespecial 3, 3), (4, .aload_n 0, 1), (5, .bipush 63, 2), (7, .newarray .int, 2), (9, .putfield 9, 3), (12, .aload_n 0, 1), (13, .iload_n 1, 1), (14, .putfield 15, 3), (17, .return_, 1)]
set_option maxRecDepth 100000 in
theorem dk_X8_init : dt_X8_init.all (fun q => decide (decode cX8_init q.1 = .ok q.2)) = true := by decide +kernel
set_option maxRecDepth 100000 in
def f_X8_init (n : Nat) (r0 : Nat) (x1 : Int32) (M : Mem) : Option Mem := if zSH n = (20, 63) then Option.bind (some (znew M n)) fun M2 => Option.bind (some (zsR M2 r0 0 (n + 1))) fun M4 => Option.bind (some (zsI M4 r0 1 x1)) fun M5 => some M5 else none
set_option maxRecDepth 100000 in
set_option maxHeartbeats 8000000 in
theorem x_X8_init {κ : KX} {n : Nat} (hC : CX κ cX8_init RX8 2 none 1) (hE : zEnd κ (n + 1) (1, 63)) (hk0 : zRk κ (1, 63)) (hIn : zInit κ) (hAO : zAOk κ) (r0 : Nat) (x1 : Int32) (M : Mem) (h_r0 : zO n r0 8) : X κ 2 emV n (0, 0) 0 [.ref r0, .int x1] [] M (f_X8_init n r0 x1 M) := by
  unfold f_X8_init
  refine x_aload_n (i := 0) rfl hC (zdk dk_X8_init 0 rfl) (q := 1) rfl ?_
  refine x_oinit oi_RX8_3 hC (zdk dk_X8_init 1 rfl) (q := 4) rfl (Nat.le_of_ble_eq_true rfl) ?_
  refine x_aload_n (i := 0) rfl hC (zdk dk_X8_init 2 rfl) (q := 5) rfl ?_
  refine x_bipush (i := 63) c_bipush_63 hC (zdk dk_X8_init 3 rfl) (q := 7) rfl ?_
  refine x_if (fun hs3 => ?_)
  refine x_newa (k := 20) zac_20 (by decide) rfl (N := 63) (by decide) hs3 (n2 := n + 1) rfl (cs2 := (1, 63)) rfl (zRk_le hk0 (by decide) (by decide)) hC (zdk dk_X8_init 4 rfl) (q := 9) rfl (fun hn1 => ?_)
  refine x_nmM (fun M2 => ?_)
  refine x_putR (k := 20) fl_RX8_9 (fun _ => ⟨rfl, rfl⟩) rfl hn1 (Or.inr ⟨hIn, rfl⟩) (zO_le h_r0 (by omega)) hC (zdk dk_X8_init 5 rfl) (q := 12) rfl ?_
  refine x_nmM (fun M4 => ?_)
  refine x_aload_n (i := 0) rfl hC (zdk dk_X8_init 6 rfl) (q := 13) rfl ?_
  refine x_iload_n (i := 1) rfl hC (zdk dk_X8_init 7 rfl) (q := 14) rfl ?_
  refine x_putI fl_RX8_15 ⟨rfl, rfl⟩ (by decide) (Or.inr ⟨hIn, rfl⟩) (zO_le h_r0 (by omega)) hC (zdk dk_X8_init 8 rfl) (q := 17) rfl ?_
  refine x_nmM (fun M5 => ?_)
  exact x_vret hE hC (zdk dk_X8_init 9 rfl)
set_option maxRecDepth 100000 in
set_option maxHeartbeats 8000000 in
theorem t_X8_init {n : Nat} {r0 : Nat} {x1 : Int32} {M : Mem} (h_r0 : zO n r0 8) (x : Mem) (hx : f_X8_init n r0 x1 M = some x) (l : Launch) (dC : Nat → ClassId) (dI : Nat → Nat → Nat) (b : zSg) : MTc l dC dI b yX8_init cX8_init 2 1 1 63 n (n + 1) [.ref r0, .int x1] M x :=
  MTc.ofX (by decide +kernel) rfl (Nat.le_of_ble_eq_true rfl) (fun κ hC hF hN hAO => x_X8_init hC (zEnd_of hF (Nat.le_refl _) (Nat.le_refl _)) (zRk_of hF (Nat.le_refl _) (Nat.le_refl _)) (zInit_of hN rfl) hAO _ _ _ h_r0) x hx
set_option maxRecDepth 100000 in
def dt_X5_init : List (Nat × Instr × Nat) := [(0, .aload_n 0, 1), (1, .invokespecial 3, 3), (4, .aload_n 0, 1), (5, .bipush 6, 2), (7, .anewarray 9, 3), (10, .putfield 11, 3), (13, .iconst 0, 1), (14, .istore_n 1, 1), (15, .iload_n 1, 1), (16, .bipush 6, 2), (18, .if_icmp .ge 23, 3), (21, .aload_n 0, 1), (22, .getfield 11, 3), (25, .iload_n 1, 1), (26, .new 9, 3), (29, .dup, 1), (30, .iload_n 1, 1), (31, .invokespecial 17, 3), (34, .aastore, 1), (35, .iinc 1 1, 3), (38, .goto (-23), 3), (41, .return_, 1)]
set_option maxRecDepth 100000 in
theorem dk_X5_init : dt_X5_init.all (fun q => decide (decode cX5_init q.1 = .ok q.2)) = true := by decide +kernel
set_option maxRecDepth 100000 in
def f_X5_init (n : Nat) (r0 : Nat) (M : Mem) : Option Mem := if zSH n = (23, 6) then Option.bind (some (znew M n)) fun M2 => Option.bind (some (zsR M2 r0 0 (n + 1))) fun M4 => Option.bind (zrf M4 r0 0) fun q5 => if zSH (n + 1) = (8, 5) then Option.bind (some (znew M4 (n + 1))) fun M7 => Option.bind (f_X8_init (n + 2) (n + 1) 0 M7) fun M9 => Option.bind (zld q5 0) fun k10 => Option.bind (some (zsR M9 q5 k10 (n + 1 + 1))) fun M11 => Option.bind (zrf M11 r0 0) fun q12 => if zSH (n + 3) = (8, 5) then Option.bind (some (znew M11 (n + 3))) fun M14 => Option.bind (f_X8_init (n + 4) (n + 3) 1 M14) fun M16 => Option.bind (zld q12 1) fun k17 => Option.bind (some (zsR M16 q12 k17 (n + 3 + 1))) fun M18 => Option.bind (zrf M18 r0 0) fun q19 => if zSH (n + 5) = (8, 5) then Option.bind (some (znew M18 (n + 5))) fun M21 => Option.bind (f_X8_init (n + 6) (n + 5) 2 M21) fun M23 => Option.bind (zld q19 2) fun k24 => Option.bind (some (zsR M23 q19 k24 (n + 5 + 1))) fun M25 => Option.bind (zrf M25 r0 0) fun q26 => if zSH (n + 7) = (8, 5) then Option.bind (some (znew M25 (n + 7))) fun M28 => Option.bind (f_X8_init (n + 8) (n + 7) 3 M28) fun M30 => Option.bind (zld q26 3) fun k31 => Option.bind (some (zsR M30 q26 k31 (n + 7 + 1))) fun M32 => Option.bind (zrf M32 r0 0) fun q33 => if zSH (n + 9) = (8, 5) then Option.bind (some (znew M32 (n + 9))) fun M35 => Option.bind (f_X8_init (n + 10) (n + 9) 4 M35) fun M37 => Option.bind (zld q33 4) fun k38 => Option.bind (some (zsR M37 q33 k38 (n + 9 + 1))) fun M39 => Option.bind (zrf M39 r0 0) fun q40 => if zSH (n + 11) = (8, 5) then Option.bind (some (znew M39 (n + 11))) fun M42 => Option.bind (f_X8_init (n + 12) (n + 11) 5 M42) fun M44 => Option.bind (zld q40 5) fun k45 => Option.bind (some (zsR M44 q40 k45 (n + 11 + 1))) fun M46 => some M46 else none else none else none else none else none else none else none
set_option maxRecDepth 100000 in
set_option maxHeartbeats 8000000 in
theorem x_X5_init {κ : KX} {n : Nat} (hC : CX κ cX5_init RX5 2 none 2) (hE : zEnd κ (n + 13) (13, 414)) (hk0 : zRk κ (13, 414)) (hIn : zInit κ) (hAO : zAOk κ) (r0 : Nat) (M : Mem) (h_r0 : zO n r0 5) : X κ 2 emV n (0, 0) 0 [.ref r0, .null] [] M (f_X5_init n r0 M) := by
  unfold f_X5_init
  refine x_aload_n (i := 0) rfl hC (zdk dk_X5_init 0 rfl) (q := 1) rfl ?_
  refine x_oinit oi_RX5_3 hC (zdk dk_X5_init 1 rfl) (q := 4) rfl (Nat.le_of_ble_eq_true rfl) ?_
  refine x_aload_n (i := 0) rfl hC (zdk dk_X5_init 2 rfl) (q := 5) rfl ?_
  refine x_bipush (i := 6) c_bipush_6 hC (zdk dk_X5_init 3 rfl) (q := 7) rfl ?_
  refine x_if (fun hs3 => ?_)
  refine x_anew (k := 23) hAO na_RX5_9 (by decide) rfl (N := 6) (by decide) hs3 (n2 := n + 1) rfl (cs2 := (1, 6)) rfl (zRk_le hk0 (by decide) (by decide)) hC (zdk dk_X5_init 4 rfl) (q := 10) rfl (fun hn1 => ?_)
  refine x_nmM (fun M2 => ?_)
  refine x_putR (k := 23) fl_RX5_11 (fun _ => ⟨rfl, rfl⟩) rfl hn1 (Or.inr ⟨hIn, rfl⟩) (zO_le h_r0 (by omega)) hC (zdk dk_X5_init 5 rfl) (q := 13) rfl ?_
  refine x_nmM (fun M4 => ?_)
  refine x_iconst (i := 0) c_iconst_0 hC (zdk dk_X5_init 6 rfl) (q := 14) rfl ?_
  refine x_istore_n (i := 1) (L' := [.ref r0, .int 0]) (by decide) rfl hC (zdk dk_X5_init 7 rfl) (q := 15) rfl ?_
  refine x_iload_n (i := 1) rfl hC (zdk dk_X5_init 8 rfl) (q := 16) rfl ?_
  refine x_bipush (i := 6) c_bipush_6 hC (zdk dk_X5_init 9 rfl) (q := 18) rfl ?_
  refine x_geF (by decide) hC (zdk dk_X5_init 10 rfl) (q := 21) rfl ?_
  refine x_aload_n (i := 0) rfl hC (zdk dk_X5_init 11 rfl) (q := 22) rfl ?_
  refine x_getR (k := 23) fl_RX5_11 rfl (zO_le h_r0 (by omega)) hC (zdk dk_X5_init 12 rfl) (q := 25) rfl (fun q5 hq5 => ?_)
  refine x_iload_n (i := 1) rfl hC (zdk dk_X5_init 13 rfl) (q := 26) rfl ?_
  refine x_if (fun hs8 => ?_)
  refine x_new nw_RX5_9 hs8 (n2 := n + 2) rfl (cs2 := (2, 11)) rfl (zRk_le hk0 (by decide) (by decide)) hC (zdk dk_X5_init 14 rfl) (q := 29) rfl (fun hn6 => ?_)
  refine x_nmM (fun M7 => ?_)
  refine x_dup rfl hC (zdk dk_X5_init 15 rfl) (q := 30) rfl ?_
  refine x_iload_n (i := 1) rfl hC (zdk dk_X5_init 16 rfl) (q := 31) rfl ?_
  refine x_callI (as := [.int 0]) (mc' := 1) (ms' := 63) (n2 := n + 3) ic_RX5_17 rfl (by decide) (cs2 := (3, 74)) rfl (zRk_le hk0 (by decide) (by decide)) (fun h => zO_lt hn6 h) hAO (fun x hx => t_X8_init hn6 x hx) hC (zdk dk_X5_init 17 rfl) (q := 34) rfl rfl (Nat.le_of_ble_eq_true rfl) (fun M9 => ?_)
  refine x_aast (kd := 23) (ke := 8) (zO_le hq5 (by omega)) (by decide) ⟨rfl, rfl, by decide⟩ (zO_le hn6 (by omega)) hC (zdk dk_X5_init 18 rfl) (q := 35) rfl (fun k10 _ => ?_)
  refine x_nmM (fun M11 => ?_)
  refine x_iinc (i := 1) c_iconst_1 rfl (by decide) (L' := [.ref r0, .int 1]) (by rw [show (0 : Int32) + 1 = 1 from by decide]; rfl) hC (zdk dk_X5_init 19 rfl) (q := 38) rfl ?_
  refine x_goto (tgt := 15) hC (zdk dk_X5_init 20 rfl) rfl ?_
  refine x_iload_n (i := 1) rfl hC (zdk dk_X5_init 8 rfl) (q := 16) rfl ?_
  refine x_bipush (i := 6) c_bipush_6 hC (zdk dk_X5_init 9 rfl) (q := 18) rfl ?_
  refine x_geF (by decide) hC (zdk dk_X5_init 10 rfl) (q := 21) rfl ?_
  refine x_aload_n (i := 0) rfl hC (zdk dk_X5_init 11 rfl) (q := 22) rfl ?_
  refine x_getR (k := 23) fl_RX5_11 rfl (zO_le h_r0 (by omega)) hC (zdk dk_X5_init 12 rfl) (q := 25) rfl (fun q12 hq12 => ?_)
  refine x_iload_n (i := 1) rfl hC (zdk dk_X5_init 13 rfl) (q := 26) rfl ?_
  refine x_if (fun hs15 => ?_)
  refine x_new nw_RX5_9 hs15 (n2 := n + 4) rfl (cs2 := (4, 79)) rfl (zRk_le hk0 (by decide) (by decide)) hC (zdk dk_X5_init 14 rfl) (q := 29) rfl (fun hn13 => ?_)
  refine x_nmM (fun M14 => ?_)
  refine x_dup rfl hC (zdk dk_X5_init 15 rfl) (q := 30) rfl ?_
  refine x_iload_n (i := 1) rfl hC (zdk dk_X5_init 16 rfl) (q := 31) rfl ?_
  refine x_callI (as := [.int 1]) (mc' := 1) (ms' := 63) (n2 := n + 5) ic_RX5_17 rfl (by decide) (cs2 := (5, 142)) rfl (zRk_le hk0 (by decide) (by decide)) (fun h => zO_lt hn13 h) hAO (fun x hx => t_X8_init hn13 x hx) hC (zdk dk_X5_init 17 rfl) (q := 34) rfl rfl (Nat.le_of_ble_eq_true rfl) (fun M16 => ?_)
  refine x_aast (kd := 23) (ke := 8) (zO_le hq12 (by omega)) (by decide) ⟨rfl, rfl, by decide⟩ (zO_le hn13 (by omega)) hC (zdk dk_X5_init 18 rfl) (q := 35) rfl (fun k17 _ => ?_)
  refine x_nmM (fun M18 => ?_)
  refine x_iinc (i := 1) c_iconst_1 rfl (by decide) (L' := [.ref r0, .int 2]) (by rw [show (1 : Int32) + 1 = 2 from by decide]; rfl) hC (zdk dk_X5_init 19 rfl) (q := 38) rfl ?_
  refine x_goto (tgt := 15) hC (zdk dk_X5_init 20 rfl) rfl ?_
  refine x_iload_n (i := 1) rfl hC (zdk dk_X5_init 8 rfl) (q := 16) rfl ?_
  refine x_bipush (i := 6) c_bipush_6 hC (zdk dk_X5_init 9 rfl) (q := 18) rfl ?_
  refine x_geF (by decide) hC (zdk dk_X5_init 10 rfl) (q := 21) rfl ?_
  refine x_aload_n (i := 0) rfl hC (zdk dk_X5_init 11 rfl) (q := 22) rfl ?_
  refine x_getR (k := 23) fl_RX5_11 rfl (zO_le h_r0 (by omega)) hC (zdk dk_X5_init 12 rfl) (q := 25) rfl (fun q19 hq19 => ?_)
  refine x_iload_n (i := 1) rfl hC (zdk dk_X5_init 13 rfl) (q := 26) rfl ?_
  refine x_if (fun hs22 => ?_)
  refine x_new nw_RX5_9 hs22 (n2 := n + 6) rfl (cs2 := (6, 147)) rfl (zRk_le hk0 (by decide) (by decide)) hC (zdk dk_X5_init 14 rfl) (q := 29) rfl (fun hn20 => ?_)
  refine x_nmM (fun M21 => ?_)
  refine x_dup rfl hC (zdk dk_X5_init 15 rfl) (q := 30) rfl ?_
  refine x_iload_n (i := 1) rfl hC (zdk dk_X5_init 16 rfl) (q := 31) rfl ?_
  refine x_callI (as := [.int 2]) (mc' := 1) (ms' := 63) (n2 := n + 7) ic_RX5_17 rfl (by decide) (cs2 := (7, 210)) rfl (zRk_le hk0 (by decide) (by decide)) (fun h => zO_lt hn20 h) hAO (fun x hx => t_X8_init hn20 x hx) hC (zdk dk_X5_init 17 rfl) (q := 34) rfl rfl (Nat.le_of_ble_eq_true rfl) (fun M23 => ?_)
  refine x_aast (kd := 23) (ke := 8) (zO_le hq19 (by omega)) (by decide) ⟨rfl, rfl, by decide⟩ (zO_le hn20 (by omega)) hC (zdk dk_X5_init 18 rfl) (q := 35) rfl (fun k24 _ => ?_)
  refine x_nmM (fun M25 => ?_)
  refine x_iinc (i := 1) c_iconst_1 rfl (by decide) (L' := [.ref r0, .int 3]) (by rw [show (2 : Int32) + 1 = 3 from by decide]; rfl) hC (zdk dk_X5_init 19 rfl) (q := 38) rfl ?_
  refine x_goto (tgt := 15) hC (zdk dk_X5_init 20 rfl) rfl ?_
  refine x_iload_n (i := 1) rfl hC (zdk dk_X5_init 8 rfl) (q := 16) rfl ?_
  refine x_bipush (i := 6) c_bipush_6 hC (zdk dk_X5_init 9 rfl) (q := 18) rfl ?_
  refine x_geF (by decide) hC (zdk dk_X5_init 10 rfl) (q := 21) rfl ?_
  refine x_aload_n (i := 0) rfl hC (zdk dk_X5_init 11 rfl) (q := 22) rfl ?_
  refine x_getR (k := 23) fl_RX5_11 rfl (zO_le h_r0 (by omega)) hC (zdk dk_X5_init 12 rfl) (q := 25) rfl (fun q26 hq26 => ?_)
  refine x_iload_n (i := 1) rfl hC (zdk dk_X5_init 13 rfl) (q := 26) rfl ?_
  refine x_if (fun hs29 => ?_)
  refine x_new nw_RX5_9 hs29 (n2 := n + 8) rfl (cs2 := (8, 215)) rfl (zRk_le hk0 (by decide) (by decide)) hC (zdk dk_X5_init 14 rfl) (q := 29) rfl (fun hn27 => ?_)
  refine x_nmM (fun M28 => ?_)
  refine x_dup rfl hC (zdk dk_X5_init 15 rfl) (q := 30) rfl ?_
  refine x_iload_n (i := 1) rfl hC (zdk dk_X5_init 16 rfl) (q := 31) rfl ?_
  refine x_callI (as := [.int 3]) (mc' := 1) (ms' := 63) (n2 := n + 9) ic_RX5_17 rfl (by decide) (cs2 := (9, 278)) rfl (zRk_le hk0 (by decide) (by decide)) (fun h => zO_lt hn27 h) hAO (fun x hx => t_X8_init hn27 x hx) hC (zdk dk_X5_init 17 rfl) (q := 34) rfl rfl (Nat.le_of_ble_eq_true rfl) (fun M30 => ?_)
  refine x_aast (kd := 23) (ke := 8) (zO_le hq26 (by omega)) (by decide) ⟨rfl, rfl, by decide⟩ (zO_le hn27 (by omega)) hC (zdk dk_X5_init 18 rfl) (q := 35) rfl (fun k31 _ => ?_)
  refine x_nmM (fun M32 => ?_)
  refine x_iinc (i := 1) c_iconst_1 rfl (by decide) (L' := [.ref r0, .int 4]) (by rw [show (3 : Int32) + 1 = 4 from by decide]; rfl) hC (zdk dk_X5_init 19 rfl) (q := 38) rfl ?_
  refine x_goto (tgt := 15) hC (zdk dk_X5_init 20 rfl) rfl ?_
  refine x_iload_n (i := 1) rfl hC (zdk dk_X5_init 8 rfl) (q := 16) rfl ?_
  refine x_bipush (i := 6) c_bipush_6 hC (zdk dk_X5_init 9 rfl) (q := 18) rfl ?_
  refine x_geF (by decide) hC (zdk dk_X5_init 10 rfl) (q := 21) rfl ?_
  refine x_aload_n (i := 0) rfl hC (zdk dk_X5_init 11 rfl) (q := 22) rfl ?_
  refine x_getR (k := 23) fl_RX5_11 rfl (zO_le h_r0 (by omega)) hC (zdk dk_X5_init 12 rfl) (q := 25) rfl (fun q33 hq33 => ?_)
  refine x_iload_n (i := 1) rfl hC (zdk dk_X5_init 13 rfl) (q := 26) rfl ?_
  refine x_if (fun hs36 => ?_)
  refine x_new nw_RX5_9 hs36 (n2 := n + 10) rfl (cs2 := (10, 283)) rfl (zRk_le hk0 (by decide) (by decide)) hC (zdk dk_X5_init 14 rfl) (q := 29) rfl (fun hn34 => ?_)
  refine x_nmM (fun M35 => ?_)
  refine x_dup rfl hC (zdk dk_X5_init 15 rfl) (q := 30) rfl ?_
  refine x_iload_n (i := 1) rfl hC (zdk dk_X5_init 16 rfl) (q := 31) rfl ?_
  refine x_callI (as := [.int 4]) (mc' := 1) (ms' := 63) (n2 := n + 11) ic_RX5_17 rfl (by decide) (cs2 := (11, 346)) rfl (zRk_le hk0 (by decide) (by decide)) (fun h => zO_lt hn34 h) hAO (fun x hx => t_X8_init hn34 x hx) hC (zdk dk_X5_init 17 rfl) (q := 34) rfl rfl (Nat.le_of_ble_eq_true rfl) (fun M37 => ?_)
  refine x_aast (kd := 23) (ke := 8) (zO_le hq33 (by omega)) (by decide) ⟨rfl, rfl, by decide⟩ (zO_le hn34 (by omega)) hC (zdk dk_X5_init 18 rfl) (q := 35) rfl (fun k38 _ => ?_)
  refine x_nmM (fun M39 => ?_)
  refine x_iinc (i := 1) c_iconst_1 rfl (by decide) (L' := [.ref r0, .int 5]) (by rw [show (4 : Int32) + 1 = 5 from by decide]; rfl) hC (zdk dk_X5_init 19 rfl) (q := 38) rfl ?_
  refine x_goto (tgt := 15) hC (zdk dk_X5_init 20 rfl) rfl ?_
  refine x_iload_n (i := 1) rfl hC (zdk dk_X5_init 8 rfl) (q := 16) rfl ?_
  refine x_bipush (i := 6) c_bipush_6 hC (zdk dk_X5_init 9 rfl) (q := 18) rfl ?_
  refine x_geF (by decide) hC (zdk dk_X5_init 10 rfl) (q := 21) rfl ?_
  refine x_aload_n (i := 0) rfl hC (zdk dk_X5_init 11 rfl) (q := 22) rfl ?_
  refine x_getR (k := 23) fl_RX5_11 rfl (zO_le h_r0 (by omega)) hC (zdk dk_X5_init 12 rfl) (q := 25) rfl (fun q40 hq40 => ?_)
  refine x_iload_n (i := 1) rfl hC (zdk dk_X5_init 13 rfl) (q := 26) rfl ?_
  refine x_if (fun hs43 => ?_)
  refine x_new nw_RX5_9 hs43 (n2 := n + 12) rfl (cs2 := (12, 351)) rfl (zRk_le hk0 (by decide) (by decide)) hC (zdk dk_X5_init 14 rfl) (q := 29) rfl (fun hn41 => ?_)
  refine x_nmM (fun M42 => ?_)
  refine x_dup rfl hC (zdk dk_X5_init 15 rfl) (q := 30) rfl ?_
  refine x_iload_n (i := 1) rfl hC (zdk dk_X5_init 16 rfl) (q := 31) rfl ?_
  refine x_callI (as := [.int 5]) (mc' := 1) (ms' := 63) (n2 := n + 13) ic_RX5_17 rfl (by decide) (cs2 := (13, 414)) rfl (zRk_le hk0 (by decide) (by decide)) (fun h => zO_lt hn41 h) hAO (fun x hx => t_X8_init hn41 x hx) hC (zdk dk_X5_init 17 rfl) (q := 34) rfl rfl (Nat.le_of_ble_eq_true rfl) (fun M44 => ?_)
  refine x_aast (kd := 23) (ke := 8) (zO_le hq40 (by omega)) (by decide) ⟨rfl, rfl, by decide⟩ (zO_le hn41 (by omega)) hC (zdk dk_X5_init 18 rfl) (q := 35) rfl (fun k45 _ => ?_)
  refine x_nmM (fun M46 => ?_)
  refine x_iinc (i := 1) c_iconst_1 rfl (by decide) (L' := [.ref r0, .int 6]) (by rw [show (5 : Int32) + 1 = 6 from by decide]; rfl) hC (zdk dk_X5_init 19 rfl) (q := 38) rfl ?_
  refine x_goto (tgt := 15) hC (zdk dk_X5_init 20 rfl) rfl ?_
  refine x_iload_n (i := 1) rfl hC (zdk dk_X5_init 8 rfl) (q := 16) rfl ?_
  refine x_bipush (i := 6) c_bipush_6 hC (zdk dk_X5_init 9 rfl) (q := 18) rfl ?_
  refine x_geT (tgt := 41) (by decide) hC (zdk dk_X5_init 10 rfl) rfl ?_
  exact x_vret hE hC (zdk dk_X5_init 21 rfl)
set_option maxRecDepth 100000 in
set_option maxHeartbeats 8000000 in
theorem t_X5_init {n : Nat} {r0 : Nat} {M : Mem} (h_r0 : zO n r0 5) (x : Mem) (hx : f_X5_init n r0 M = some x) (l : Launch) (dC : Nat → ClassId) (dI : Nat → Nat → Nat) (b : zSg) : MTc l dC dI b yX5_init cX5_init 2 2 13 414 n (n + 13) [.ref r0] M x :=
  MTc.ofX (by decide +kernel) rfl (Nat.le_of_ble_eq_true rfl) (fun κ hC hF hN hAO => x_X5_init hC (zEnd_of hF (Nat.le_refl _) (Nat.le_refl _)) (zRk_of hF (Nat.le_refl _) (Nat.le_refl _)) (zInit_of hN rfl) hAO _ _ h_r0) x hx
set_option maxRecDepth 100000 in
def dt_X10_init : List (Nat × Instr × Nat) := [(0, .aload_n 0, 1), (1, .invokespecial 3, 3), (4, .aload_n 0, 1), (5, .bipush 27, 2), (7, .newarray .int, 2), (9, .putfield 9, 3), (12, .aload_n 0, 1), (13, .bipush 96, 2), (15, .newarray .int, 2), (17, .putfield 15, 3), (20, .return_, 1)]
set_option maxRecDepth 100000 in
theorem dk_X10_init : dt_X10_init.all (fun q => decide (decode cX10_init q.1 = .ok q.2)) = true := by decide +kernel
set_option maxRecDepth 100000 in
def f_X10_init (n : Nat) (r0 : Nat) (M : Mem) : Option Mem := if zSH n = (20, 27) then Option.bind (some (znew M n)) fun M2 => Option.bind (some (zsR M2 r0 0 (n + 1))) fun M4 => if zSH (n + 1) = (20, 96) then Option.bind (some (znew M4 (n + 1))) fun M6 => Option.bind (some (zsR M6 r0 1 (n + 1 + 1))) fun M8 => some M8 else none else none
set_option maxRecDepth 100000 in
set_option maxHeartbeats 8000000 in
theorem x_X10_init {κ : KX} {n : Nat} (hC : CX κ cX10_init RX10 1 none 1) (hE : zEnd κ (n + 2) (2, 123)) (hk0 : zRk κ (2, 123)) (hIn : zInit κ) (hAO : zAOk κ) (r0 : Nat) (M : Mem) (h_r0 : zO n r0 10) : X κ 1 emV n (0, 0) 0 [.ref r0] [] M (f_X10_init n r0 M) := by
  unfold f_X10_init
  refine x_aload_n (i := 0) rfl hC (zdk dk_X10_init 0 rfl) (q := 1) rfl ?_
  refine x_oinit oi_RX10_3 hC (zdk dk_X10_init 1 rfl) (q := 4) rfl (Nat.le_of_ble_eq_true rfl) ?_
  refine x_aload_n (i := 0) rfl hC (zdk dk_X10_init 2 rfl) (q := 5) rfl ?_
  refine x_bipush (i := 27) c_bipush_27 hC (zdk dk_X10_init 3 rfl) (q := 7) rfl ?_
  refine x_if (fun hs3 => ?_)
  refine x_newa (k := 20) zac_20 (by decide) rfl (N := 27) (by decide) hs3 (n2 := n + 1) rfl (cs2 := (1, 27)) rfl (zRk_le hk0 (by decide) (by decide)) hC (zdk dk_X10_init 4 rfl) (q := 9) rfl (fun hn1 => ?_)
  refine x_nmM (fun M2 => ?_)
  refine x_putR (k := 20) fl_RX10_9 (fun _ => ⟨rfl, rfl⟩) rfl hn1 (Or.inr ⟨hIn, rfl⟩) (zO_le h_r0 (by omega)) hC (zdk dk_X10_init 5 rfl) (q := 12) rfl ?_
  refine x_nmM (fun M4 => ?_)
  refine x_aload_n (i := 0) rfl hC (zdk dk_X10_init 6 rfl) (q := 13) rfl ?_
  refine x_bipush (i := 96) c_bipush_96 hC (zdk dk_X10_init 7 rfl) (q := 15) rfl ?_
  refine x_if (fun hs7 => ?_)
  refine x_newa (k := 20) zac_20 (by decide) rfl (N := 96) (by decide) hs7 (n2 := n + 2) rfl (cs2 := (2, 123)) rfl (zRk_le hk0 (by decide) (by decide)) hC (zdk dk_X10_init 8 rfl) (q := 17) rfl (fun hn5 => ?_)
  refine x_nmM (fun M6 => ?_)
  refine x_putR (k := 20) fl_RX10_15 (fun _ => ⟨rfl, rfl⟩) rfl hn5 (Or.inr ⟨hIn, rfl⟩) (zO_le h_r0 (by omega)) hC (zdk dk_X10_init 9 rfl) (q := 20) rfl ?_
  refine x_nmM (fun M8 => ?_)
  exact x_vret hE hC (zdk dk_X10_init 10 rfl)
set_option maxRecDepth 100000 in
set_option maxHeartbeats 8000000 in
theorem t_X10_init {n : Nat} {r0 : Nat} {M : Mem} (h_r0 : zO n r0 10) (x : Mem) (hx : f_X10_init n r0 M = some x) (l : Launch) (dC : Nat → ClassId) (dI : Nat → Nat → Nat) (b : zSg) : MTc l dC dI b yX10_init cX10_init 1 1 2 123 n (n + 2) [.ref r0] M x :=
  MTc.ofX (by decide +kernel) rfl (Nat.le_of_ble_eq_true rfl) (fun κ hC hF hN hAO => x_X10_init hC (zEnd_of hF (Nat.le_refl _) (Nat.le_refl _)) (zRk_of hF (Nat.le_refl _) (Nat.le_refl _)) (zInit_of hN rfl) hAO _ _ h_r0) x hx
set_option maxRecDepth 100000 in
def dt_X2_init : List (Nat × Instr × Nat) := [(0, .aload_n 0, 1), (1, .invokespecial 3, 3), (4, .aload_n 0, 1), (5, .bipush 11, 2), (7, .newarray .int, 2), (9, .putfield 9, 3), (12, .aload_n 0, 1), (13, .bipush 12, 2), (15, .newarray .int, 2), (17, .putfield 15, 3), (20, .aload_n 0, 1), (21, .bipush 12, 2), (23, .newarray .int, 2), (25, .putfield 18, 3), (28, .aload_n 0, 1), (29, .bipush 12, 2), (31, .newarray .int, 2), (33, .putfield 21, 3), (36, .aload_n 0, 1), (37, .iconst 5, 1), (38, .newarray .int, 2), (40, .putfield 24, 3), (43, .return_, 1)]
set_option maxRecDepth 100000 in
theorem dk_X2_init : dt_X2_init.all (fun q => decide (decode cX2_init q.1 = .ok q.2)) = true := by decide +kernel
set_option maxRecDepth 100000 in
def f_X2_init (n : Nat) (r0 : Nat) (M : Mem) : Option Mem := if zSH n = (20, 11) then Option.bind (some (znew M n)) fun M2 => Option.bind (some (zsR M2 r0 0 (n + 1))) fun M4 => if zSH (n + 1) = (20, 12) then Option.bind (some (znew M4 (n + 1))) fun M6 => Option.bind (some (zsR M6 r0 1 (n + 1 + 1))) fun M8 => if zSH (n + 2) = (20, 12) then Option.bind (some (znew M8 (n + 2))) fun M10 => Option.bind (some (zsR M10 r0 2 (n + 2 + 1))) fun M12 => if zSH (n + 3) = (20, 12) then Option.bind (some (znew M12 (n + 3))) fun M14 => Option.bind (some (zsR M14 r0 3 (n + 3 + 1))) fun M16 => if zSH (n + 4) = (20, 5) then Option.bind (some (znew M16 (n + 4))) fun M18 => Option.bind (some (zsR M18 r0 4 (n + 4 + 1))) fun M20 => some M20 else none else none else none else none else none
set_option maxRecDepth 100000 in
set_option maxHeartbeats 8000000 in
theorem x_X2_init {κ : KX} {n : Nat} (hC : CX κ cX2_init RX2 1 none 1) (hE : zEnd κ (n + 5) (5, 52)) (hk0 : zRk κ (5, 52)) (hIn : zInit κ) (hAO : zAOk κ) (r0 : Nat) (M : Mem) (h_r0 : zO n r0 2) : X κ 1 emV n (0, 0) 0 [.ref r0] [] M (f_X2_init n r0 M) := by
  unfold f_X2_init
  refine x_aload_n (i := 0) rfl hC (zdk dk_X2_init 0 rfl) (q := 1) rfl ?_
  refine x_oinit oi_RX2_3 hC (zdk dk_X2_init 1 rfl) (q := 4) rfl (Nat.le_of_ble_eq_true rfl) ?_
  refine x_aload_n (i := 0) rfl hC (zdk dk_X2_init 2 rfl) (q := 5) rfl ?_
  refine x_bipush (i := 11) c_bipush_11 hC (zdk dk_X2_init 3 rfl) (q := 7) rfl ?_
  refine x_if (fun hs3 => ?_)
  refine x_newa (k := 20) zac_20 (by decide) rfl (N := 11) (by decide) hs3 (n2 := n + 1) rfl (cs2 := (1, 11)) rfl (zRk_le hk0 (by decide) (by decide)) hC (zdk dk_X2_init 4 rfl) (q := 9) rfl (fun hn1 => ?_)
  refine x_nmM (fun M2 => ?_)
  refine x_putR (k := 20) fl_RX2_9 (fun _ => ⟨rfl, rfl⟩) rfl hn1 (Or.inr ⟨hIn, rfl⟩) (zO_le h_r0 (by omega)) hC (zdk dk_X2_init 5 rfl) (q := 12) rfl ?_
  refine x_nmM (fun M4 => ?_)
  refine x_aload_n (i := 0) rfl hC (zdk dk_X2_init 6 rfl) (q := 13) rfl ?_
  refine x_bipush (i := 12) c_bipush_12 hC (zdk dk_X2_init 7 rfl) (q := 15) rfl ?_
  refine x_if (fun hs7 => ?_)
  refine x_newa (k := 20) zac_20 (by decide) rfl (N := 12) (by decide) hs7 (n2 := n + 2) rfl (cs2 := (2, 23)) rfl (zRk_le hk0 (by decide) (by decide)) hC (zdk dk_X2_init 8 rfl) (q := 17) rfl (fun hn5 => ?_)
  refine x_nmM (fun M6 => ?_)
  refine x_putR (k := 20) fl_RX2_15 (fun _ => ⟨rfl, rfl⟩) rfl hn5 (Or.inr ⟨hIn, rfl⟩) (zO_le h_r0 (by omega)) hC (zdk dk_X2_init 9 rfl) (q := 20) rfl ?_
  refine x_nmM (fun M8 => ?_)
  refine x_aload_n (i := 0) rfl hC (zdk dk_X2_init 10 rfl) (q := 21) rfl ?_
  refine x_bipush (i := 12) c_bipush_12 hC (zdk dk_X2_init 11 rfl) (q := 23) rfl ?_
  refine x_if (fun hs11 => ?_)
  refine x_newa (k := 20) zac_20 (by decide) rfl (N := 12) (by decide) hs11 (n2 := n + 3) rfl (cs2 := (3, 35)) rfl (zRk_le hk0 (by decide) (by decide)) hC (zdk dk_X2_init 12 rfl) (q := 25) rfl (fun hn9 => ?_)
  refine x_nmM (fun M10 => ?_)
  refine x_putR (k := 20) fl_RX2_18 (fun _ => ⟨rfl, rfl⟩) rfl hn9 (Or.inr ⟨hIn, rfl⟩) (zO_le h_r0 (by omega)) hC (zdk dk_X2_init 13 rfl) (q := 28) rfl ?_
  refine x_nmM (fun M12 => ?_)
  refine x_aload_n (i := 0) rfl hC (zdk dk_X2_init 14 rfl) (q := 29) rfl ?_
  refine x_bipush (i := 12) c_bipush_12 hC (zdk dk_X2_init 15 rfl) (q := 31) rfl ?_
  refine x_if (fun hs15 => ?_)
  refine x_newa (k := 20) zac_20 (by decide) rfl (N := 12) (by decide) hs15 (n2 := n + 4) rfl (cs2 := (4, 47)) rfl (zRk_le hk0 (by decide) (by decide)) hC (zdk dk_X2_init 16 rfl) (q := 33) rfl (fun hn13 => ?_)
  refine x_nmM (fun M14 => ?_)
  refine x_putR (k := 20) fl_RX2_21 (fun _ => ⟨rfl, rfl⟩) rfl hn13 (Or.inr ⟨hIn, rfl⟩) (zO_le h_r0 (by omega)) hC (zdk dk_X2_init 17 rfl) (q := 36) rfl ?_
  refine x_nmM (fun M16 => ?_)
  refine x_aload_n (i := 0) rfl hC (zdk dk_X2_init 18 rfl) (q := 37) rfl ?_
  refine x_iconst (i := 5) c_iconst_5 hC (zdk dk_X2_init 19 rfl) (q := 38) rfl ?_
  refine x_if (fun hs19 => ?_)
  refine x_newa (k := 20) zac_20 (by decide) rfl (N := 5) (by decide) hs19 (n2 := n + 5) rfl (cs2 := (5, 52)) rfl (zRk_le hk0 (by decide) (by decide)) hC (zdk dk_X2_init 20 rfl) (q := 40) rfl (fun hn17 => ?_)
  refine x_nmM (fun M18 => ?_)
  refine x_putR (k := 20) fl_RX2_24 (fun _ => ⟨rfl, rfl⟩) rfl hn17 (Or.inr ⟨hIn, rfl⟩) (zO_le h_r0 (by omega)) hC (zdk dk_X2_init 21 rfl) (q := 43) rfl ?_
  refine x_nmM (fun M20 => ?_)
  exact x_vret hE hC (zdk dk_X2_init 22 rfl)
set_option maxRecDepth 100000 in
set_option maxHeartbeats 8000000 in
theorem t_X2_init {n : Nat} {r0 : Nat} {M : Mem} (h_r0 : zO n r0 2) (x : Mem) (hx : f_X2_init n r0 M = some x) (l : Launch) (dC : Nat → ClassId) (dI : Nat → Nat → Nat) (b : zSg) : MTc l dC dI b yX2_init cX2_init 1 1 5 52 n (n + 5) [.ref r0] M x :=
  MTc.ofX (by decide +kernel) rfl (Nat.le_of_ble_eq_true rfl) (fun κ hC hF hN hAO => x_X2_init hC (zEnd_of hF (Nat.le_refl _) (Nat.le_refl _)) (zRk_of hF (Nat.le_refl _) (Nat.le_refl _)) (zInit_of hN rfl) hAO _ _ h_r0) x hx
set_option maxRecDepth 100000 in
def dt_X3_init : List (Nat × Instr × Nat) := [(0, .aload_n 0, 1), (1, .invokespecial 3, 3), (4, .aload_n 0, 1), (5, .aload_n 1, 1), (6, .putfield 9, 3), (9, .aload_n 0, 1), (10, .aload_n 2, 1), (11, .putfield 15, 3), (14, .return_, 1)]
set_option maxRecDepth 100000 in
theorem dk_X3_init : dt_X3_init.all (fun q => decide (decode cX3_init q.1 = .ok q.2)) = true := by decide +kernel
set_option maxRecDepth 100000 in
def f_X3_init (n : Nat) (r0 : Nat) (r1 : Nat) (r2 : Nat) (M : Mem) : Option Mem := Option.bind (some (zsR M r0 0 (r1 + 1))) fun M1 => Option.bind (some (zsR M1 r0 1 (r2 + 1))) fun M2 => some M2
set_option maxRecDepth 100000 in
set_option maxHeartbeats 8000000 in
theorem x_X3_init {κ : KX} {n : Nat} (hC : CX κ cX3_init RX3 3 none 1) (hE : zEnd κ (n) (0, 0)) (hk0 : zRk κ (0, 0)) (hIn : zInit κ) (hAO : zAOk κ) (r0 : Nat) (r1 : Nat) (r2 : Nat) (M : Mem) (h_r0 : zO n r0 3) (h_r1 : zO n r1 2) (h_r2 : zO n r2 10) : X κ 3 emV n (0, 0) 0 [.ref r0, .ref r1, .ref r2] [] M (f_X3_init n r0 r1 r2 M) := by
  unfold f_X3_init
  refine x_aload_n (i := 0) rfl hC (zdk dk_X3_init 0 rfl) (q := 1) rfl ?_
  refine x_oinit oi_RX3_3 hC (zdk dk_X3_init 1 rfl) (q := 4) rfl (Nat.le_of_ble_eq_true rfl) ?_
  refine x_aload_n (i := 0) rfl hC (zdk dk_X3_init 2 rfl) (q := 5) rfl ?_
  refine x_aload_n (i := 1) rfl hC (zdk dk_X3_init 3 rfl) (q := 6) rfl ?_
  refine x_putR (k := 2) fl_RX3_9 (fun _ => ⟨rfl, rfl⟩) rfl h_r1 (Or.inr ⟨hIn, rfl⟩) h_r0 hC (zdk dk_X3_init 4 rfl) (q := 9) rfl ?_
  refine x_nmM (fun M1 => ?_)
  refine x_aload_n (i := 0) rfl hC (zdk dk_X3_init 5 rfl) (q := 10) rfl ?_
  refine x_aload_n (i := 2) rfl hC (zdk dk_X3_init 6 rfl) (q := 11) rfl ?_
  refine x_putR (k := 10) fl_RX3_15 (fun _ => ⟨rfl, rfl⟩) rfl h_r2 (Or.inr ⟨hIn, rfl⟩) h_r0 hC (zdk dk_X3_init 7 rfl) (q := 14) rfl ?_
  refine x_nmM (fun M2 => ?_)
  exact x_vret hE hC (zdk dk_X3_init 8 rfl)
set_option maxRecDepth 100000 in
set_option maxHeartbeats 8000000 in
theorem t_X3_init {n : Nat} {r0 : Nat} {r1 : Nat} {r2 : Nat} {M : Mem} (h_r0 : zO n r0 3) (h_r1 : zO n r1 2) (h_r2 : zO n r2 10) (x : Mem) (hx : f_X3_init n r0 r1 r2 M = some x) (l : Launch) (dC : Nat → ClassId) (dI : Nat → Nat → Nat) (b : zSg) : MTc l dC dI b yX3_init cX3_init 3 1 0 0 n (n) [.ref r0, .ref r1, .ref r2] M x :=
  MTc.ofX (by decide +kernel) rfl (Nat.le_of_ble_eq_true rfl) (fun κ hC hF hN hAO => x_X3_init hC (zEnd_of hF (Nat.le_refl _) (Nat.le_refl _)) (zRk_of hF (Nat.le_refl _) (Nat.le_refl _)) (zInit_of hN rfl) hAO _ _ _ _ h_r0 h_r1 h_r2) x hx
set_option maxRecDepth 100000 in
def dt_X7_init : List (Nat × Instr × Nat) := [(0, .aload_n 0, 1), (1, .invokespecial 3, 3), (4, .aload_n 0, 1), (5, .bipush 20, 2), (7, .anewarray 9, 3), (10, .putfield 11, 3), (13, .aload_n 0, 1), (14, .bipush 20, 2), (16, .newarray .int, 2), (18, .putfield 17, 3), (21, .aload_n 0, 1), (22, .sipush 180, 3), (25, .newarray .int, 2), (27, .putfield 21, 3), (30, .iconst 0, 1), (31, .istore_n 1, 1), (32, .iload_n 1, 1), (33, .bipush 20, 2), (35, .if_icmp .ge 22, 3), (38, .aload_n 0, 1), (39, .getfield 11, 3), (42, .iload_n 1, 1), (43, .new 9, 3), (46, .dup, 1), (47, .invokespecial 24, 3), (50, .aastore, 1), (51, .iinc 1 1, 3), (54, .goto (-22), 3), (57, .return_, 1)]
set_option maxRecDepth 100000 in
theorem dk_X7_init : dt_X7_init.all (fun q => decide (decode cX7_init q.1 = .ok q.2)) = true := by decide +kernel
set_option maxRecDepth 100000 in
def f_X7_init (n : Nat) (r0 : Nat) (M : Mem) : Option Mem := if zSH n = (24, 20) then Option.bind (some (znew M n)) fun M2 => Option.bind (some (zsR M2 r0 0 (n + 1))) fun M4 => if zSH (n + 1) = (20, 20) then Option.bind (some (znew M4 (n + 1))) fun M6 => Option.bind (some (zsR M6 r0 1 (n + 1 + 1))) fun M8 => if zSH (n + 2) = (20, 180) then Option.bind (some (znew M8 (n + 2))) fun M10 => Option.bind (some (zsR M10 r0 2 (n + 2 + 1))) fun M12 => Option.bind (zrf M12 r0 0) fun q13 => if zSH (n + 3) = (5, 2) then Option.bind (some (znew M12 (n + 3))) fun M15 => Option.bind (f_X5_init (n + 4) (n + 3) M15) fun M17 => Option.bind (zld q13 0) fun k18 => Option.bind (some (zsR M17 q13 k18 (n + 3 + 1))) fun M19 => Option.bind (zrf M19 r0 0) fun q20 => if zSH (n + 17) = (5, 2) then Option.bind (some (znew M19 (n + 17))) fun M22 => Option.bind (f_X5_init (n + 18) (n + 17) M22) fun M24 => Option.bind (zld q20 1) fun k25 => Option.bind (some (zsR M24 q20 k25 (n + 17 + 1))) fun M26 => Option.bind (zrf M26 r0 0) fun q27 => if zSH (n + 31) = (5, 2) then Option.bind (some (znew M26 (n + 31))) fun M29 => Option.bind (f_X5_init (n + 32) (n + 31) M29) fun M31 => Option.bind (zld q27 2) fun k32 => Option.bind (some (zsR M31 q27 k32 (n + 31 + 1))) fun M33 => Option.bind (zrf M33 r0 0) fun q34 => if zSH (n + 45) = (5, 2) then Option.bind (some (znew M33 (n + 45))) fun M36 => Option.bind (f_X5_init (n + 46) (n + 45) M36) fun M38 => Option.bind (zld q34 3) fun k39 => Option.bind (some (zsR M38 q34 k39 (n + 45 + 1))) fun M40 => Option.bind (zrf M40 r0 0) fun q41 => if zSH (n + 59) = (5, 2) then Option.bind (some (znew M40 (n + 59))) fun M43 => Option.bind (f_X5_init (n + 60) (n + 59) M43) fun M45 => Option.bind (zld q41 4) fun k46 => Option.bind (some (zsR M45 q41 k46 (n + 59 + 1))) fun M47 => Option.bind (zrf M47 r0 0) fun q48 => if zSH (n + 73) = (5, 2) then Option.bind (some (znew M47 (n + 73))) fun M50 => Option.bind (f_X5_init (n + 74) (n + 73) M50) fun M52 => Option.bind (zld q48 5) fun k53 => Option.bind (some (zsR M52 q48 k53 (n + 73 + 1))) fun M54 => Option.bind (zrf M54 r0 0) fun q55 => if zSH (n + 87) = (5, 2) then Option.bind (some (znew M54 (n + 87))) fun M57 => Option.bind (f_X5_init (n + 88) (n + 87) M57) fun M59 => Option.bind (zld q55 6) fun k60 => Option.bind (some (zsR M59 q55 k60 (n + 87 + 1))) fun M61 => Option.bind (zrf M61 r0 0) fun q62 => if zSH (n + 101) = (5, 2) then Option.bind (some (znew M61 (n + 101))) fun M64 => Option.bind (f_X5_init (n + 102) (n + 101) M64) fun M66 => Option.bind (zld q62 7) fun k67 => Option.bind (some (zsR M66 q62 k67 (n + 101 + 1))) fun M68 => Option.bind (zrf M68 r0 0) fun q69 => if zSH (n + 115) = (5, 2) then Option.bind (some (znew M68 (n + 115))) fun M71 => Option.bind (f_X5_init (n + 116) (n + 115) M71) fun M73 => Option.bind (zld q69 8) fun k74 => Option.bind (some (zsR M73 q69 k74 (n + 115 + 1))) fun M75 => Option.bind (zrf M75 r0 0) fun q76 => if zSH (n + 129) = (5, 2) then Option.bind (some (znew M75 (n + 129))) fun M78 => Option.bind (f_X5_init (n + 130) (n + 129) M78) fun M80 => Option.bind (zld q76 9) fun k81 => Option.bind (some (zsR M80 q76 k81 (n + 129 + 1))) fun M82 => Option.bind (zrf M82 r0 0) fun q83 => if zSH (n + 143) = (5, 2) then Option.bind (some (znew M82 (n + 143))) fun M85 => Option.bind (f_X5_init (n + 144) (n + 143) M85) fun M87 => Option.bind (zld q83 10) fun k88 => Option.bind (some (zsR M87 q83 k88 (n + 143 + 1))) fun M89 => Option.bind (zrf M89 r0 0) fun q90 => if zSH (n + 157) = (5, 2) then Option.bind (some (znew M89 (n + 157))) fun M92 => Option.bind (f_X5_init (n + 158) (n + 157) M92) fun M94 => Option.bind (zld q90 11) fun k95 => Option.bind (some (zsR M94 q90 k95 (n + 157 + 1))) fun M96 => Option.bind (zrf M96 r0 0) fun q97 => if zSH (n + 171) = (5, 2) then Option.bind (some (znew M96 (n + 171))) fun M99 => Option.bind (f_X5_init (n + 172) (n + 171) M99) fun M101 => Option.bind (zld q97 12) fun k102 => Option.bind (some (zsR M101 q97 k102 (n + 171 + 1))) fun M103 => Option.bind (zrf M103 r0 0) fun q104 => if zSH (n + 185) = (5, 2) then Option.bind (some (znew M103 (n + 185))) fun M106 => Option.bind (f_X5_init (n + 186) (n + 185) M106) fun M108 => Option.bind (zld q104 13) fun k109 => Option.bind (some (zsR M108 q104 k109 (n + 185 + 1))) fun M110 => Option.bind (zrf M110 r0 0) fun q111 => if zSH (n + 199) = (5, 2) then Option.bind (some (znew M110 (n + 199))) fun M113 => Option.bind (f_X5_init (n + 200) (n + 199) M113) fun M115 => Option.bind (zld q111 14) fun k116 => Option.bind (some (zsR M115 q111 k116 (n + 199 + 1))) fun M117 => Option.bind (zrf M117 r0 0) fun q118 => if zSH (n + 213) = (5, 2) then Option.bind (some (znew M117 (n + 213))) fun M120 => Option.bind (f_X5_init (n + 214) (n + 213) M120) fun M122 => Option.bind (zld q118 15) fun k123 => Option.bind (some (zsR M122 q118 k123 (n + 213 + 1))) fun M124 => Option.bind (zrf M124 r0 0) fun q125 => if zSH (n + 227) = (5, 2) then Option.bind (some (znew M124 (n + 227))) fun M127 => Option.bind (f_X5_init (n + 228) (n + 227) M127) fun M129 => Option.bind (zld q125 16) fun k130 => Option.bind (some (zsR M129 q125 k130 (n + 227 + 1))) fun M131 => Option.bind (zrf M131 r0 0) fun q132 => if zSH (n + 241) = (5, 2) then Option.bind (some (znew M131 (n + 241))) fun M134 => Option.bind (f_X5_init (n + 242) (n + 241) M134) fun M136 => Option.bind (zld q132 17) fun k137 => Option.bind (some (zsR M136 q132 k137 (n + 241 + 1))) fun M138 => Option.bind (zrf M138 r0 0) fun q139 => if zSH (n + 255) = (5, 2) then Option.bind (some (znew M138 (n + 255))) fun M141 => Option.bind (f_X5_init (n + 256) (n + 255) M141) fun M143 => Option.bind (zld q139 18) fun k144 => Option.bind (some (zsR M143 q139 k144 (n + 255 + 1))) fun M145 => Option.bind (zrf M145 r0 0) fun q146 => if zSH (n + 269) = (5, 2) then Option.bind (some (znew M145 (n + 269))) fun M148 => Option.bind (f_X5_init (n + 270) (n + 269) M148) fun M150 => Option.bind (zld q146 19) fun k151 => Option.bind (some (zsR M150 q146 k151 (n + 269 + 1))) fun M152 => some M152 else none else none else none else none else none else none else none else none else none else none else none else none else none else none else none else none else none else none else none else none else none else none else none
set_option maxRecDepth 100000 in
set_option maxHeartbeats 8000000 in
theorem x_X7_init {κ : KX} {n : Nat} (hC : CX κ cX7_init RX7 2 none 3) (hE : zEnd κ (n + 283) (283, 8540)) (hk0 : zRk κ (283, 8540)) (hIn : zInit κ) (hAO : zAOk κ) (r0 : Nat) (M : Mem) (h_r0 : zO n r0 7) : X κ 2 emV n (0, 0) 0 [.ref r0, .null] [] M (f_X7_init n r0 M) := by
  unfold f_X7_init
  refine x_aload_n (i := 0) rfl hC (zdk dk_X7_init 0 rfl) (q := 1) rfl ?_
  refine x_oinit oi_RX7_3 hC (zdk dk_X7_init 1 rfl) (q := 4) rfl (Nat.le_of_ble_eq_true rfl) ?_
  refine x_aload_n (i := 0) rfl hC (zdk dk_X7_init 2 rfl) (q := 5) rfl ?_
  refine x_bipush (i := 20) c_bipush_20 hC (zdk dk_X7_init 3 rfl) (q := 7) rfl ?_
  refine x_if (fun hs3 => ?_)
  refine x_anew (k := 24) hAO na_RX7_9 (by decide) rfl (N := 20) (by decide) hs3 (n2 := n + 1) rfl (cs2 := (1, 20)) rfl (zRk_le hk0 (by decide) (by decide)) hC (zdk dk_X7_init 4 rfl) (q := 10) rfl (fun hn1 => ?_)
  refine x_nmM (fun M2 => ?_)
  refine x_putR (k := 24) fl_RX7_11 (fun _ => ⟨rfl, rfl⟩) rfl hn1 (Or.inr ⟨hIn, rfl⟩) (zO_le h_r0 (by omega)) hC (zdk dk_X7_init 5 rfl) (q := 13) rfl ?_
  refine x_nmM (fun M4 => ?_)
  refine x_aload_n (i := 0) rfl hC (zdk dk_X7_init 6 rfl) (q := 14) rfl ?_
  refine x_bipush (i := 20) c_bipush_20 hC (zdk dk_X7_init 7 rfl) (q := 16) rfl ?_
  refine x_if (fun hs7 => ?_)
  refine x_newa (k := 20) zac_20 (by decide) rfl (N := 20) (by decide) hs7 (n2 := n + 2) rfl (cs2 := (2, 40)) rfl (zRk_le hk0 (by decide) (by decide)) hC (zdk dk_X7_init 8 rfl) (q := 18) rfl (fun hn5 => ?_)
  refine x_nmM (fun M6 => ?_)
  refine x_putR (k := 20) fl_RX7_17 (fun _ => ⟨rfl, rfl⟩) rfl hn5 (Or.inr ⟨hIn, rfl⟩) (zO_le h_r0 (by omega)) hC (zdk dk_X7_init 9 rfl) (q := 21) rfl ?_
  refine x_nmM (fun M8 => ?_)
  refine x_aload_n (i := 0) rfl hC (zdk dk_X7_init 10 rfl) (q := 22) rfl ?_
  refine x_sipush (i := 180) c_sipush_180 hC (zdk dk_X7_init 11 rfl) (q := 25) rfl ?_
  refine x_if (fun hs11 => ?_)
  refine x_newa (k := 20) zac_20 (by decide) rfl (N := 180) (by decide) hs11 (n2 := n + 3) rfl (cs2 := (3, 220)) rfl (zRk_le hk0 (by decide) (by decide)) hC (zdk dk_X7_init 12 rfl) (q := 27) rfl (fun hn9 => ?_)
  refine x_nmM (fun M10 => ?_)
  refine x_putR (k := 20) fl_RX7_21 (fun _ => ⟨rfl, rfl⟩) rfl hn9 (Or.inr ⟨hIn, rfl⟩) (zO_le h_r0 (by omega)) hC (zdk dk_X7_init 13 rfl) (q := 30) rfl ?_
  refine x_nmM (fun M12 => ?_)
  refine x_iconst (i := 0) c_iconst_0 hC (zdk dk_X7_init 14 rfl) (q := 31) rfl ?_
  refine x_istore_n (i := 1) (L' := [.ref r0, .int 0]) (by decide) rfl hC (zdk dk_X7_init 15 rfl) (q := 32) rfl ?_
  refine x_iload_n (i := 1) rfl hC (zdk dk_X7_init 16 rfl) (q := 33) rfl ?_
  refine x_bipush (i := 20) c_bipush_20 hC (zdk dk_X7_init 17 rfl) (q := 35) rfl ?_
  refine x_geF (by decide) hC (zdk dk_X7_init 18 rfl) (q := 38) rfl ?_
  refine x_aload_n (i := 0) rfl hC (zdk dk_X7_init 19 rfl) (q := 39) rfl ?_
  refine x_getR (k := 24) fl_RX7_11 rfl (zO_le h_r0 (by omega)) hC (zdk dk_X7_init 20 rfl) (q := 42) rfl (fun q13 hq13 => ?_)
  refine x_iload_n (i := 1) rfl hC (zdk dk_X7_init 21 rfl) (q := 43) rfl ?_
  refine x_if (fun hs16 => ?_)
  refine x_new nw_RX7_9 hs16 (n2 := n + 4) rfl (cs2 := (4, 222)) rfl (zRk_le hk0 (by decide) (by decide)) hC (zdk dk_X7_init 22 rfl) (q := 46) rfl (fun hn14 => ?_)
  refine x_nmM (fun M15 => ?_)
  refine x_dup rfl hC (zdk dk_X7_init 23 rfl) (q := 47) rfl ?_
  refine x_callI (as := []) (mc' := 13) (ms' := 414) (n2 := n + 17) ic_RX7_24 rfl (by decide) (cs2 := (17, 636)) rfl (zRk_le hk0 (by decide) (by decide)) (fun h => zO_lt hn14 h) hAO (fun x hx => t_X5_init hn14 x hx) hC (zdk dk_X7_init 24 rfl) (q := 50) rfl rfl (Nat.le_of_ble_eq_true rfl) (fun M17 => ?_)
  refine x_aast (kd := 24) (ke := 5) (zO_le hq13 (by omega)) (by decide) ⟨rfl, rfl, by decide⟩ (zO_le hn14 (by omega)) hC (zdk dk_X7_init 25 rfl) (q := 51) rfl (fun k18 _ => ?_)
  refine x_nmM (fun M19 => ?_)
  refine x_iinc (i := 1) c_iconst_1 rfl (by decide) (L' := [.ref r0, .int 1]) (by rw [show (0 : Int32) + 1 = 1 from by decide]; rfl) hC (zdk dk_X7_init 26 rfl) (q := 54) rfl ?_
  refine x_goto (tgt := 32) hC (zdk dk_X7_init 27 rfl) rfl ?_
  refine x_iload_n (i := 1) rfl hC (zdk dk_X7_init 16 rfl) (q := 33) rfl ?_
  refine x_bipush (i := 20) c_bipush_20 hC (zdk dk_X7_init 17 rfl) (q := 35) rfl ?_
  refine x_geF (by decide) hC (zdk dk_X7_init 18 rfl) (q := 38) rfl ?_
  refine x_aload_n (i := 0) rfl hC (zdk dk_X7_init 19 rfl) (q := 39) rfl ?_
  refine x_getR (k := 24) fl_RX7_11 rfl (zO_le h_r0 (by omega)) hC (zdk dk_X7_init 20 rfl) (q := 42) rfl (fun q20 hq20 => ?_)
  refine x_iload_n (i := 1) rfl hC (zdk dk_X7_init 21 rfl) (q := 43) rfl ?_
  refine x_if (fun hs23 => ?_)
  refine x_new nw_RX7_9 hs23 (n2 := n + 18) rfl (cs2 := (18, 638)) rfl (zRk_le hk0 (by decide) (by decide)) hC (zdk dk_X7_init 22 rfl) (q := 46) rfl (fun hn21 => ?_)
  refine x_nmM (fun M22 => ?_)
  refine x_dup rfl hC (zdk dk_X7_init 23 rfl) (q := 47) rfl ?_
  refine x_callI (as := []) (mc' := 13) (ms' := 414) (n2 := n + 31) ic_RX7_24 rfl (by decide) (cs2 := (31, 1052)) rfl (zRk_le hk0 (by decide) (by decide)) (fun h => zO_lt hn21 h) hAO (fun x hx => t_X5_init hn21 x hx) hC (zdk dk_X7_init 24 rfl) (q := 50) rfl rfl (Nat.le_of_ble_eq_true rfl) (fun M24 => ?_)
  refine x_aast (kd := 24) (ke := 5) (zO_le hq20 (by omega)) (by decide) ⟨rfl, rfl, by decide⟩ (zO_le hn21 (by omega)) hC (zdk dk_X7_init 25 rfl) (q := 51) rfl (fun k25 _ => ?_)
  refine x_nmM (fun M26 => ?_)
  refine x_iinc (i := 1) c_iconst_1 rfl (by decide) (L' := [.ref r0, .int 2]) (by rw [show (1 : Int32) + 1 = 2 from by decide]; rfl) hC (zdk dk_X7_init 26 rfl) (q := 54) rfl ?_
  refine x_goto (tgt := 32) hC (zdk dk_X7_init 27 rfl) rfl ?_
  refine x_iload_n (i := 1) rfl hC (zdk dk_X7_init 16 rfl) (q := 33) rfl ?_
  refine x_bipush (i := 20) c_bipush_20 hC (zdk dk_X7_init 17 rfl) (q := 35) rfl ?_
  refine x_geF (by decide) hC (zdk dk_X7_init 18 rfl) (q := 38) rfl ?_
  refine x_aload_n (i := 0) rfl hC (zdk dk_X7_init 19 rfl) (q := 39) rfl ?_
  refine x_getR (k := 24) fl_RX7_11 rfl (zO_le h_r0 (by omega)) hC (zdk dk_X7_init 20 rfl) (q := 42) rfl (fun q27 hq27 => ?_)
  refine x_iload_n (i := 1) rfl hC (zdk dk_X7_init 21 rfl) (q := 43) rfl ?_
  refine x_if (fun hs30 => ?_)
  refine x_new nw_RX7_9 hs30 (n2 := n + 32) rfl (cs2 := (32, 1054)) rfl (zRk_le hk0 (by decide) (by decide)) hC (zdk dk_X7_init 22 rfl) (q := 46) rfl (fun hn28 => ?_)
  refine x_nmM (fun M29 => ?_)
  refine x_dup rfl hC (zdk dk_X7_init 23 rfl) (q := 47) rfl ?_
  refine x_callI (as := []) (mc' := 13) (ms' := 414) (n2 := n + 45) ic_RX7_24 rfl (by decide) (cs2 := (45, 1468)) rfl (zRk_le hk0 (by decide) (by decide)) (fun h => zO_lt hn28 h) hAO (fun x hx => t_X5_init hn28 x hx) hC (zdk dk_X7_init 24 rfl) (q := 50) rfl rfl (Nat.le_of_ble_eq_true rfl) (fun M31 => ?_)
  refine x_aast (kd := 24) (ke := 5) (zO_le hq27 (by omega)) (by decide) ⟨rfl, rfl, by decide⟩ (zO_le hn28 (by omega)) hC (zdk dk_X7_init 25 rfl) (q := 51) rfl (fun k32 _ => ?_)
  refine x_nmM (fun M33 => ?_)
  refine x_iinc (i := 1) c_iconst_1 rfl (by decide) (L' := [.ref r0, .int 3]) (by rw [show (2 : Int32) + 1 = 3 from by decide]; rfl) hC (zdk dk_X7_init 26 rfl) (q := 54) rfl ?_
  refine x_goto (tgt := 32) hC (zdk dk_X7_init 27 rfl) rfl ?_
  refine x_iload_n (i := 1) rfl hC (zdk dk_X7_init 16 rfl) (q := 33) rfl ?_
  refine x_bipush (i := 20) c_bipush_20 hC (zdk dk_X7_init 17 rfl) (q := 35) rfl ?_
  refine x_geF (by decide) hC (zdk dk_X7_init 18 rfl) (q := 38) rfl ?_
  refine x_aload_n (i := 0) rfl hC (zdk dk_X7_init 19 rfl) (q := 39) rfl ?_
  refine x_getR (k := 24) fl_RX7_11 rfl (zO_le h_r0 (by omega)) hC (zdk dk_X7_init 20 rfl) (q := 42) rfl (fun q34 hq34 => ?_)
  refine x_iload_n (i := 1) rfl hC (zdk dk_X7_init 21 rfl) (q := 43) rfl ?_
  refine x_if (fun hs37 => ?_)
  refine x_new nw_RX7_9 hs37 (n2 := n + 46) rfl (cs2 := (46, 1470)) rfl (zRk_le hk0 (by decide) (by decide)) hC (zdk dk_X7_init 22 rfl) (q := 46) rfl (fun hn35 => ?_)
  refine x_nmM (fun M36 => ?_)
  refine x_dup rfl hC (zdk dk_X7_init 23 rfl) (q := 47) rfl ?_
  refine x_callI (as := []) (mc' := 13) (ms' := 414) (n2 := n + 59) ic_RX7_24 rfl (by decide) (cs2 := (59, 1884)) rfl (zRk_le hk0 (by decide) (by decide)) (fun h => zO_lt hn35 h) hAO (fun x hx => t_X5_init hn35 x hx) hC (zdk dk_X7_init 24 rfl) (q := 50) rfl rfl (Nat.le_of_ble_eq_true rfl) (fun M38 => ?_)
  refine x_aast (kd := 24) (ke := 5) (zO_le hq34 (by omega)) (by decide) ⟨rfl, rfl, by decide⟩ (zO_le hn35 (by omega)) hC (zdk dk_X7_init 25 rfl) (q := 51) rfl (fun k39 _ => ?_)
  refine x_nmM (fun M40 => ?_)
  refine x_iinc (i := 1) c_iconst_1 rfl (by decide) (L' := [.ref r0, .int 4]) (by rw [show (3 : Int32) + 1 = 4 from by decide]; rfl) hC (zdk dk_X7_init 26 rfl) (q := 54) rfl ?_
  refine x_goto (tgt := 32) hC (zdk dk_X7_init 27 rfl) rfl ?_
  refine x_iload_n (i := 1) rfl hC (zdk dk_X7_init 16 rfl) (q := 33) rfl ?_
  refine x_bipush (i := 20) c_bipush_20 hC (zdk dk_X7_init 17 rfl) (q := 35) rfl ?_
  refine x_geF (by decide) hC (zdk dk_X7_init 18 rfl) (q := 38) rfl ?_
  refine x_aload_n (i := 0) rfl hC (zdk dk_X7_init 19 rfl) (q := 39) rfl ?_
  refine x_getR (k := 24) fl_RX7_11 rfl (zO_le h_r0 (by omega)) hC (zdk dk_X7_init 20 rfl) (q := 42) rfl (fun q41 hq41 => ?_)
  refine x_iload_n (i := 1) rfl hC (zdk dk_X7_init 21 rfl) (q := 43) rfl ?_
  refine x_if (fun hs44 => ?_)
  refine x_new nw_RX7_9 hs44 (n2 := n + 60) rfl (cs2 := (60, 1886)) rfl (zRk_le hk0 (by decide) (by decide)) hC (zdk dk_X7_init 22 rfl) (q := 46) rfl (fun hn42 => ?_)
  refine x_nmM (fun M43 => ?_)
  refine x_dup rfl hC (zdk dk_X7_init 23 rfl) (q := 47) rfl ?_
  refine x_callI (as := []) (mc' := 13) (ms' := 414) (n2 := n + 73) ic_RX7_24 rfl (by decide) (cs2 := (73, 2300)) rfl (zRk_le hk0 (by decide) (by decide)) (fun h => zO_lt hn42 h) hAO (fun x hx => t_X5_init hn42 x hx) hC (zdk dk_X7_init 24 rfl) (q := 50) rfl rfl (Nat.le_of_ble_eq_true rfl) (fun M45 => ?_)
  refine x_aast (kd := 24) (ke := 5) (zO_le hq41 (by omega)) (by decide) ⟨rfl, rfl, by decide⟩ (zO_le hn42 (by omega)) hC (zdk dk_X7_init 25 rfl) (q := 51) rfl (fun k46 _ => ?_)
  refine x_nmM (fun M47 => ?_)
  refine x_iinc (i := 1) c_iconst_1 rfl (by decide) (L' := [.ref r0, .int 5]) (by rw [show (4 : Int32) + 1 = 5 from by decide]; rfl) hC (zdk dk_X7_init 26 rfl) (q := 54) rfl ?_
  refine x_goto (tgt := 32) hC (zdk dk_X7_init 27 rfl) rfl ?_
  refine x_iload_n (i := 1) rfl hC (zdk dk_X7_init 16 rfl) (q := 33) rfl ?_
  refine x_bipush (i := 20) c_bipush_20 hC (zdk dk_X7_init 17 rfl) (q := 35) rfl ?_
  refine x_geF (by decide) hC (zdk dk_X7_init 18 rfl) (q := 38) rfl ?_
  refine x_aload_n (i := 0) rfl hC (zdk dk_X7_init 19 rfl) (q := 39) rfl ?_
  refine x_getR (k := 24) fl_RX7_11 rfl (zO_le h_r0 (by omega)) hC (zdk dk_X7_init 20 rfl) (q := 42) rfl (fun q48 hq48 => ?_)
  refine x_iload_n (i := 1) rfl hC (zdk dk_X7_init 21 rfl) (q := 43) rfl ?_
  refine x_if (fun hs51 => ?_)
  refine x_new nw_RX7_9 hs51 (n2 := n + 74) rfl (cs2 := (74, 2302)) rfl (zRk_le hk0 (by decide) (by decide)) hC (zdk dk_X7_init 22 rfl) (q := 46) rfl (fun hn49 => ?_)
  refine x_nmM (fun M50 => ?_)
  refine x_dup rfl hC (zdk dk_X7_init 23 rfl) (q := 47) rfl ?_
  refine x_callI (as := []) (mc' := 13) (ms' := 414) (n2 := n + 87) ic_RX7_24 rfl (by decide) (cs2 := (87, 2716)) rfl (zRk_le hk0 (by decide) (by decide)) (fun h => zO_lt hn49 h) hAO (fun x hx => t_X5_init hn49 x hx) hC (zdk dk_X7_init 24 rfl) (q := 50) rfl rfl (Nat.le_of_ble_eq_true rfl) (fun M52 => ?_)
  refine x_aast (kd := 24) (ke := 5) (zO_le hq48 (by omega)) (by decide) ⟨rfl, rfl, by decide⟩ (zO_le hn49 (by omega)) hC (zdk dk_X7_init 25 rfl) (q := 51) rfl (fun k53 _ => ?_)
  refine x_nmM (fun M54 => ?_)
  refine x_iinc (i := 1) c_iconst_1 rfl (by decide) (L' := [.ref r0, .int 6]) (by rw [show (5 : Int32) + 1 = 6 from by decide]; rfl) hC (zdk dk_X7_init 26 rfl) (q := 54) rfl ?_
  refine x_goto (tgt := 32) hC (zdk dk_X7_init 27 rfl) rfl ?_
  refine x_iload_n (i := 1) rfl hC (zdk dk_X7_init 16 rfl) (q := 33) rfl ?_
  refine x_bipush (i := 20) c_bipush_20 hC (zdk dk_X7_init 17 rfl) (q := 35) rfl ?_
  refine x_geF (by decide) hC (zdk dk_X7_init 18 rfl) (q := 38) rfl ?_
  refine x_aload_n (i := 0) rfl hC (zdk dk_X7_init 19 rfl) (q := 39) rfl ?_
  refine x_getR (k := 24) fl_RX7_11 rfl (zO_le h_r0 (by omega)) hC (zdk dk_X7_init 20 rfl) (q := 42) rfl (fun q55 hq55 => ?_)
  refine x_iload_n (i := 1) rfl hC (zdk dk_X7_init 21 rfl) (q := 43) rfl ?_
  refine x_if (fun hs58 => ?_)
  refine x_new nw_RX7_9 hs58 (n2 := n + 88) rfl (cs2 := (88, 2718)) rfl (zRk_le hk0 (by decide) (by decide)) hC (zdk dk_X7_init 22 rfl) (q := 46) rfl (fun hn56 => ?_)
  refine x_nmM (fun M57 => ?_)
  refine x_dup rfl hC (zdk dk_X7_init 23 rfl) (q := 47) rfl ?_
  refine x_callI (as := []) (mc' := 13) (ms' := 414) (n2 := n + 101) ic_RX7_24 rfl (by decide) (cs2 := (101, 3132)) rfl (zRk_le hk0 (by decide) (by decide)) (fun h => zO_lt hn56 h) hAO (fun x hx => t_X5_init hn56 x hx) hC (zdk dk_X7_init 24 rfl) (q := 50) rfl rfl (Nat.le_of_ble_eq_true rfl) (fun M59 => ?_)
  refine x_aast (kd := 24) (ke := 5) (zO_le hq55 (by omega)) (by decide) ⟨rfl, rfl, by decide⟩ (zO_le hn56 (by omega)) hC (zdk dk_X7_init 25 rfl) (q := 51) rfl (fun k60 _ => ?_)
  refine x_nmM (fun M61 => ?_)
  refine x_iinc (i := 1) c_iconst_1 rfl (by decide) (L' := [.ref r0, .int 7]) (by rw [show (6 : Int32) + 1 = 7 from by decide]; rfl) hC (zdk dk_X7_init 26 rfl) (q := 54) rfl ?_
  refine x_goto (tgt := 32) hC (zdk dk_X7_init 27 rfl) rfl ?_
  refine x_iload_n (i := 1) rfl hC (zdk dk_X7_init 16 rfl) (q := 33) rfl ?_
  refine x_bipush (i := 20) c_bipush_20 hC (zdk dk_X7_init 17 rfl) (q := 35) rfl ?_
  refine x_geF (by decide) hC (zdk dk_X7_init 18 rfl) (q := 38) rfl ?_
  refine x_aload_n (i := 0) rfl hC (zdk dk_X7_init 19 rfl) (q := 39) rfl ?_
  refine x_getR (k := 24) fl_RX7_11 rfl (zO_le h_r0 (by omega)) hC (zdk dk_X7_init 20 rfl) (q := 42) rfl (fun q62 hq62 => ?_)
  refine x_iload_n (i := 1) rfl hC (zdk dk_X7_init 21 rfl) (q := 43) rfl ?_
  refine x_if (fun hs65 => ?_)
  refine x_new nw_RX7_9 hs65 (n2 := n + 102) rfl (cs2 := (102, 3134)) rfl (zRk_le hk0 (by decide) (by decide)) hC (zdk dk_X7_init 22 rfl) (q := 46) rfl (fun hn63 => ?_)
  refine x_nmM (fun M64 => ?_)
  refine x_dup rfl hC (zdk dk_X7_init 23 rfl) (q := 47) rfl ?_
  refine x_callI (as := []) (mc' := 13) (ms' := 414) (n2 := n + 115) ic_RX7_24 rfl (by decide) (cs2 := (115, 3548)) rfl (zRk_le hk0 (by decide) (by decide)) (fun h => zO_lt hn63 h) hAO (fun x hx => t_X5_init hn63 x hx) hC (zdk dk_X7_init 24 rfl) (q := 50) rfl rfl (Nat.le_of_ble_eq_true rfl) (fun M66 => ?_)
  refine x_aast (kd := 24) (ke := 5) (zO_le hq62 (by omega)) (by decide) ⟨rfl, rfl, by decide⟩ (zO_le hn63 (by omega)) hC (zdk dk_X7_init 25 rfl) (q := 51) rfl (fun k67 _ => ?_)
  refine x_nmM (fun M68 => ?_)
  refine x_iinc (i := 1) c_iconst_1 rfl (by decide) (L' := [.ref r0, .int 8]) (by rw [show (7 : Int32) + 1 = 8 from by decide]; rfl) hC (zdk dk_X7_init 26 rfl) (q := 54) rfl ?_
  refine x_goto (tgt := 32) hC (zdk dk_X7_init 27 rfl) rfl ?_
  refine x_iload_n (i := 1) rfl hC (zdk dk_X7_init 16 rfl) (q := 33) rfl ?_
  refine x_bipush (i := 20) c_bipush_20 hC (zdk dk_X7_init 17 rfl) (q := 35) rfl ?_
  refine x_geF (by decide) hC (zdk dk_X7_init 18 rfl) (q := 38) rfl ?_
  refine x_aload_n (i := 0) rfl hC (zdk dk_X7_init 19 rfl) (q := 39) rfl ?_
  refine x_getR (k := 24) fl_RX7_11 rfl (zO_le h_r0 (by omega)) hC (zdk dk_X7_init 20 rfl) (q := 42) rfl (fun q69 hq69 => ?_)
  refine x_iload_n (i := 1) rfl hC (zdk dk_X7_init 21 rfl) (q := 43) rfl ?_
  refine x_if (fun hs72 => ?_)
  refine x_new nw_RX7_9 hs72 (n2 := n + 116) rfl (cs2 := (116, 3550)) rfl (zRk_le hk0 (by decide) (by decide)) hC (zdk dk_X7_init 22 rfl) (q := 46) rfl (fun hn70 => ?_)
  refine x_nmM (fun M71 => ?_)
  refine x_dup rfl hC (zdk dk_X7_init 23 rfl) (q := 47) rfl ?_
  refine x_callI (as := []) (mc' := 13) (ms' := 414) (n2 := n + 129) ic_RX7_24 rfl (by decide) (cs2 := (129, 3964)) rfl (zRk_le hk0 (by decide) (by decide)) (fun h => zO_lt hn70 h) hAO (fun x hx => t_X5_init hn70 x hx) hC (zdk dk_X7_init 24 rfl) (q := 50) rfl rfl (Nat.le_of_ble_eq_true rfl) (fun M73 => ?_)
  refine x_aast (kd := 24) (ke := 5) (zO_le hq69 (by omega)) (by decide) ⟨rfl, rfl, by decide⟩ (zO_le hn70 (by omega)) hC (zdk dk_X7_init 25 rfl) (q := 51) rfl (fun k74 _ => ?_)
  refine x_nmM (fun M75 => ?_)
  refine x_iinc (i := 1) c_iconst_1 rfl (by decide) (L' := [.ref r0, .int 9]) (by rw [show (8 : Int32) + 1 = 9 from by decide]; rfl) hC (zdk dk_X7_init 26 rfl) (q := 54) rfl ?_
  refine x_goto (tgt := 32) hC (zdk dk_X7_init 27 rfl) rfl ?_
  refine x_iload_n (i := 1) rfl hC (zdk dk_X7_init 16 rfl) (q := 33) rfl ?_
  refine x_bipush (i := 20) c_bipush_20 hC (zdk dk_X7_init 17 rfl) (q := 35) rfl ?_
  refine x_geF (by decide) hC (zdk dk_X7_init 18 rfl) (q := 38) rfl ?_
  refine x_aload_n (i := 0) rfl hC (zdk dk_X7_init 19 rfl) (q := 39) rfl ?_
  refine x_getR (k := 24) fl_RX7_11 rfl (zO_le h_r0 (by omega)) hC (zdk dk_X7_init 20 rfl) (q := 42) rfl (fun q76 hq76 => ?_)
  refine x_iload_n (i := 1) rfl hC (zdk dk_X7_init 21 rfl) (q := 43) rfl ?_
  refine x_if (fun hs79 => ?_)
  refine x_new nw_RX7_9 hs79 (n2 := n + 130) rfl (cs2 := (130, 3966)) rfl (zRk_le hk0 (by decide) (by decide)) hC (zdk dk_X7_init 22 rfl) (q := 46) rfl (fun hn77 => ?_)
  refine x_nmM (fun M78 => ?_)
  refine x_dup rfl hC (zdk dk_X7_init 23 rfl) (q := 47) rfl ?_
  refine x_callI (as := []) (mc' := 13) (ms' := 414) (n2 := n + 143) ic_RX7_24 rfl (by decide) (cs2 := (143, 4380)) rfl (zRk_le hk0 (by decide) (by decide)) (fun h => zO_lt hn77 h) hAO (fun x hx => t_X5_init hn77 x hx) hC (zdk dk_X7_init 24 rfl) (q := 50) rfl rfl (Nat.le_of_ble_eq_true rfl) (fun M80 => ?_)
  refine x_aast (kd := 24) (ke := 5) (zO_le hq76 (by omega)) (by decide) ⟨rfl, rfl, by decide⟩ (zO_le hn77 (by omega)) hC (zdk dk_X7_init 25 rfl) (q := 51) rfl (fun k81 _ => ?_)
  refine x_nmM (fun M82 => ?_)
  refine x_iinc (i := 1) c_iconst_1 rfl (by decide) (L' := [.ref r0, .int 10]) (by rw [show (9 : Int32) + 1 = 10 from by decide]; rfl) hC (zdk dk_X7_init 26 rfl) (q := 54) rfl ?_
  refine x_goto (tgt := 32) hC (zdk dk_X7_init 27 rfl) rfl ?_
  refine x_iload_n (i := 1) rfl hC (zdk dk_X7_init 16 rfl) (q := 33) rfl ?_
  refine x_bipush (i := 20) c_bipush_20 hC (zdk dk_X7_init 17 rfl) (q := 35) rfl ?_
  refine x_geF (by decide) hC (zdk dk_X7_init 18 rfl) (q := 38) rfl ?_
  refine x_aload_n (i := 0) rfl hC (zdk dk_X7_init 19 rfl) (q := 39) rfl ?_
  refine x_getR (k := 24) fl_RX7_11 rfl (zO_le h_r0 (by omega)) hC (zdk dk_X7_init 20 rfl) (q := 42) rfl (fun q83 hq83 => ?_)
  refine x_iload_n (i := 1) rfl hC (zdk dk_X7_init 21 rfl) (q := 43) rfl ?_
  refine x_if (fun hs86 => ?_)
  refine x_new nw_RX7_9 hs86 (n2 := n + 144) rfl (cs2 := (144, 4382)) rfl (zRk_le hk0 (by decide) (by decide)) hC (zdk dk_X7_init 22 rfl) (q := 46) rfl (fun hn84 => ?_)
  refine x_nmM (fun M85 => ?_)
  refine x_dup rfl hC (zdk dk_X7_init 23 rfl) (q := 47) rfl ?_
  refine x_callI (as := []) (mc' := 13) (ms' := 414) (n2 := n + 157) ic_RX7_24 rfl (by decide) (cs2 := (157, 4796)) rfl (zRk_le hk0 (by decide) (by decide)) (fun h => zO_lt hn84 h) hAO (fun x hx => t_X5_init hn84 x hx) hC (zdk dk_X7_init 24 rfl) (q := 50) rfl rfl (Nat.le_of_ble_eq_true rfl) (fun M87 => ?_)
  refine x_aast (kd := 24) (ke := 5) (zO_le hq83 (by omega)) (by decide) ⟨rfl, rfl, by decide⟩ (zO_le hn84 (by omega)) hC (zdk dk_X7_init 25 rfl) (q := 51) rfl (fun k88 _ => ?_)
  refine x_nmM (fun M89 => ?_)
  refine x_iinc (i := 1) c_iconst_1 rfl (by decide) (L' := [.ref r0, .int 11]) (by rw [show (10 : Int32) + 1 = 11 from by decide]; rfl) hC (zdk dk_X7_init 26 rfl) (q := 54) rfl ?_
  refine x_goto (tgt := 32) hC (zdk dk_X7_init 27 rfl) rfl ?_
  refine x_iload_n (i := 1) rfl hC (zdk dk_X7_init 16 rfl) (q := 33) rfl ?_
  refine x_bipush (i := 20) c_bipush_20 hC (zdk dk_X7_init 17 rfl) (q := 35) rfl ?_
  refine x_geF (by decide) hC (zdk dk_X7_init 18 rfl) (q := 38) rfl ?_
  refine x_aload_n (i := 0) rfl hC (zdk dk_X7_init 19 rfl) (q := 39) rfl ?_
  refine x_getR (k := 24) fl_RX7_11 rfl (zO_le h_r0 (by omega)) hC (zdk dk_X7_init 20 rfl) (q := 42) rfl (fun q90 hq90 => ?_)
  refine x_iload_n (i := 1) rfl hC (zdk dk_X7_init 21 rfl) (q := 43) rfl ?_
  refine x_if (fun hs93 => ?_)
  refine x_new nw_RX7_9 hs93 (n2 := n + 158) rfl (cs2 := (158, 4798)) rfl (zRk_le hk0 (by decide) (by decide)) hC (zdk dk_X7_init 22 rfl) (q := 46) rfl (fun hn91 => ?_)
  refine x_nmM (fun M92 => ?_)
  refine x_dup rfl hC (zdk dk_X7_init 23 rfl) (q := 47) rfl ?_
  refine x_callI (as := []) (mc' := 13) (ms' := 414) (n2 := n + 171) ic_RX7_24 rfl (by decide) (cs2 := (171, 5212)) rfl (zRk_le hk0 (by decide) (by decide)) (fun h => zO_lt hn91 h) hAO (fun x hx => t_X5_init hn91 x hx) hC (zdk dk_X7_init 24 rfl) (q := 50) rfl rfl (Nat.le_of_ble_eq_true rfl) (fun M94 => ?_)
  refine x_aast (kd := 24) (ke := 5) (zO_le hq90 (by omega)) (by decide) ⟨rfl, rfl, by decide⟩ (zO_le hn91 (by omega)) hC (zdk dk_X7_init 25 rfl) (q := 51) rfl (fun k95 _ => ?_)
  refine x_nmM (fun M96 => ?_)
  refine x_iinc (i := 1) c_iconst_1 rfl (by decide) (L' := [.ref r0, .int 12]) (by rw [show (11 : Int32) + 1 = 12 from by decide]; rfl) hC (zdk dk_X7_init 26 rfl) (q := 54) rfl ?_
  refine x_goto (tgt := 32) hC (zdk dk_X7_init 27 rfl) rfl ?_
  refine x_iload_n (i := 1) rfl hC (zdk dk_X7_init 16 rfl) (q := 33) rfl ?_
  refine x_bipush (i := 20) c_bipush_20 hC (zdk dk_X7_init 17 rfl) (q := 35) rfl ?_
  refine x_geF (by decide) hC (zdk dk_X7_init 18 rfl) (q := 38) rfl ?_
  refine x_aload_n (i := 0) rfl hC (zdk dk_X7_init 19 rfl) (q := 39) rfl ?_
  refine x_getR (k := 24) fl_RX7_11 rfl (zO_le h_r0 (by omega)) hC (zdk dk_X7_init 20 rfl) (q := 42) rfl (fun q97 hq97 => ?_)
  refine x_iload_n (i := 1) rfl hC (zdk dk_X7_init 21 rfl) (q := 43) rfl ?_
  refine x_if (fun hs100 => ?_)
  refine x_new nw_RX7_9 hs100 (n2 := n + 172) rfl (cs2 := (172, 5214)) rfl (zRk_le hk0 (by decide) (by decide)) hC (zdk dk_X7_init 22 rfl) (q := 46) rfl (fun hn98 => ?_)
  refine x_nmM (fun M99 => ?_)
  refine x_dup rfl hC (zdk dk_X7_init 23 rfl) (q := 47) rfl ?_
  refine x_callI (as := []) (mc' := 13) (ms' := 414) (n2 := n + 185) ic_RX7_24 rfl (by decide) (cs2 := (185, 5628)) rfl (zRk_le hk0 (by decide) (by decide)) (fun h => zO_lt hn98 h) hAO (fun x hx => t_X5_init hn98 x hx) hC (zdk dk_X7_init 24 rfl) (q := 50) rfl rfl (Nat.le_of_ble_eq_true rfl) (fun M101 => ?_)
  refine x_aast (kd := 24) (ke := 5) (zO_le hq97 (by omega)) (by decide) ⟨rfl, rfl, by decide⟩ (zO_le hn98 (by omega)) hC (zdk dk_X7_init 25 rfl) (q := 51) rfl (fun k102 _ => ?_)
  refine x_nmM (fun M103 => ?_)
  refine x_iinc (i := 1) c_iconst_1 rfl (by decide) (L' := [.ref r0, .int 13]) (by rw [show (12 : Int32) + 1 = 13 from by decide]; rfl) hC (zdk dk_X7_init 26 rfl) (q := 54) rfl ?_
  refine x_goto (tgt := 32) hC (zdk dk_X7_init 27 rfl) rfl ?_
  refine x_iload_n (i := 1) rfl hC (zdk dk_X7_init 16 rfl) (q := 33) rfl ?_
  refine x_bipush (i := 20) c_bipush_20 hC (zdk dk_X7_init 17 rfl) (q := 35) rfl ?_
  refine x_geF (by decide) hC (zdk dk_X7_init 18 rfl) (q := 38) rfl ?_
  refine x_aload_n (i := 0) rfl hC (zdk dk_X7_init 19 rfl) (q := 39) rfl ?_
  refine x_getR (k := 24) fl_RX7_11 rfl (zO_le h_r0 (by omega)) hC (zdk dk_X7_init 20 rfl) (q := 42) rfl (fun q104 hq104 => ?_)
  refine x_iload_n (i := 1) rfl hC (zdk dk_X7_init 21 rfl) (q := 43) rfl ?_
  refine x_if (fun hs107 => ?_)
  refine x_new nw_RX7_9 hs107 (n2 := n + 186) rfl (cs2 := (186, 5630)) rfl (zRk_le hk0 (by decide) (by decide)) hC (zdk dk_X7_init 22 rfl) (q := 46) rfl (fun hn105 => ?_)
  refine x_nmM (fun M106 => ?_)
  refine x_dup rfl hC (zdk dk_X7_init 23 rfl) (q := 47) rfl ?_
  refine x_callI (as := []) (mc' := 13) (ms' := 414) (n2 := n + 199) ic_RX7_24 rfl (by decide) (cs2 := (199, 6044)) rfl (zRk_le hk0 (by decide) (by decide)) (fun h => zO_lt hn105 h) hAO (fun x hx => t_X5_init hn105 x hx) hC (zdk dk_X7_init 24 rfl) (q := 50) rfl rfl (Nat.le_of_ble_eq_true rfl) (fun M108 => ?_)
  refine x_aast (kd := 24) (ke := 5) (zO_le hq104 (by omega)) (by decide) ⟨rfl, rfl, by decide⟩ (zO_le hn105 (by omega)) hC (zdk dk_X7_init 25 rfl) (q := 51) rfl (fun k109 _ => ?_)
  refine x_nmM (fun M110 => ?_)
  refine x_iinc (i := 1) c_iconst_1 rfl (by decide) (L' := [.ref r0, .int 14]) (by rw [show (13 : Int32) + 1 = 14 from by decide]; rfl) hC (zdk dk_X7_init 26 rfl) (q := 54) rfl ?_
  refine x_goto (tgt := 32) hC (zdk dk_X7_init 27 rfl) rfl ?_
  refine x_iload_n (i := 1) rfl hC (zdk dk_X7_init 16 rfl) (q := 33) rfl ?_
  refine x_bipush (i := 20) c_bipush_20 hC (zdk dk_X7_init 17 rfl) (q := 35) rfl ?_
  refine x_geF (by decide) hC (zdk dk_X7_init 18 rfl) (q := 38) rfl ?_
  refine x_aload_n (i := 0) rfl hC (zdk dk_X7_init 19 rfl) (q := 39) rfl ?_
  refine x_getR (k := 24) fl_RX7_11 rfl (zO_le h_r0 (by omega)) hC (zdk dk_X7_init 20 rfl) (q := 42) rfl (fun q111 hq111 => ?_)
  refine x_iload_n (i := 1) rfl hC (zdk dk_X7_init 21 rfl) (q := 43) rfl ?_
  refine x_if (fun hs114 => ?_)
  refine x_new nw_RX7_9 hs114 (n2 := n + 200) rfl (cs2 := (200, 6046)) rfl (zRk_le hk0 (by decide) (by decide)) hC (zdk dk_X7_init 22 rfl) (q := 46) rfl (fun hn112 => ?_)
  refine x_nmM (fun M113 => ?_)
  refine x_dup rfl hC (zdk dk_X7_init 23 rfl) (q := 47) rfl ?_
  refine x_callI (as := []) (mc' := 13) (ms' := 414) (n2 := n + 213) ic_RX7_24 rfl (by decide) (cs2 := (213, 6460)) rfl (zRk_le hk0 (by decide) (by decide)) (fun h => zO_lt hn112 h) hAO (fun x hx => t_X5_init hn112 x hx) hC (zdk dk_X7_init 24 rfl) (q := 50) rfl rfl (Nat.le_of_ble_eq_true rfl) (fun M115 => ?_)
  refine x_aast (kd := 24) (ke := 5) (zO_le hq111 (by omega)) (by decide) ⟨rfl, rfl, by decide⟩ (zO_le hn112 (by omega)) hC (zdk dk_X7_init 25 rfl) (q := 51) rfl (fun k116 _ => ?_)
  refine x_nmM (fun M117 => ?_)
  refine x_iinc (i := 1) c_iconst_1 rfl (by decide) (L' := [.ref r0, .int 15]) (by rw [show (14 : Int32) + 1 = 15 from by decide]; rfl) hC (zdk dk_X7_init 26 rfl) (q := 54) rfl ?_
  refine x_goto (tgt := 32) hC (zdk dk_X7_init 27 rfl) rfl ?_
  refine x_iload_n (i := 1) rfl hC (zdk dk_X7_init 16 rfl) (q := 33) rfl ?_
  refine x_bipush (i := 20) c_bipush_20 hC (zdk dk_X7_init 17 rfl) (q := 35) rfl ?_
  refine x_geF (by decide) hC (zdk dk_X7_init 18 rfl) (q := 38) rfl ?_
  refine x_aload_n (i := 0) rfl hC (zdk dk_X7_init 19 rfl) (q := 39) rfl ?_
  refine x_getR (k := 24) fl_RX7_11 rfl (zO_le h_r0 (by omega)) hC (zdk dk_X7_init 20 rfl) (q := 42) rfl (fun q118 hq118 => ?_)
  refine x_iload_n (i := 1) rfl hC (zdk dk_X7_init 21 rfl) (q := 43) rfl ?_
  refine x_if (fun hs121 => ?_)
  refine x_new nw_RX7_9 hs121 (n2 := n + 214) rfl (cs2 := (214, 6462)) rfl (zRk_le hk0 (by decide) (by decide)) hC (zdk dk_X7_init 22 rfl) (q := 46) rfl (fun hn119 => ?_)
  refine x_nmM (fun M120 => ?_)
  refine x_dup rfl hC (zdk dk_X7_init 23 rfl) (q := 47) rfl ?_
  refine x_callI (as := []) (mc' := 13) (ms' := 414) (n2 := n + 227) ic_RX7_24 rfl (by decide) (cs2 := (227, 6876)) rfl (zRk_le hk0 (by decide) (by decide)) (fun h => zO_lt hn119 h) hAO (fun x hx => t_X5_init hn119 x hx) hC (zdk dk_X7_init 24 rfl) (q := 50) rfl rfl (Nat.le_of_ble_eq_true rfl) (fun M122 => ?_)
  refine x_aast (kd := 24) (ke := 5) (zO_le hq118 (by omega)) (by decide) ⟨rfl, rfl, by decide⟩ (zO_le hn119 (by omega)) hC (zdk dk_X7_init 25 rfl) (q := 51) rfl (fun k123 _ => ?_)
  refine x_nmM (fun M124 => ?_)
  refine x_iinc (i := 1) c_iconst_1 rfl (by decide) (L' := [.ref r0, .int 16]) (by rw [show (15 : Int32) + 1 = 16 from by decide]; rfl) hC (zdk dk_X7_init 26 rfl) (q := 54) rfl ?_
  refine x_goto (tgt := 32) hC (zdk dk_X7_init 27 rfl) rfl ?_
  refine x_iload_n (i := 1) rfl hC (zdk dk_X7_init 16 rfl) (q := 33) rfl ?_
  refine x_bipush (i := 20) c_bipush_20 hC (zdk dk_X7_init 17 rfl) (q := 35) rfl ?_
  refine x_geF (by decide) hC (zdk dk_X7_init 18 rfl) (q := 38) rfl ?_
  refine x_aload_n (i := 0) rfl hC (zdk dk_X7_init 19 rfl) (q := 39) rfl ?_
  refine x_getR (k := 24) fl_RX7_11 rfl (zO_le h_r0 (by omega)) hC (zdk dk_X7_init 20 rfl) (q := 42) rfl (fun q125 hq125 => ?_)
  refine x_iload_n (i := 1) rfl hC (zdk dk_X7_init 21 rfl) (q := 43) rfl ?_
  refine x_if (fun hs128 => ?_)
  refine x_new nw_RX7_9 hs128 (n2 := n + 228) rfl (cs2 := (228, 6878)) rfl (zRk_le hk0 (by decide) (by decide)) hC (zdk dk_X7_init 22 rfl) (q := 46) rfl (fun hn126 => ?_)
  refine x_nmM (fun M127 => ?_)
  refine x_dup rfl hC (zdk dk_X7_init 23 rfl) (q := 47) rfl ?_
  refine x_callI (as := []) (mc' := 13) (ms' := 414) (n2 := n + 241) ic_RX7_24 rfl (by decide) (cs2 := (241, 7292)) rfl (zRk_le hk0 (by decide) (by decide)) (fun h => zO_lt hn126 h) hAO (fun x hx => t_X5_init hn126 x hx) hC (zdk dk_X7_init 24 rfl) (q := 50) rfl rfl (Nat.le_of_ble_eq_true rfl) (fun M129 => ?_)
  refine x_aast (kd := 24) (ke := 5) (zO_le hq125 (by omega)) (by decide) ⟨rfl, rfl, by decide⟩ (zO_le hn126 (by omega)) hC (zdk dk_X7_init 25 rfl) (q := 51) rfl (fun k130 _ => ?_)
  refine x_nmM (fun M131 => ?_)
  refine x_iinc (i := 1) c_iconst_1 rfl (by decide) (L' := [.ref r0, .int 17]) (by rw [show (16 : Int32) + 1 = 17 from by decide]; rfl) hC (zdk dk_X7_init 26 rfl) (q := 54) rfl ?_
  refine x_goto (tgt := 32) hC (zdk dk_X7_init 27 rfl) rfl ?_
  refine x_iload_n (i := 1) rfl hC (zdk dk_X7_init 16 rfl) (q := 33) rfl ?_
  refine x_bipush (i := 20) c_bipush_20 hC (zdk dk_X7_init 17 rfl) (q := 35) rfl ?_
  refine x_geF (by decide) hC (zdk dk_X7_init 18 rfl) (q := 38) rfl ?_
  refine x_aload_n (i := 0) rfl hC (zdk dk_X7_init 19 rfl) (q := 39) rfl ?_
  refine x_getR (k := 24) fl_RX7_11 rfl (zO_le h_r0 (by omega)) hC (zdk dk_X7_init 20 rfl) (q := 42) rfl (fun q132 hq132 => ?_)
  refine x_iload_n (i := 1) rfl hC (zdk dk_X7_init 21 rfl) (q := 43) rfl ?_
  refine x_if (fun hs135 => ?_)
  refine x_new nw_RX7_9 hs135 (n2 := n + 242) rfl (cs2 := (242, 7294)) rfl (zRk_le hk0 (by decide) (by decide)) hC (zdk dk_X7_init 22 rfl) (q := 46) rfl (fun hn133 => ?_)
  refine x_nmM (fun M134 => ?_)
  refine x_dup rfl hC (zdk dk_X7_init 23 rfl) (q := 47) rfl ?_
  refine x_callI (as := []) (mc' := 13) (ms' := 414) (n2 := n + 255) ic_RX7_24 rfl (by decide) (cs2 := (255, 7708)) rfl (zRk_le hk0 (by decide) (by decide)) (fun h => zO_lt hn133 h) hAO (fun x hx => t_X5_init hn133 x hx) hC (zdk dk_X7_init 24 rfl) (q := 50) rfl rfl (Nat.le_of_ble_eq_true rfl) (fun M136 => ?_)
  refine x_aast (kd := 24) (ke := 5) (zO_le hq132 (by omega)) (by decide) ⟨rfl, rfl, by decide⟩ (zO_le hn133 (by omega)) hC (zdk dk_X7_init 25 rfl) (q := 51) rfl (fun k137 _ => ?_)
  refine x_nmM (fun M138 => ?_)
  refine x_iinc (i := 1) c_iconst_1 rfl (by decide) (L' := [.ref r0, .int 18]) (by rw [show (17 : Int32) + 1 = 18 from by decide]; rfl) hC (zdk dk_X7_init 26 rfl) (q := 54) rfl ?_
  refine x_goto (tgt := 32) hC (zdk dk_X7_init 27 rfl) rfl ?_
  refine x_iload_n (i := 1) rfl hC (zdk dk_X7_init 16 rfl) (q := 33) rfl ?_
  refine x_bipush (i := 20) c_bipush_20 hC (zdk dk_X7_init 17 rfl) (q := 35) rfl ?_
  refine x_geF (by decide) hC (zdk dk_X7_init 18 rfl) (q := 38) rfl ?_
  refine x_aload_n (i := 0) rfl hC (zdk dk_X7_init 19 rfl) (q := 39) rfl ?_
  refine x_getR (k := 24) fl_RX7_11 rfl (zO_le h_r0 (by omega)) hC (zdk dk_X7_init 20 rfl) (q := 42) rfl (fun q139 hq139 => ?_)
  refine x_iload_n (i := 1) rfl hC (zdk dk_X7_init 21 rfl) (q := 43) rfl ?_
  refine x_if (fun hs142 => ?_)
  refine x_new nw_RX7_9 hs142 (n2 := n + 256) rfl (cs2 := (256, 7710)) rfl (zRk_le hk0 (by decide) (by decide)) hC (zdk dk_X7_init 22 rfl) (q := 46) rfl (fun hn140 => ?_)
  refine x_nmM (fun M141 => ?_)
  refine x_dup rfl hC (zdk dk_X7_init 23 rfl) (q := 47) rfl ?_
  refine x_callI (as := []) (mc' := 13) (ms' := 414) (n2 := n + 269) ic_RX7_24 rfl (by decide) (cs2 := (269, 8124)) rfl (zRk_le hk0 (by decide) (by decide)) (fun h => zO_lt hn140 h) hAO (fun x hx => t_X5_init hn140 x hx) hC (zdk dk_X7_init 24 rfl) (q := 50) rfl rfl (Nat.le_of_ble_eq_true rfl) (fun M143 => ?_)
  refine x_aast (kd := 24) (ke := 5) (zO_le hq139 (by omega)) (by decide) ⟨rfl, rfl, by decide⟩ (zO_le hn140 (by omega)) hC (zdk dk_X7_init 25 rfl) (q := 51) rfl (fun k144 _ => ?_)
  refine x_nmM (fun M145 => ?_)
  refine x_iinc (i := 1) c_iconst_1 rfl (by decide) (L' := [.ref r0, .int 19]) (by rw [show (18 : Int32) + 1 = 19 from by decide]; rfl) hC (zdk dk_X7_init 26 rfl) (q := 54) rfl ?_
  refine x_goto (tgt := 32) hC (zdk dk_X7_init 27 rfl) rfl ?_
  refine x_iload_n (i := 1) rfl hC (zdk dk_X7_init 16 rfl) (q := 33) rfl ?_
  refine x_bipush (i := 20) c_bipush_20 hC (zdk dk_X7_init 17 rfl) (q := 35) rfl ?_
  refine x_geF (by decide) hC (zdk dk_X7_init 18 rfl) (q := 38) rfl ?_
  refine x_aload_n (i := 0) rfl hC (zdk dk_X7_init 19 rfl) (q := 39) rfl ?_
  refine x_getR (k := 24) fl_RX7_11 rfl (zO_le h_r0 (by omega)) hC (zdk dk_X7_init 20 rfl) (q := 42) rfl (fun q146 hq146 => ?_)
  refine x_iload_n (i := 1) rfl hC (zdk dk_X7_init 21 rfl) (q := 43) rfl ?_
  refine x_if (fun hs149 => ?_)
  refine x_new nw_RX7_9 hs149 (n2 := n + 270) rfl (cs2 := (270, 8126)) rfl (zRk_le hk0 (by decide) (by decide)) hC (zdk dk_X7_init 22 rfl) (q := 46) rfl (fun hn147 => ?_)
  refine x_nmM (fun M148 => ?_)
  refine x_dup rfl hC (zdk dk_X7_init 23 rfl) (q := 47) rfl ?_
  refine x_callI (as := []) (mc' := 13) (ms' := 414) (n2 := n + 283) ic_RX7_24 rfl (by decide) (cs2 := (283, 8540)) rfl (zRk_le hk0 (by decide) (by decide)) (fun h => zO_lt hn147 h) hAO (fun x hx => t_X5_init hn147 x hx) hC (zdk dk_X7_init 24 rfl) (q := 50) rfl rfl (Nat.le_of_ble_eq_true rfl) (fun M150 => ?_)
  refine x_aast (kd := 24) (ke := 5) (zO_le hq146 (by omega)) (by decide) ⟨rfl, rfl, by decide⟩ (zO_le hn147 (by omega)) hC (zdk dk_X7_init 25 rfl) (q := 51) rfl (fun k151 _ => ?_)
  refine x_nmM (fun M152 => ?_)
  refine x_iinc (i := 1) c_iconst_1 rfl (by decide) (L' := [.ref r0, .int 20]) (by rw [show (19 : Int32) + 1 = 20 from by decide]; rfl) hC (zdk dk_X7_init 26 rfl) (q := 54) rfl ?_
  refine x_goto (tgt := 32) hC (zdk dk_X7_init 27 rfl) rfl ?_
  refine x_iload_n (i := 1) rfl hC (zdk dk_X7_init 16 rfl) (q := 33) rfl ?_
  refine x_bipush (i := 20) c_bipush_20 hC (zdk dk_X7_init 17 rfl) (q := 35) rfl ?_
  refine x_geT (tgt := 57) (by decide) hC (zdk dk_X7_init 18 rfl) rfl ?_
  exact x_vret hE hC (zdk dk_X7_init 28 rfl)
set_option maxRecDepth 100000 in
set_option maxHeartbeats 8000000 in
theorem t_X7_init {n : Nat} {r0 : Nat} {M : Mem} (h_r0 : zO n r0 7) (x : Mem) (hx : f_X7_init n r0 M = some x) (l : Launch) (dC : Nat → ClassId) (dI : Nat → Nat → Nat) (b : zSg) : MTc l dC dI b yX7_init cX7_init 2 3 283 8540 n (n + 283) [.ref r0] M x :=
  MTc.ofX (by decide +kernel) rfl (Nat.le_of_ble_eq_true rfl) (fun κ hC hF hN hAO => x_X7_init hC (zEnd_of hF (Nat.le_refl _) (Nat.le_refl _)) (zRk_of hF (Nat.le_refl _) (Nat.le_refl _)) (zInit_of hN rfl) hAO _ _ h_r0) x hx
set_option maxRecDepth 100000 in
def dt_X9_init : List (Nat × Instr × Nat) := [(0, .aload_n 0, 1), (1, .invokespecial 3, 3), (4, .aload_n 0, 1), (5, .bipush 16, 2), (7, .newarray .int, 2), (9, .putfield 9, 3), (12, .aload_n 0, 1), (13, .bipush 16, 2), (15, .newarray .int, 2), (17, .putfield 15, 3), (20, .aload_n 0, 1), (21, .bipush 19, 2), (23, .newarray .int, 2), (25, .putfield 18, 3), (28, .aload_n 0, 1), (29, .bipush 119, 2), (31, .newarray .int, 2), (33, .putfield 21, 3), (36, .aload_n 0, 1), (37, .bipush 64, 2), (39, .newarray .int, 2), (41, .putfield 24, 3), (44, .return_, 1)]
set_option maxRecDepth 100000 in
theorem dk_X9_init : dt_X9_init.all (fun q => decide (decode cX9_init q.1 = .ok q.2)) = true := by decide +kernel
set_option maxRecDepth 100000 in
def f_X9_init (n : Nat) (r0 : Nat) (M : Mem) : Option Mem := if zSH n = (20, 16) then Option.bind (some (znew M n)) fun M2 => Option.bind (some (zsR M2 r0 0 (n + 1))) fun M4 => if zSH (n + 1) = (20, 16) then Option.bind (some (znew M4 (n + 1))) fun M6 => Option.bind (some (zsR M6 r0 1 (n + 1 + 1))) fun M8 => if zSH (n + 2) = (20, 19) then Option.bind (some (znew M8 (n + 2))) fun M10 => Option.bind (some (zsR M10 r0 2 (n + 2 + 1))) fun M12 => if zSH (n + 3) = (20, 119) then Option.bind (some (znew M12 (n + 3))) fun M14 => Option.bind (some (zsR M14 r0 3 (n + 3 + 1))) fun M16 => if zSH (n + 4) = (20, 64) then Option.bind (some (znew M16 (n + 4))) fun M18 => Option.bind (some (zsR M18 r0 4 (n + 4 + 1))) fun M20 => some M20 else none else none else none else none else none
set_option maxRecDepth 100000 in
set_option maxHeartbeats 8000000 in
theorem x_X9_init {κ : KX} {n : Nat} (hC : CX κ cX9_init RX9 1 none 1) (hE : zEnd κ (n + 5) (5, 234)) (hk0 : zRk κ (5, 234)) (hIn : zInit κ) (hAO : zAOk κ) (r0 : Nat) (M : Mem) (h_r0 : zO n r0 9) : X κ 1 emV n (0, 0) 0 [.ref r0] [] M (f_X9_init n r0 M) := by
  unfold f_X9_init
  refine x_aload_n (i := 0) rfl hC (zdk dk_X9_init 0 rfl) (q := 1) rfl ?_
  refine x_oinit oi_RX9_3 hC (zdk dk_X9_init 1 rfl) (q := 4) rfl (Nat.le_of_ble_eq_true rfl) ?_
  refine x_aload_n (i := 0) rfl hC (zdk dk_X9_init 2 rfl) (q := 5) rfl ?_
  refine x_bipush (i := 16) c_bipush_16 hC (zdk dk_X9_init 3 rfl) (q := 7) rfl ?_
  refine x_if (fun hs3 => ?_)
  refine x_newa (k := 20) zac_20 (by decide) rfl (N := 16) (by decide) hs3 (n2 := n + 1) rfl (cs2 := (1, 16)) rfl (zRk_le hk0 (by decide) (by decide)) hC (zdk dk_X9_init 4 rfl) (q := 9) rfl (fun hn1 => ?_)
  refine x_nmM (fun M2 => ?_)
  refine x_putR (k := 20) fl_RX9_9 (fun _ => ⟨rfl, rfl⟩) rfl hn1 (Or.inr ⟨hIn, rfl⟩) (zO_le h_r0 (by omega)) hC (zdk dk_X9_init 5 rfl) (q := 12) rfl ?_
  refine x_nmM (fun M4 => ?_)
  refine x_aload_n (i := 0) rfl hC (zdk dk_X9_init 6 rfl) (q := 13) rfl ?_
  refine x_bipush (i := 16) c_bipush_16 hC (zdk dk_X9_init 7 rfl) (q := 15) rfl ?_
  refine x_if (fun hs7 => ?_)
  refine x_newa (k := 20) zac_20 (by decide) rfl (N := 16) (by decide) hs7 (n2 := n + 2) rfl (cs2 := (2, 32)) rfl (zRk_le hk0 (by decide) (by decide)) hC (zdk dk_X9_init 8 rfl) (q := 17) rfl (fun hn5 => ?_)
  refine x_nmM (fun M6 => ?_)
  refine x_putR (k := 20) fl_RX9_15 (fun _ => ⟨rfl, rfl⟩) rfl hn5 (Or.inr ⟨hIn, rfl⟩) (zO_le h_r0 (by omega)) hC (zdk dk_X9_init 9 rfl) (q := 20) rfl ?_
  refine x_nmM (fun M8 => ?_)
  refine x_aload_n (i := 0) rfl hC (zdk dk_X9_init 10 rfl) (q := 21) rfl ?_
  refine x_bipush (i := 19) c_bipush_19 hC (zdk dk_X9_init 11 rfl) (q := 23) rfl ?_
  refine x_if (fun hs11 => ?_)
  refine x_newa (k := 20) zac_20 (by decide) rfl (N := 19) (by decide) hs11 (n2 := n + 3) rfl (cs2 := (3, 51)) rfl (zRk_le hk0 (by decide) (by decide)) hC (zdk dk_X9_init 12 rfl) (q := 25) rfl (fun hn9 => ?_)
  refine x_nmM (fun M10 => ?_)
  refine x_putR (k := 20) fl_RX9_18 (fun _ => ⟨rfl, rfl⟩) rfl hn9 (Or.inr ⟨hIn, rfl⟩) (zO_le h_r0 (by omega)) hC (zdk dk_X9_init 13 rfl) (q := 28) rfl ?_
  refine x_nmM (fun M12 => ?_)
  refine x_aload_n (i := 0) rfl hC (zdk dk_X9_init 14 rfl) (q := 29) rfl ?_
  refine x_bipush (i := 119) c_bipush_119 hC (zdk dk_X9_init 15 rfl) (q := 31) rfl ?_
  refine x_if (fun hs15 => ?_)
  refine x_newa (k := 20) zac_20 (by decide) rfl (N := 119) (by decide) hs15 (n2 := n + 4) rfl (cs2 := (4, 170)) rfl (zRk_le hk0 (by decide) (by decide)) hC (zdk dk_X9_init 16 rfl) (q := 33) rfl (fun hn13 => ?_)
  refine x_nmM (fun M14 => ?_)
  refine x_putR (k := 20) fl_RX9_21 (fun _ => ⟨rfl, rfl⟩) rfl hn13 (Or.inr ⟨hIn, rfl⟩) (zO_le h_r0 (by omega)) hC (zdk dk_X9_init 17 rfl) (q := 36) rfl ?_
  refine x_nmM (fun M16 => ?_)
  refine x_aload_n (i := 0) rfl hC (zdk dk_X9_init 18 rfl) (q := 37) rfl ?_
  refine x_bipush (i := 64) c_bipush_64 hC (zdk dk_X9_init 19 rfl) (q := 39) rfl ?_
  refine x_if (fun hs19 => ?_)
  refine x_newa (k := 20) zac_20 (by decide) rfl (N := 64) (by decide) hs19 (n2 := n + 5) rfl (cs2 := (5, 234)) rfl (zRk_le hk0 (by decide) (by decide)) hC (zdk dk_X9_init 20 rfl) (q := 41) rfl (fun hn17 => ?_)
  refine x_nmM (fun M18 => ?_)
  refine x_putR (k := 20) fl_RX9_24 (fun _ => ⟨rfl, rfl⟩) rfl hn17 (Or.inr ⟨hIn, rfl⟩) (zO_le h_r0 (by omega)) hC (zdk dk_X9_init 21 rfl) (q := 44) rfl ?_
  refine x_nmM (fun M20 => ?_)
  exact x_vret hE hC (zdk dk_X9_init 22 rfl)
set_option maxRecDepth 100000 in
set_option maxHeartbeats 8000000 in
theorem t_X9_init {n : Nat} {r0 : Nat} {M : Mem} (h_r0 : zO n r0 9) (x : Mem) (hx : f_X9_init n r0 M = some x) (l : Launch) (dC : Nat → ClassId) (dI : Nat → Nat → Nat) (b : zSg) : MTc l dC dI b yX9_init cX9_init 1 1 5 234 n (n + 5) [.ref r0] M x :=
  MTc.ofX (by decide +kernel) rfl (Nat.le_of_ble_eq_true rfl) (fun κ hC hF hN hAO => x_X9_init hC (zEnd_of hF (Nat.le_refl _) (Nat.le_refl _)) (zRk_of hF (Nat.le_refl _) (Nat.le_refl _)) (zInit_of hN rfl) hAO _ _ h_r0) x hx
set_option maxRecDepth 100000 in
def dt_X4_init : List (Nat × Instr × Nat) := [(0, .aload_n 0, 1), (1, .invokespecial 3, 3), (4, .aload_n 0, 1), (5, .sipush 441, 3), (8, .newarray .int, 2), (10, .putfield 9, 3), (13, .return_, 1)]
set_option maxRecDepth 100000 in
theorem dk_X4_init : dt_X4_init.all (fun q => decide (decode cX4_init q.1 = .ok q.2)) = true := by decide +kernel
set_option maxRecDepth 100000 in
def f_X4_init (n : Nat) (r0 : Nat) (M : Mem) : Option Mem := if zSH n = (20, 441) then Option.bind (some (znew M n)) fun M2 => Option.bind (some (zsR M2 r0 0 (n + 1))) fun M4 => some M4 else none
set_option maxRecDepth 100000 in
set_option maxHeartbeats 8000000 in
theorem x_X4_init {κ : KX} {n : Nat} (hC : CX κ cX4_init RX4 1 none 1) (hE : zEnd κ (n + 1) (1, 441)) (hk0 : zRk κ (1, 441)) (hIn : zInit κ) (hAO : zAOk κ) (r0 : Nat) (M : Mem) (h_r0 : zO n r0 4) : X κ 1 emV n (0, 0) 0 [.ref r0] [] M (f_X4_init n r0 M) := by
  unfold f_X4_init
  refine x_aload_n (i := 0) rfl hC (zdk dk_X4_init 0 rfl) (q := 1) rfl ?_
  refine x_oinit oi_RX4_3 hC (zdk dk_X4_init 1 rfl) (q := 4) rfl (Nat.le_of_ble_eq_true rfl) ?_
  refine x_aload_n (i := 0) rfl hC (zdk dk_X4_init 2 rfl) (q := 5) rfl ?_
  refine x_sipush (i := 441) c_sipush_441 hC (zdk dk_X4_init 3 rfl) (q := 8) rfl ?_
  refine x_if (fun hs3 => ?_)
  refine x_newa (k := 20) zac_20 (by decide) rfl (N := 441) (by decide) hs3 (n2 := n + 1) rfl (cs2 := (1, 441)) rfl (zRk_le hk0 (by decide) (by decide)) hC (zdk dk_X4_init 4 rfl) (q := 10) rfl (fun hn1 => ?_)
  refine x_nmM (fun M2 => ?_)
  refine x_putR (k := 20) fl_RX4_9 (fun _ => ⟨rfl, rfl⟩) rfl hn1 (Or.inr ⟨hIn, rfl⟩) (zO_le h_r0 (by omega)) hC (zdk dk_X4_init 5 rfl) (q := 13) rfl ?_
  refine x_nmM (fun M4 => ?_)
  exact x_vret hE hC (zdk dk_X4_init 6 rfl)
set_option maxRecDepth 100000 in
set_option maxHeartbeats 8000000 in
theorem t_X4_init {n : Nat} {r0 : Nat} {M : Mem} (h_r0 : zO n r0 4) (x : Mem) (hx : f_X4_init n r0 M = some x) (l : Launch) (dC : Nat → ClassId) (dI : Nat → Nat → Nat) (b : zSg) : MTc l dC dI b yX4_init cX4_init 1 1 1 441 n (n + 1) [.ref r0] M x :=
  MTc.ofX (by decide +kernel) rfl (Nat.le_of_ble_eq_true rfl) (fun κ hC hF hN hAO => x_X4_init hC (zEnd_of hF (Nat.le_refl _) (Nat.le_refl _)) (zRk_of hF (Nat.le_refl _) (Nat.le_refl _)) (zInit_of hN rfl) hAO _ _ h_r0) x hx
set_option maxRecDepth 100000 in
def dt_X1_init : List (Nat × Instr × Nat) := [(0, .aload_n 0, 1), (1, .invokespecial 3, 3), (4, .aload_n 0, 1), (5, .bipush 63, 2), (7, .newarray .int, 2), (9, .putfield 9, 3), (12, .aload_n 0, 1), (13, .bipush 64, 2), (15, .newarray .int, 2), (17, .putfield 15, 3), (20, .aload_n 0, 1), (21, .bipush 64, 2), (23, .newarray .int, 2), (25, .putfield 18, 3), (28, .aload_n 0, 1), (29, .bipush 64, 2), (31, .newarray .long, 2), (33, .putfield 21, 3), (36, .aload_n 0, 1), (37, .iconst 4, 1), (38, .newarray .int, 2), (40, .putfield 25, 3), (43, .return_, 1)]
set_option maxRecDepth 100000 in
theorem dk_X1_init : dt_X1_init.all (fun q => decide (decode cX1_init q.1 = .ok q.2)) = true := by decide +kernel
set_option maxRecDepth 100000 in
def f_X1_init (n : Nat) (r0 : Nat) (M : Mem) : Option Mem := if zSH n = (20, 63) then Option.bind (some (znew M n)) fun M2 => Option.bind (some (zsR M2 r0 0 (n + 1))) fun M4 => if zSH (n + 1) = (20, 64) then Option.bind (some (znew M4 (n + 1))) fun M6 => Option.bind (some (zsR M6 r0 1 (n + 1 + 1))) fun M8 => if zSH (n + 2) = (20, 64) then Option.bind (some (znew M8 (n + 2))) fun M10 => Option.bind (some (zsR M10 r0 2 (n + 2 + 1))) fun M12 => if zSH (n + 3) = (21, 64) then Option.bind (some (znew M12 (n + 3))) fun M14 => Option.bind (some (zsR M14 r0 3 (n + 3 + 1))) fun M16 => if zSH (n + 4) = (20, 4) then Option.bind (some (znew M16 (n + 4))) fun M18 => Option.bind (some (zsR M18 r0 4 (n + 4 + 1))) fun M20 => some M20 else none else none else none else none else none
set_option maxRecDepth 100000 in
set_option maxHeartbeats 8000000 in
theorem x_X1_init {κ : KX} {n : Nat} (hC : CX κ cX1_init RX1 1 none 1) (hE : zEnd κ (n + 5) (5, 259)) (hk0 : zRk κ (5, 259)) (hIn : zInit κ) (hAO : zAOk κ) (r0 : Nat) (M : Mem) (h_r0 : zO n r0 1) : X κ 1 emV n (0, 0) 0 [.ref r0] [] M (f_X1_init n r0 M) := by
  unfold f_X1_init
  refine x_aload_n (i := 0) rfl hC (zdk dk_X1_init 0 rfl) (q := 1) rfl ?_
  refine x_oinit oi_RX1_3 hC (zdk dk_X1_init 1 rfl) (q := 4) rfl (Nat.le_of_ble_eq_true rfl) ?_
  refine x_aload_n (i := 0) rfl hC (zdk dk_X1_init 2 rfl) (q := 5) rfl ?_
  refine x_bipush (i := 63) c_bipush_63 hC (zdk dk_X1_init 3 rfl) (q := 7) rfl ?_
  refine x_if (fun hs3 => ?_)
  refine x_newa (k := 20) zac_20 (by decide) rfl (N := 63) (by decide) hs3 (n2 := n + 1) rfl (cs2 := (1, 63)) rfl (zRk_le hk0 (by decide) (by decide)) hC (zdk dk_X1_init 4 rfl) (q := 9) rfl (fun hn1 => ?_)
  refine x_nmM (fun M2 => ?_)
  refine x_putR (k := 20) fl_RX1_9 (fun _ => ⟨rfl, rfl⟩) rfl hn1 (Or.inr ⟨hIn, rfl⟩) (zO_le h_r0 (by omega)) hC (zdk dk_X1_init 5 rfl) (q := 12) rfl ?_
  refine x_nmM (fun M4 => ?_)
  refine x_aload_n (i := 0) rfl hC (zdk dk_X1_init 6 rfl) (q := 13) rfl ?_
  refine x_bipush (i := 64) c_bipush_64 hC (zdk dk_X1_init 7 rfl) (q := 15) rfl ?_
  refine x_if (fun hs7 => ?_)
  refine x_newa (k := 20) zac_20 (by decide) rfl (N := 64) (by decide) hs7 (n2 := n + 2) rfl (cs2 := (2, 127)) rfl (zRk_le hk0 (by decide) (by decide)) hC (zdk dk_X1_init 8 rfl) (q := 17) rfl (fun hn5 => ?_)
  refine x_nmM (fun M6 => ?_)
  refine x_putR (k := 20) fl_RX1_15 (fun _ => ⟨rfl, rfl⟩) rfl hn5 (Or.inr ⟨hIn, rfl⟩) (zO_le h_r0 (by omega)) hC (zdk dk_X1_init 9 rfl) (q := 20) rfl ?_
  refine x_nmM (fun M8 => ?_)
  refine x_aload_n (i := 0) rfl hC (zdk dk_X1_init 10 rfl) (q := 21) rfl ?_
  refine x_bipush (i := 64) c_bipush_64 hC (zdk dk_X1_init 11 rfl) (q := 23) rfl ?_
  refine x_if (fun hs11 => ?_)
  refine x_newa (k := 20) zac_20 (by decide) rfl (N := 64) (by decide) hs11 (n2 := n + 3) rfl (cs2 := (3, 191)) rfl (zRk_le hk0 (by decide) (by decide)) hC (zdk dk_X1_init 12 rfl) (q := 25) rfl (fun hn9 => ?_)
  refine x_nmM (fun M10 => ?_)
  refine x_putR (k := 20) fl_RX1_18 (fun _ => ⟨rfl, rfl⟩) rfl hn9 (Or.inr ⟨hIn, rfl⟩) (zO_le h_r0 (by omega)) hC (zdk dk_X1_init 13 rfl) (q := 28) rfl ?_
  refine x_nmM (fun M12 => ?_)
  refine x_aload_n (i := 0) rfl hC (zdk dk_X1_init 14 rfl) (q := 29) rfl ?_
  refine x_bipush (i := 64) c_bipush_64 hC (zdk dk_X1_init 15 rfl) (q := 31) rfl ?_
  refine x_if (fun hs15 => ?_)
  refine x_newa (k := 21) zac_21 (by decide) rfl (N := 64) (by decide) hs15 (n2 := n + 4) rfl (cs2 := (4, 255)) rfl (zRk_le hk0 (by decide) (by decide)) hC (zdk dk_X1_init 16 rfl) (q := 33) rfl (fun hn13 => ?_)
  refine x_nmM (fun M14 => ?_)
  refine x_putR (k := 21) fl_RX1_21 (fun _ => ⟨rfl, rfl⟩) rfl hn13 (Or.inr ⟨hIn, rfl⟩) (zO_le h_r0 (by omega)) hC (zdk dk_X1_init 17 rfl) (q := 36) rfl ?_
  refine x_nmM (fun M16 => ?_)
  refine x_aload_n (i := 0) rfl hC (zdk dk_X1_init 18 rfl) (q := 37) rfl ?_
  refine x_iconst (i := 4) c_iconst_4 hC (zdk dk_X1_init 19 rfl) (q := 38) rfl ?_
  refine x_if (fun hs19 => ?_)
  refine x_newa (k := 20) zac_20 (by decide) rfl (N := 4) (by decide) hs19 (n2 := n + 5) rfl (cs2 := (5, 259)) rfl (zRk_le hk0 (by decide) (by decide)) hC (zdk dk_X1_init 20 rfl) (q := 40) rfl (fun hn17 => ?_)
  refine x_nmM (fun M18 => ?_)
  refine x_putR (k := 20) fl_RX1_25 (fun _ => ⟨rfl, rfl⟩) rfl hn17 (Or.inr ⟨hIn, rfl⟩) (zO_le h_r0 (by omega)) hC (zdk dk_X1_init 21 rfl) (q := 43) rfl ?_
  refine x_nmM (fun M20 => ?_)
  exact x_vret hE hC (zdk dk_X1_init 22 rfl)
set_option maxRecDepth 100000 in
set_option maxHeartbeats 8000000 in
theorem t_X1_init {n : Nat} {r0 : Nat} {M : Mem} (h_r0 : zO n r0 1) (x : Mem) (hx : f_X1_init n r0 M = some x) (l : Launch) (dC : Nat → ClassId) (dI : Nat → Nat → Nat) (b : zSg) : MTc l dC dI b yX1_init cX1_init 1 1 5 259 n (n + 5) [.ref r0] M x :=
  MTc.ofX (by decide +kernel) rfl (Nat.le_of_ble_eq_true rfl) (fun κ hC hF hN hAO => x_X1_init hC (zEnd_of hF (Nat.le_refl _) (Nat.le_refl _)) (zRk_of hF (Nat.le_refl _) (Nat.le_refl _)) (zInit_of hN rfl) hAO _ _ h_r0) x hx
set_option maxRecDepth 100000 in
def dt_X0_init : List (Nat × Instr × Nat) := [(0, .aload_n 0, 1), (1, .invokespecial 3, 3), (4, .aload_n 0, 1), (5, .new 9, 3), (8, .dup, 1), (9, .invokespecial 11, 3), (12, .putfield 12, 3), (15, .aload_n 0, 1), (16, .bipush 6, 2), (18, .newarray .int, 2), (20, .putfield 18, 3), (23, .aload_n 0, 1), (24, .sipush 1600, 3), (27, .newarray .int, 2), (29, .putfield 22, 3), (32, .return_, 1)]
set_option maxRecDepth 100000 in
theorem dk_X0_init : dt_X0_init.all (fun q => decide (decode cX0_init q.1 = .ok q.2)) = true := by decide +kernel
set_option maxRecDepth 100000 in
def f_X0_init (n : Nat) (r0 : Nat) (M : Mem) : Option Mem := if zSH n = (1, 13) then Option.bind (some (znew M n)) fun M2 => Option.bind (f_X1_init (n + 1) n M2) fun M4 => Option.bind (some (zsR M4 r0 0 (n + 1))) fun M5 => if zSH (n + 6) = (20, 6) then Option.bind (some (znew M5 (n + 6))) fun M7 => Option.bind (some (zsR M7 r0 1 (n + 6 + 1))) fun M9 => if zSH (n + 7) = (20, 1600) then Option.bind (some (znew M9 (n + 7))) fun M11 => Option.bind (some (zsR M11 r0 2 (n + 7 + 1))) fun M13 => some M13 else none else none else none
set_option maxRecDepth 100000 in
set_option maxHeartbeats 8000000 in
theorem x_X0_init {κ : KX} {n : Nat} (hC : CX κ cX0_init RX0 1 none 2) (hE : zEnd κ (n + 8) (8, 1878)) (hk0 : zRk κ (8, 1878)) (hIn : zInit κ) (hAO : zAOk κ) (r0 : Nat) (M : Mem) (h_r0 : zO n r0 0) : X κ 1 emV n (0, 0) 0 [.ref r0] [] M (f_X0_init n r0 M) := by
  unfold f_X0_init
  refine x_aload_n (i := 0) rfl hC (zdk dk_X0_init 0 rfl) (q := 1) rfl ?_
  refine x_oinit oi_RX0_3 hC (zdk dk_X0_init 1 rfl) (q := 4) rfl (Nat.le_of_ble_eq_true rfl) ?_
  refine x_aload_n (i := 0) rfl hC (zdk dk_X0_init 2 rfl) (q := 5) rfl ?_
  refine x_if (fun hs3 => ?_)
  refine x_new nw_RX0_9 hs3 (n2 := n + 1) rfl (cs2 := (1, 13)) rfl (zRk_le hk0 (by decide) (by decide)) hC (zdk dk_X0_init 3 rfl) (q := 8) rfl (fun hn1 => ?_)
  refine x_nmM (fun M2 => ?_)
  refine x_dup rfl hC (zdk dk_X0_init 4 rfl) (q := 9) rfl ?_
  refine x_callI (as := []) (mc' := 5) (ms' := 259) (n2 := n + 6) ic_RX0_11 rfl (by decide) (cs2 := (6, 272)) rfl (zRk_le hk0 (by decide) (by decide)) (fun h => zO_lt hn1 h) hAO (fun x hx => t_X1_init hn1 x hx) hC (zdk dk_X0_init 5 rfl) (q := 12) rfl rfl (Nat.le_of_ble_eq_true rfl) (fun M4 => ?_)
  refine x_putR (k := 1) fl_RX0_12 (fun _ => ⟨rfl, rfl⟩) rfl (zO_le hn1 (by omega)) (Or.inr ⟨hIn, rfl⟩) (zO_le h_r0 (by omega)) hC (zdk dk_X0_init 6 rfl) (q := 15) rfl ?_
  refine x_nmM (fun M5 => ?_)
  refine x_aload_n (i := 0) rfl hC (zdk dk_X0_init 7 rfl) (q := 16) rfl ?_
  refine x_bipush (i := 6) c_bipush_6 hC (zdk dk_X0_init 8 rfl) (q := 18) rfl ?_
  refine x_if (fun hs8 => ?_)
  refine x_newa (k := 20) zac_20 (by decide) rfl (N := 6) (by decide) hs8 (n2 := n + 7) rfl (cs2 := (7, 278)) rfl (zRk_le hk0 (by decide) (by decide)) hC (zdk dk_X0_init 9 rfl) (q := 20) rfl (fun hn6 => ?_)
  refine x_nmM (fun M7 => ?_)
  refine x_putR (k := 20) fl_RX0_18 (fun _ => ⟨rfl, rfl⟩) rfl hn6 (Or.inr ⟨hIn, rfl⟩) (zO_le h_r0 (by omega)) hC (zdk dk_X0_init 10 rfl) (q := 23) rfl ?_
  refine x_nmM (fun M9 => ?_)
  refine x_aload_n (i := 0) rfl hC (zdk dk_X0_init 11 rfl) (q := 24) rfl ?_
  refine x_sipush (i := 1600) c_sipush_1600 hC (zdk dk_X0_init 12 rfl) (q := 27) rfl ?_
  refine x_if (fun hs12 => ?_)
  refine x_newa (k := 20) zac_20 (by decide) rfl (N := 1600) (by decide) hs12 (n2 := n + 8) rfl (cs2 := (8, 1878)) rfl (zRk_le hk0 (by decide) (by decide)) hC (zdk dk_X0_init 13 rfl) (q := 29) rfl (fun hn10 => ?_)
  refine x_nmM (fun M11 => ?_)
  refine x_putR (k := 20) fl_RX0_22 (fun _ => ⟨rfl, rfl⟩) rfl hn10 (Or.inr ⟨hIn, rfl⟩) (zO_le h_r0 (by omega)) hC (zdk dk_X0_init 14 rfl) (q := 32) rfl ?_
  refine x_nmM (fun M13 => ?_)
  exact x_vret hE hC (zdk dk_X0_init 15 rfl)
set_option maxRecDepth 100000 in
set_option maxHeartbeats 8000000 in
theorem t_X0_init {n : Nat} {r0 : Nat} {M : Mem} (h_r0 : zO n r0 0) (x : Mem) (hx : f_X0_init n r0 M = some x) (l : Launch) (dC : Nat → ClassId) (dI : Nat → Nat → Nat) (b : zSg) : MTc l dC dI b yX0_init cX0_init 1 2 8 1878 n (n + 8) [.ref r0] M x :=
  MTc.ofX (by decide +kernel) rfl (Nat.le_of_ble_eq_true rfl) (fun κ hC hF hN hAO => x_X0_init hC (zEnd_of hF (Nat.le_refl _) (Nat.le_refl _)) (zRk_of hF (Nat.le_refl _) (Nat.le_refl _)) (zInit_of hN rfl) hAO _ _ h_r0) x hx
set_option maxRecDepth 100000 in
def dt_X6_init : List (Nat × Instr × Nat) := [(0, .aload_n 0, 1), (1, .invokespecial 3, 3), (4, .aload_n 0, 1), (5, .bipush 27, 2), (7, .newarray .int, 2), (9, .putfield 9, 3), (12, .aload_n 0, 1), (13, .aload_n 1, 1), (14, .putfield 15, 3), (17, .aload_n 0, 1), (18, .aload_n 2, 1), (19, .putfield 18, 3), (22, .ldc 22, 2), (24, .iconst 0, 1), (25, .aload_n 0, 1), (26, .getfield 9, 3), (29, .invokestatic 24, 3), (32, .istore_n 3, 1), (33, .ldc 28, 2), (35, .iload_n 3, 1), (36, .aload_n 0, 1), (37, .getfield 9, 3), (40, .invokestatic 24, 3), (43, .pop, 1), (44, .return_, 1)]
set_option maxRecDepth 100000 in
theorem dk_X6_init : dt_X6_init.all (fun q => decide (decode cX6_init q.1 = .ok q.2)) = true := by decide +kernel
set_option maxRecDepth 100000 in
def f_X6_init (n : Nat) (r0 : Nat) (r1 : Nat) (r2 : Nat) (M : Mem) : Option Mem := if zSH n = (20, 27) then Option.bind (some (znew M n)) fun M2 => Option.bind (some (zsR M2 r0 0 (n + 1))) fun M4 => Option.bind (some (zsR M4 r0 1 (r1 + 1))) fun M5 => Option.bind (some (zsR M5 r0 2 (r2 + 1))) fun M6 => Option.bind (zrf M6 r0 0) fun q7 => Option.bind (f_X6_listWords 1000000 0 q7 M6) fun z8 => Option.bind (zrf z8.2 r0 0) fun q9 => Option.bind (f_X6_listWords 1000001 z8.1 q9 z8.2) fun z10 => some z10.2 else none
set_option maxRecDepth 100000 in
set_option maxHeartbeats 8000000 in
theorem x_X6_init {κ : KX} {n : Nat} (hC : CX κ cX6_init RX6 4 none 5) (hE : zEnd κ (n + 1) (1, 27)) (hk0 : zRk κ (1, 27)) (hIn : zInit κ) (hAO : zAOk κ) (r0 : Nat) (r1 : Nat) (r2 : Nat) (M : Mem) (h_r0 : zO n r0 6) (h_r1 : zO n r1 20) (h_r2 : zO n r2 0) : X κ 4 emV n (0, 0) 0 [.ref r0, .ref r1, .ref r2, .null] [] M (f_X6_init n r0 r1 r2 M) := by
  unfold f_X6_init
  refine x_aload_n (i := 0) rfl hC (zdk dk_X6_init 0 rfl) (q := 1) rfl ?_
  refine x_oinit oi_RX6_3 hC (zdk dk_X6_init 1 rfl) (q := 4) rfl (Nat.le_of_ble_eq_true rfl) ?_
  refine x_aload_n (i := 0) rfl hC (zdk dk_X6_init 2 rfl) (q := 5) rfl ?_
  refine x_bipush (i := 27) c_bipush_27 hC (zdk dk_X6_init 3 rfl) (q := 7) rfl ?_
  refine x_if (fun hs3 => ?_)
  refine x_newa (k := 20) zac_20 (by decide) rfl (N := 27) (by decide) hs3 (n2 := n + 1) rfl (cs2 := (1, 27)) rfl (zRk_le hk0 (by decide) (by decide)) hC (zdk dk_X6_init 4 rfl) (q := 9) rfl (fun hn1 => ?_)
  refine x_nmM (fun M2 => ?_)
  refine x_putR (k := 20) fl_RX6_9 (fun _ => ⟨rfl, rfl⟩) rfl hn1 (Or.inr ⟨hIn, rfl⟩) (zO_le h_r0 (by omega)) hC (zdk dk_X6_init 5 rfl) (q := 12) rfl ?_
  refine x_nmM (fun M4 => ?_)
  refine x_aload_n (i := 0) rfl hC (zdk dk_X6_init 6 rfl) (q := 13) rfl ?_
  refine x_aload_n (i := 1) rfl hC (zdk dk_X6_init 7 rfl) (q := 14) rfl ?_
  refine x_putR (k := 20) fl_RX6_15 (fun _ => ⟨rfl, rfl⟩) rfl (zO_le h_r1 (by omega)) (Or.inr ⟨hIn, rfl⟩) (zO_le h_r0 (by omega)) hC (zdk dk_X6_init 8 rfl) (q := 17) rfl ?_
  refine x_nmM (fun M5 => ?_)
  refine x_aload_n (i := 0) rfl hC (zdk dk_X6_init 9 rfl) (q := 18) rfl ?_
  refine x_aload_n (i := 2) rfl hC (zdk dk_X6_init 10 rfl) (q := 19) rfl ?_
  refine x_putR (k := 0) fl_RX6_18 (fun _ => ⟨rfl, rfl⟩) rfl (zO_le h_r2 (by omega)) (Or.inr ⟨hIn, rfl⟩) (zO_le h_r0 (by omega)) hC (zdk dk_X6_init 11 rfl) (q := 22) rfl ?_
  refine x_nmM (fun M6 => ?_)
  refine x_sldc0 hC (zdk dk_X6_init 12 rfl) (q := 24) rfl ?_
  refine x_iconst (i := 0) c_iconst_0 hC (zdk dk_X6_init 13 rfl) (q := 25) rfl ?_
  refine x_aload_n (i := 0) rfl hC (zdk dk_X6_init 14 rfl) (q := 26) rfl ?_
  refine x_getR (k := 20) fl_RX6_9 rfl (zO_le h_r0 (by omega)) hC (zdk dk_X6_init 15 rfl) (q := 29) rfl (fun q7 hq7 => ?_)
  refine x_callSi (as := [.ref 1000000, .int 0, .ref q7]) cb_RX6_24 rfl (by decide) (zRk_le hk0 (by decide) (by decide)) (fun x hx => t_X6_listWords (by unfold zSt; decide) hq7 x hx) hC (zdk dk_X6_init 16 rfl) (q := 32) rfl rfl (Nat.le_of_ble_eq_true rfl) (fun z8 => ?_)
  refine x_istore_n (i := 3) (L' := [.ref r0, .ref r1, .ref r2, .int z8.1]) (by decide) rfl hC (zdk dk_X6_init 17 rfl) (q := 33) rfl ?_
  refine x_sldc1 hC (zdk dk_X6_init 18 rfl) (q := 35) rfl ?_
  refine x_iload_n (i := 3) rfl hC (zdk dk_X6_init 19 rfl) (q := 36) rfl ?_
  refine x_aload_n (i := 0) rfl hC (zdk dk_X6_init 20 rfl) (q := 37) rfl ?_
  refine x_getR (k := 20) fl_RX6_9 rfl (zO_le h_r0 (by omega)) hC (zdk dk_X6_init 21 rfl) (q := 40) rfl (fun q9 hq9 => ?_)
  refine x_callSi (as := [.ref 1000001, .int z8.1, .ref q9]) cb_RX6_24 rfl (by decide) (zRk_le hk0 (by decide) (by decide)) (fun x hx => t_X6_listWords (by unfold zSt; decide) hq9 x hx) hC (zdk dk_X6_init 22 rfl) (q := 43) rfl rfl (Nat.le_of_ble_eq_true rfl) (fun z10 => ?_)
  refine x_pop rfl hC (zdk dk_X6_init 23 rfl) (q := 44) rfl ?_
  exact x_vret hE hC (zdk dk_X6_init 24 rfl)
set_option maxRecDepth 100000 in
set_option maxHeartbeats 8000000 in
theorem t_X6_init {n : Nat} {r0 : Nat} {r1 : Nat} {r2 : Nat} {M : Mem} (h_r0 : zO n r0 6) (h_r1 : zO n r1 20) (h_r2 : zO n r2 0) (x : Mem) (hx : f_X6_init n r0 r1 r2 M = some x) (l : Launch) (dC : Nat → ClassId) (dI : Nat → Nat → Nat) (b : zSg) : MTc l dC dI b yX6_init cX6_init 4 5 1 27 n (n + 1) [.ref r0, .ref r1, .ref r2] M x :=
  MTc.ofX (by decide +kernel) rfl (Nat.le_of_ble_eq_true rfl) (fun κ hC hF hN hAO => x_X6_init hC (zEnd_of hF (Nat.le_refl _) (Nat.le_refl _)) (zRk_of hF (Nat.le_refl _) (Nat.le_refl _)) (zInit_of hN rfl) hAO _ _ _ _ h_r0 h_r1 h_r2) x hx
set_option maxRecDepth 100000 in
def dt_X11_init : List (Nat × Instr × Nat) := [(0, .aload_n 0, 1), (1, .invokespecial 3, 3), (4, .aload_n 0, 1), (5, .sipush 1600, 3), (8, .newarray .int, 2), (10, .putfield 9, 3), (13, .aload_n 0, 1), (14, .bipush 6, 2), (16, .newarray .int, 2), (18, .putfield 13, 3), (21, .aload_n 0, 1), (22, .new 16, 3), (25, .dup, 1), (26, .invokespecial 18, 3), (29, .putfield 19, 3), (32, .aload_n 0, 1), (33, .new 23, 3), (36, .dup, 1), (37, .invokespecial 25, 3), (40, .putfield 26, 3), (43, .aload_n 0, 1), (44, .new 30, 3), (47, .dup, 1), (48, .aload_n 0, 1), (49, .getfield 26, 3), (52, .aload_n 0, 1), (53, .getfield 19, 3), (56, .invokespecial 32, 3), (59, .putfield 35, 3), (62, .aload_n 0, 1), (63, .new 39, 3), (66, .dup, 1), (67, .invokespecial 41, 3), (70, .putfield 42, 3), (73, .aload_n 0, 1), (74, .new 39, 3), (77, .dup, 1), (78, .invokespecial 41, 3), (81, .putfield 46, 3), (84, .aload_n 0, 1), (85, .new 49, 3), (88, .dup, 1), (89, .iconst 0, 1), (90, .invokespecial 51, 3), (93, .putfield 54, 3), (96, .aload_n 0, 1), (97, .new 58, 3), (100, .dup, 1), (101, .invokespecial 60, 3), (104, .putfield 61, 3), (107, .aload_n 0, 1), (108, .new 65, 3), (111, .dup, 1), (112, .invokespecial 67, 3), (115, .putfield 68, 3), (118, .aload_n 0, 1), (119, .new 72, 3), (122, .dup, 1), (123, .invokespecial 74, 3), (126, .putfield 75, 3), (129, .aload_n 0, 1), (130, .new 79, 3), (133, .dup, 1), (134, .invokespecial 81, 3), (137, .putfield 82, 3), (140, .aload_n 0, 1), (141, .new 79, 3), (144, .dup, 1), (145, .invokespecial 81, 3), (148, .putfield 86, 3), (151, .aload_n 0, 1), (152, .new 89, 3), (155, .dup, 1), (156, .aload_n 0, 1), (157, .getfield 9, 3), (160, .aload_n 0, 1), (161, .getfield 86, 3), (164, .invokespecial 91, 3), (167, .putfield 94, 3), (170, .aload_n 0, 1), (171, .iconst 1, 1), (172, .putfield 98, 3), (175, .return_, 1)]
set_option maxRecDepth 100000 in
theorem dk_X11_init : dt_X11_init.all (fun q => decide (decode cX11_init q.1 = .ok q.2)) = true := by decide +kernel
set_option maxRecDepth 100000 in
def f_X11_init (n : Nat) (r0 : Nat) (M : Mem) : Option Mem := if zSH n = (20, 1600) then Option.bind (some (znew M n)) fun M2 => Option.bind (some (zsR M2 r0 0 (n + 1))) fun M4 => if zSH (n + 1) = (20, 6) then Option.bind (some (znew M4 (n + 1))) fun M6 => Option.bind (some (zsR M6 r0 1 (n + 1 + 1))) fun M8 => if zSH (n + 2) = (10, 3) then Option.bind (some (znew M8 (n + 2))) fun M10 => Option.bind (f_X10_init (n + 3) (n + 2) M10) fun M12 => Option.bind (some (zsR M12 r0 2 (n + 2 + 1))) fun M13 => if zSH (n + 5) = (2, 10) then Option.bind (some (znew M13 (n + 5))) fun M15 => Option.bind (f_X2_init (n + 6) (n + 5) M15) fun M17 => Option.bind (some (zsR M17 r0 3 (n + 5 + 1))) fun M18 => if zSH (n + 11) = (3, 8) then Option.bind (some (znew M18 (n + 11))) fun M20 => Option.bind (zrf M20 r0 3) fun q22 => Option.bind (zrf M20 r0 2) fun q23 => Option.bind (f_X3_init (n + 12) (n + 11) q22 q23 M20) fun M24 => Option.bind (some (zsR M24 r0 4 (n + 11 + 1))) fun M25 => if zSH (n + 12) = (5, 2) then Option.bind (some (znew M25 (n + 12))) fun M27 => Option.bind (f_X5_init (n + 13) (n + 12) M27) fun M29 => Option.bind (some (zsR M29 r0 5 (n + 12 + 1))) fun M30 => if zSH (n + 26) = (5, 2) then Option.bind (some (znew M30 (n + 26))) fun M32 => Option.bind (f_X5_init (n + 27) (n + 26) M32) fun M34 => Option.bind (some (zsR M34 r0 6 (n + 26 + 1))) fun M35 => if zSH (n + 40) = (8, 5) then Option.bind (some (znew M35 (n + 40))) fun M37 => Option.bind (f_X8_init (n + 41) (n + 40) 0 M37) fun M39 => Option.bind (some (zsR M39 r0 7 (n + 40 + 1))) fun M40 => if zSH (n + 42) = (7, 6) then Option.bind (some (znew M40 (n + 42))) fun M42 => Option.bind (f_X7_init (n + 43) (n + 42) M42) fun M44 => Option.bind (some (zsR M44 r0 8 (n + 42 + 1))) fun M45 => if zSH (n + 326) = (9, 9) then Option.bind (some (znew M45 (n + 326))) fun M47 => Option.bind (f_X9_init (n + 327) (n + 326) M47) fun M49 => Option.bind (some (zsR M49 r0 9 (n + 326 + 1))) fun M50 => if zSH (n + 332) = (4, 2) then Option.bind (some (znew M50 (n + 332))) fun M52 => Option.bind (f_X4_init (n + 333) (n + 332) M52) fun M54 => Option.bind (some (zsR M54 r0 10 (n + 332 + 1))) fun M55 => if zSH (n + 334) = (0, 15) then Option.bind (some (znew M55 (n + 334))) fun M57 => Option.bind (f_X0_init (n + 335) (n + 334) M57) fun M59 => Option.bind (some (zsR M59 r0 11 (n + 334 + 1))) fun M60 => if zSH (n + 343) = (0, 15) then Option.bind (some (znew M60 (n + 343))) fun M62 => Option.bind (f_X0_init (n + 344) (n + 343) M62) fun M64 => Option.bind (some (zsR M64 r0 12 (n + 343 + 1))) fun M65 => if zSH (n + 352) = (6, 13) then Option.bind (some (znew M65 (n + 352))) fun M67 => Option.bind (zrf M67 r0 0) fun q69 => Option.bind (zrf M67 r0 12) fun q70 => Option.bind (f_X6_init (n + 353) (n + 352) q69 q70 M67) fun M71 => Option.bind (some (zsR M71 r0 13 (n + 352 + 1))) fun M72 => Option.bind (some (zsI M72 r0 16 1)) fun M73 => some M73 else none else none else none else none else none else none else none else none else none else none else none else none else none else none
set_option maxRecDepth 100000 in
set_option maxHeartbeats 8000000 in
theorem x_X11_init {κ : KX} {n : Nat} (hC : CX κ cX11_init RX11 1 none 6) (hE : zEnd κ (n + 354) (354, 15760)) (hk0 : zRk κ (354, 15760)) (hIn : zInit κ) (hAO : zAOk κ) (r0 : Nat) (M : Mem) (h_r0 : zO n r0 11) : X κ 1 emV n (0, 0) 0 [.ref r0] [] M (f_X11_init n r0 M) := by
  unfold f_X11_init
  refine x_aload_n (i := 0) rfl hC (zdk dk_X11_init 0 rfl) (q := 1) rfl ?_
  refine x_oinit oi_RX11_3 hC (zdk dk_X11_init 1 rfl) (q := 4) rfl (Nat.le_of_ble_eq_true rfl) ?_
  refine x_aload_n (i := 0) rfl hC (zdk dk_X11_init 2 rfl) (q := 5) rfl ?_
  refine x_sipush (i := 1600) c_sipush_1600 hC (zdk dk_X11_init 3 rfl) (q := 8) rfl ?_
  refine x_if (fun hs3 => ?_)
  refine x_newa (k := 20) zac_20 (by decide) rfl (N := 1600) (by decide) hs3 (n2 := n + 1) rfl (cs2 := (1, 1600)) rfl (zRk_le hk0 (by decide) (by decide)) hC (zdk dk_X11_init 4 rfl) (q := 10) rfl (fun hn1 => ?_)
  refine x_nmM (fun M2 => ?_)
  refine x_putR (k := 20) fl_RX11_9 (fun _ => ⟨rfl, rfl⟩) rfl hn1 (Or.inr ⟨hIn, rfl⟩) (zO_le h_r0 (by omega)) hC (zdk dk_X11_init 5 rfl) (q := 13) rfl ?_
  refine x_nmM (fun M4 => ?_)
  refine x_aload_n (i := 0) rfl hC (zdk dk_X11_init 6 rfl) (q := 14) rfl ?_
  refine x_bipush (i := 6) c_bipush_6 hC (zdk dk_X11_init 7 rfl) (q := 16) rfl ?_
  refine x_if (fun hs7 => ?_)
  refine x_newa (k := 20) zac_20 (by decide) rfl (N := 6) (by decide) hs7 (n2 := n + 2) rfl (cs2 := (2, 1606)) rfl (zRk_le hk0 (by decide) (by decide)) hC (zdk dk_X11_init 8 rfl) (q := 18) rfl (fun hn5 => ?_)
  refine x_nmM (fun M6 => ?_)
  refine x_putR (k := 20) fl_RX11_13 (fun _ => ⟨rfl, rfl⟩) rfl hn5 (Or.inr ⟨hIn, rfl⟩) (zO_le h_r0 (by omega)) hC (zdk dk_X11_init 9 rfl) (q := 21) rfl ?_
  refine x_nmM (fun M8 => ?_)
  refine x_aload_n (i := 0) rfl hC (zdk dk_X11_init 10 rfl) (q := 22) rfl ?_
  refine x_if (fun hs11 => ?_)
  refine x_new nw_RX11_16 hs11 (n2 := n + 3) rfl (cs2 := (3, 1609)) rfl (zRk_le hk0 (by decide) (by decide)) hC (zdk dk_X11_init 11 rfl) (q := 25) rfl (fun hn9 => ?_)
  refine x_nmM (fun M10 => ?_)
  refine x_dup rfl hC (zdk dk_X11_init 12 rfl) (q := 26) rfl ?_
  refine x_callI (as := []) (mc' := 2) (ms' := 123) (n2 := n + 5) ic_RX11_18 rfl (by decide) (cs2 := (5, 1732)) rfl (zRk_le hk0 (by decide) (by decide)) (fun h => zO_lt hn9 h) hAO (fun x hx => t_X10_init hn9 x hx) hC (zdk dk_X11_init 13 rfl) (q := 29) rfl rfl (Nat.le_of_ble_eq_true rfl) (fun M12 => ?_)
  refine x_putR (k := 10) fl_RX11_19 (fun _ => ⟨rfl, rfl⟩) rfl (zO_le hn9 (by omega)) (Or.inr ⟨hIn, rfl⟩) (zO_le h_r0 (by omega)) hC (zdk dk_X11_init 14 rfl) (q := 32) rfl ?_
  refine x_nmM (fun M13 => ?_)
  refine x_aload_n (i := 0) rfl hC (zdk dk_X11_init 15 rfl) (q := 33) rfl ?_
  refine x_if (fun hs16 => ?_)
  refine x_new nw_RX11_23 hs16 (n2 := n + 6) rfl (cs2 := (6, 1742)) rfl (zRk_le hk0 (by decide) (by decide)) hC (zdk dk_X11_init 16 rfl) (q := 36) rfl (fun hn14 => ?_)
  refine x_nmM (fun M15 => ?_)
  refine x_dup rfl hC (zdk dk_X11_init 17 rfl) (q := 37) rfl ?_
  refine x_callI (as := []) (mc' := 5) (ms' := 52) (n2 := n + 11) ic_RX11_25 rfl (by decide) (cs2 := (11, 1794)) rfl (zRk_le hk0 (by decide) (by decide)) (fun h => zO_lt hn14 h) hAO (fun x hx => t_X2_init hn14 x hx) hC (zdk dk_X11_init 18 rfl) (q := 40) rfl rfl (Nat.le_of_ble_eq_true rfl) (fun M17 => ?_)
  refine x_putR (k := 2) fl_RX11_26 (fun _ => ⟨rfl, rfl⟩) rfl (zO_le hn14 (by omega)) (Or.inr ⟨hIn, rfl⟩) (zO_le h_r0 (by omega)) hC (zdk dk_X11_init 19 rfl) (q := 43) rfl ?_
  refine x_nmM (fun M18 => ?_)
  refine x_aload_n (i := 0) rfl hC (zdk dk_X11_init 20 rfl) (q := 44) rfl ?_
  refine x_if (fun hs21 => ?_)
  refine x_new nw_RX11_30 hs21 (n2 := n + 12) rfl (cs2 := (12, 1802)) rfl (zRk_le hk0 (by decide) (by decide)) hC (zdk dk_X11_init 21 rfl) (q := 47) rfl (fun hn19 => ?_)
  refine x_nmM (fun M20 => ?_)
  refine x_dup rfl hC (zdk dk_X11_init 22 rfl) (q := 48) rfl ?_
  refine x_aload_n (i := 0) rfl hC (zdk dk_X11_init 23 rfl) (q := 49) rfl ?_
  refine x_getR (k := 2) fl_RX11_26 rfl (zO_le h_r0 (by omega)) hC (zdk dk_X11_init 24 rfl) (q := 52) rfl (fun q22 hq22 => ?_)
  refine x_aload_n (i := 0) rfl hC (zdk dk_X11_init 25 rfl) (q := 53) rfl ?_
  refine x_getR (k := 10) fl_RX11_19 rfl (zO_le h_r0 (by omega)) hC (zdk dk_X11_init 26 rfl) (q := 56) rfl (fun q23 hq23 => ?_)
  refine x_callI (as := [.ref q22, .ref q23]) (mc' := 0) (ms' := 0) (n2 := n + 12) ic_RX11_32 rfl (by decide) (cs2 := (12, 1802)) rfl (zRk_le hk0 (by decide) (by decide)) (fun h => zO_lt hn19 h) hAO (fun x hx => t_X3_init hn19 hq22 hq23 x hx) hC (zdk dk_X11_init 27 rfl) (q := 59) rfl rfl (Nat.le_of_ble_eq_true rfl) (fun M24 => ?_)
  refine x_putR (k := 3) fl_RX11_35 (fun _ => ⟨rfl, rfl⟩) rfl hn19 (Or.inr ⟨hIn, rfl⟩) (zO_le h_r0 (by omega)) hC (zdk dk_X11_init 28 rfl) (q := 62) rfl ?_
  refine x_nmM (fun M25 => ?_)
  refine x_aload_n (i := 0) rfl hC (zdk dk_X11_init 29 rfl) (q := 63) rfl ?_
  refine x_if (fun hs28 => ?_)
  refine x_new nw_RX11_39 hs28 (n2 := n + 13) rfl (cs2 := (13, 1804)) rfl (zRk_le hk0 (by decide) (by decide)) hC (zdk dk_X11_init 30 rfl) (q := 66) rfl (fun hn26 => ?_)
  refine x_nmM (fun M27 => ?_)
  refine x_dup rfl hC (zdk dk_X11_init 31 rfl) (q := 67) rfl ?_
  refine x_callI (as := []) (mc' := 13) (ms' := 414) (n2 := n + 26) ic_RX11_41 rfl (by decide) (cs2 := (26, 2218)) rfl (zRk_le hk0 (by decide) (by decide)) (fun h => zO_lt hn26 h) hAO (fun x hx => t_X5_init hn26 x hx) hC (zdk dk_X11_init 32 rfl) (q := 70) rfl rfl (Nat.le_of_ble_eq_true rfl) (fun M29 => ?_)
  refine x_putR (k := 5) fl_RX11_42 (fun _ => ⟨rfl, rfl⟩) rfl (zO_le hn26 (by omega)) (Or.inr ⟨hIn, rfl⟩) (zO_le h_r0 (by omega)) hC (zdk dk_X11_init 33 rfl) (q := 73) rfl ?_
  refine x_nmM (fun M30 => ?_)
  refine x_aload_n (i := 0) rfl hC (zdk dk_X11_init 34 rfl) (q := 74) rfl ?_
  refine x_if (fun hs33 => ?_)
  refine x_new nw_RX11_39 hs33 (n2 := n + 27) rfl (cs2 := (27, 2220)) rfl (zRk_le hk0 (by decide) (by decide)) hC (zdk dk_X11_init 35 rfl) (q := 77) rfl (fun hn31 => ?_)
  refine x_nmM (fun M32 => ?_)
  refine x_dup rfl hC (zdk dk_X11_init 36 rfl) (q := 78) rfl ?_
  refine x_callI (as := []) (mc' := 13) (ms' := 414) (n2 := n + 40) ic_RX11_41 rfl (by decide) (cs2 := (40, 2634)) rfl (zRk_le hk0 (by decide) (by decide)) (fun h => zO_lt hn31 h) hAO (fun x hx => t_X5_init hn31 x hx) hC (zdk dk_X11_init 37 rfl) (q := 81) rfl rfl (Nat.le_of_ble_eq_true rfl) (fun M34 => ?_)
  refine x_putR (k := 5) fl_RX11_46 (fun _ => ⟨rfl, rfl⟩) rfl (zO_le hn31 (by omega)) (Or.inr ⟨hIn, rfl⟩) (zO_le h_r0 (by omega)) hC (zdk dk_X11_init 38 rfl) (q := 84) rfl ?_
  refine x_nmM (fun M35 => ?_)
  refine x_aload_n (i := 0) rfl hC (zdk dk_X11_init 39 rfl) (q := 85) rfl ?_
  refine x_if (fun hs38 => ?_)
  refine x_new nw_RX11_49 hs38 (n2 := n + 41) rfl (cs2 := (41, 2639)) rfl (zRk_le hk0 (by decide) (by decide)) hC (zdk dk_X11_init 40 rfl) (q := 88) rfl (fun hn36 => ?_)
  refine x_nmM (fun M37 => ?_)
  refine x_dup rfl hC (zdk dk_X11_init 41 rfl) (q := 89) rfl ?_
  refine x_iconst (i := 0) c_iconst_0 hC (zdk dk_X11_init 42 rfl) (q := 90) rfl ?_
  refine x_callI (as := [.int 0]) (mc' := 1) (ms' := 63) (n2 := n + 42) ic_RX11_51 rfl (by decide) (cs2 := (42, 2702)) rfl (zRk_le hk0 (by decide) (by decide)) (fun h => zO_lt hn36 h) hAO (fun x hx => t_X8_init hn36 x hx) hC (zdk dk_X11_init 43 rfl) (q := 93) rfl rfl (Nat.le_of_ble_eq_true rfl) (fun M39 => ?_)
  refine x_putR (k := 8) fl_RX11_54 (fun _ => ⟨rfl, rfl⟩) rfl (zO_le hn36 (by omega)) (Or.inr ⟨hIn, rfl⟩) (zO_le h_r0 (by omega)) hC (zdk dk_X11_init 44 rfl) (q := 96) rfl ?_
  refine x_nmM (fun M40 => ?_)
  refine x_aload_n (i := 0) rfl hC (zdk dk_X11_init 45 rfl) (q := 97) rfl ?_
  refine x_if (fun hs43 => ?_)
  refine x_new nw_RX11_58 hs43 (n2 := n + 43) rfl (cs2 := (43, 2708)) rfl (zRk_le hk0 (by decide) (by decide)) hC (zdk dk_X11_init 46 rfl) (q := 100) rfl (fun hn41 => ?_)
  refine x_nmM (fun M42 => ?_)
  refine x_dup rfl hC (zdk dk_X11_init 47 rfl) (q := 101) rfl ?_
  refine x_callI (as := []) (mc' := 283) (ms' := 8540) (n2 := n + 326) ic_RX11_60 rfl (by decide) (cs2 := (326, 11248)) rfl (zRk_le hk0 (by decide) (by decide)) (fun h => zO_lt hn41 h) hAO (fun x hx => t_X7_init hn41 x hx) hC (zdk dk_X11_init 48 rfl) (q := 104) rfl rfl (Nat.le_of_ble_eq_true rfl) (fun M44 => ?_)
  refine x_putR (k := 7) fl_RX11_61 (fun _ => ⟨rfl, rfl⟩) rfl (zO_le hn41 (by omega)) (Or.inr ⟨hIn, rfl⟩) (zO_le h_r0 (by omega)) hC (zdk dk_X11_init 49 rfl) (q := 107) rfl ?_
  refine x_nmM (fun M45 => ?_)
  refine x_aload_n (i := 0) rfl hC (zdk dk_X11_init 50 rfl) (q := 108) rfl ?_
  refine x_if (fun hs48 => ?_)
  refine x_new nw_RX11_65 hs48 (n2 := n + 327) rfl (cs2 := (327, 11257)) rfl (zRk_le hk0 (by decide) (by decide)) hC (zdk dk_X11_init 51 rfl) (q := 111) rfl (fun hn46 => ?_)
  refine x_nmM (fun M47 => ?_)
  refine x_dup rfl hC (zdk dk_X11_init 52 rfl) (q := 112) rfl ?_
  refine x_callI (as := []) (mc' := 5) (ms' := 234) (n2 := n + 332) ic_RX11_67 rfl (by decide) (cs2 := (332, 11491)) rfl (zRk_le hk0 (by decide) (by decide)) (fun h => zO_lt hn46 h) hAO (fun x hx => t_X9_init hn46 x hx) hC (zdk dk_X11_init 53 rfl) (q := 115) rfl rfl (Nat.le_of_ble_eq_true rfl) (fun M49 => ?_)
  refine x_putR (k := 9) fl_RX11_68 (fun _ => ⟨rfl, rfl⟩) rfl (zO_le hn46 (by omega)) (Or.inr ⟨hIn, rfl⟩) (zO_le h_r0 (by omega)) hC (zdk dk_X11_init 54 rfl) (q := 118) rfl ?_
  refine x_nmM (fun M50 => ?_)
  refine x_aload_n (i := 0) rfl hC (zdk dk_X11_init 55 rfl) (q := 119) rfl ?_
  refine x_if (fun hs53 => ?_)
  refine x_new nw_RX11_72 hs53 (n2 := n + 333) rfl (cs2 := (333, 11493)) rfl (zRk_le hk0 (by decide) (by decide)) hC (zdk dk_X11_init 56 rfl) (q := 122) rfl (fun hn51 => ?_)
  refine x_nmM (fun M52 => ?_)
  refine x_dup rfl hC (zdk dk_X11_init 57 rfl) (q := 123) rfl ?_
  refine x_callI (as := []) (mc' := 1) (ms' := 441) (n2 := n + 334) ic_RX11_74 rfl (by decide) (cs2 := (334, 11934)) rfl (zRk_le hk0 (by decide) (by decide)) (fun h => zO_lt hn51 h) hAO (fun x hx => t_X4_init hn51 x hx) hC (zdk dk_X11_init 58 rfl) (q := 126) rfl rfl (Nat.le_of_ble_eq_true rfl) (fun M54 => ?_)
  refine x_putR (k := 4) fl_RX11_75 (fun _ => ⟨rfl, rfl⟩) rfl (zO_le hn51 (by omega)) (Or.inr ⟨hIn, rfl⟩) (zO_le h_r0 (by omega)) hC (zdk dk_X11_init 59 rfl) (q := 129) rfl ?_
  refine x_nmM (fun M55 => ?_)
  refine x_aload_n (i := 0) rfl hC (zdk dk_X11_init 60 rfl) (q := 130) rfl ?_
  refine x_if (fun hs58 => ?_)
  refine x_new nw_RX11_79 hs58 (n2 := n + 335) rfl (cs2 := (335, 11949)) rfl (zRk_le hk0 (by decide) (by decide)) hC (zdk dk_X11_init 61 rfl) (q := 133) rfl (fun hn56 => ?_)
  refine x_nmM (fun M57 => ?_)
  refine x_dup rfl hC (zdk dk_X11_init 62 rfl) (q := 134) rfl ?_
  refine x_callI (as := []) (mc' := 8) (ms' := 1878) (n2 := n + 343) ic_RX11_81 rfl (by decide) (cs2 := (343, 13827)) rfl (zRk_le hk0 (by decide) (by decide)) (fun h => zO_lt hn56 h) hAO (fun x hx => t_X0_init hn56 x hx) hC (zdk dk_X11_init 63 rfl) (q := 137) rfl rfl (Nat.le_of_ble_eq_true rfl) (fun M59 => ?_)
  refine x_putR (k := 0) fl_RX11_82 (fun _ => ⟨rfl, rfl⟩) rfl (zO_le hn56 (by omega)) (Or.inr ⟨hIn, rfl⟩) (zO_le h_r0 (by omega)) hC (zdk dk_X11_init 64 rfl) (q := 140) rfl ?_
  refine x_nmM (fun M60 => ?_)
  refine x_aload_n (i := 0) rfl hC (zdk dk_X11_init 65 rfl) (q := 141) rfl ?_
  refine x_if (fun hs63 => ?_)
  refine x_new nw_RX11_79 hs63 (n2 := n + 344) rfl (cs2 := (344, 13842)) rfl (zRk_le hk0 (by decide) (by decide)) hC (zdk dk_X11_init 66 rfl) (q := 144) rfl (fun hn61 => ?_)
  refine x_nmM (fun M62 => ?_)
  refine x_dup rfl hC (zdk dk_X11_init 67 rfl) (q := 145) rfl ?_
  refine x_callI (as := []) (mc' := 8) (ms' := 1878) (n2 := n + 352) ic_RX11_81 rfl (by decide) (cs2 := (352, 15720)) rfl (zRk_le hk0 (by decide) (by decide)) (fun h => zO_lt hn61 h) hAO (fun x hx => t_X0_init hn61 x hx) hC (zdk dk_X11_init 68 rfl) (q := 148) rfl rfl (Nat.le_of_ble_eq_true rfl) (fun M64 => ?_)
  refine x_putR (k := 0) fl_RX11_86 (fun _ => ⟨rfl, rfl⟩) rfl (zO_le hn61 (by omega)) (Or.inr ⟨hIn, rfl⟩) (zO_le h_r0 (by omega)) hC (zdk dk_X11_init 69 rfl) (q := 151) rfl ?_
  refine x_nmM (fun M65 => ?_)
  refine x_aload_n (i := 0) rfl hC (zdk dk_X11_init 70 rfl) (q := 152) rfl ?_
  refine x_if (fun hs68 => ?_)
  refine x_new nw_RX11_89 hs68 (n2 := n + 353) rfl (cs2 := (353, 15733)) rfl (zRk_le hk0 (by decide) (by decide)) hC (zdk dk_X11_init 71 rfl) (q := 155) rfl (fun hn66 => ?_)
  refine x_nmM (fun M67 => ?_)
  refine x_dup rfl hC (zdk dk_X11_init 72 rfl) (q := 156) rfl ?_
  refine x_aload_n (i := 0) rfl hC (zdk dk_X11_init 73 rfl) (q := 157) rfl ?_
  refine x_getR (k := 20) fl_RX11_9 rfl (zO_le h_r0 (by omega)) hC (zdk dk_X11_init 74 rfl) (q := 160) rfl (fun q69 hq69 => ?_)
  refine x_aload_n (i := 0) rfl hC (zdk dk_X11_init 75 rfl) (q := 161) rfl ?_
  refine x_getR (k := 0) fl_RX11_86 rfl (zO_le h_r0 (by omega)) hC (zdk dk_X11_init 76 rfl) (q := 164) rfl (fun q70 hq70 => ?_)
  refine x_callI (as := [.ref q69, .ref q70]) (mc' := 1) (ms' := 27) (n2 := n + 354) ic_RX11_91 rfl (by decide) (cs2 := (354, 15760)) rfl (zRk_le hk0 (by decide) (by decide)) (fun h => zO_lt hn66 h) hAO (fun x hx => t_X6_init hn66 hq69 hq70 x hx) hC (zdk dk_X11_init 77 rfl) (q := 167) rfl rfl (Nat.le_of_ble_eq_true rfl) (fun M71 => ?_)
  refine x_putR (k := 6) fl_RX11_94 (fun _ => ⟨rfl, rfl⟩) rfl (zO_le hn66 (by omega)) (Or.inr ⟨hIn, rfl⟩) (zO_le h_r0 (by omega)) hC (zdk dk_X11_init 78 rfl) (q := 170) rfl ?_
  refine x_nmM (fun M72 => ?_)
  refine x_aload_n (i := 0) rfl hC (zdk dk_X11_init 79 rfl) (q := 171) rfl ?_
  refine x_iconst (i := 1) c_iconst_1 hC (zdk dk_X11_init 80 rfl) (q := 172) rfl ?_
  refine x_putI fl_RX11_98 ⟨rfl, rfl⟩ (by decide) (Or.inr ⟨hIn, rfl⟩) (zO_le h_r0 (by omega)) hC (zdk dk_X11_init 81 rfl) (q := 175) rfl ?_
  refine x_nmM (fun M73 => ?_)
  exact x_vret hE hC (zdk dk_X11_init 82 rfl)
set_option maxRecDepth 100000 in
set_option maxHeartbeats 8000000 in
theorem t_X11_init {n : Nat} {r0 : Nat} {M : Mem} (h_r0 : zO n r0 11) (x : Mem) (hx : f_X11_init n r0 M = some x) (l : Launch) (dC : Nat → ClassId) (dI : Nat → Nat → Nat) (b : zSg) : MTc l dC dI b yX11_init cX11_init 1 6 354 15760 n (n + 354) [.ref r0] M x :=
  MTc.ofX (by decide +kernel) rfl (Nat.le_of_ble_eq_true rfl) (fun κ hC hF hN hAO => x_X11_init hC (zEnd_of hF (Nat.le_refl _) (Nat.le_refl _)) (zRk_of hF (Nat.le_refl _) (Nat.le_refl _)) (zInit_of hN rfl) hAO _ _ h_r0) x hx
set_option maxRecDepth 100000 in
def dt_X12_init : List (Nat × Instr × Nat) := [(0, .aload_n 0, 1), (1, .invokespecial 1, 3), (4, .aload_n 0, 1), (5, .sipush 1800, 3), (8, .newarray .int, 2), (10, .putfield 7, 3), (13, .aload_n 0, 1), (14, .iconst 0, 1), (15, .putfield 13, 3), (18, .aload_n 0, 1), (19, .iconst 0, 1), (20, .putfield 17, 3), (23, .aload_n 0, 1), (24, .iconst 0, 1), (25, .putfield 20, 3), (28, .aload_n 0, 1), (29, .iconst 0, 1), (30, .putfield 23, 3), (33, .aload_n 0, 1), (34, .iconst 0, 1), (35, .putfield 26, 3), (38, .aload_n 0, 1), (39, .iconst 0, 1), (40, .putfield 29, 3), (43, .aload_n 0, 1), (44, .lconst 0, 1), (45, .putfield 32, 3), (48, .aload_n 0, 1), (49, .iconst 0, 1), (50, .putfield 36, 3), (53, .aload_n 0, 1), (54, .iconst (-1), 1), (55, .putfield 39, 3), (58, .aload_n 0, 1), (59, .iconst 0, 1), (60, .putfield 42, 3), (63, .aload_n 0, 1), (64, .iconst (-1), 1), (65, .putfield 45, 3), (68, .aload_n 0, 1), (69, .iconst (-1), 1), (70, .putfield 48, 3), (73, .aload_n 0, 1), (74, .iconst 0, 1), (75, .putfield 51, 3), (78, .aload_n 0, 1), (79, .bipush 20, 2), (81, .newarray .int, 2), (83, .putfield 54, 3), (86, .aload_n 0, 1), (87, .iconst 2, 1), (88, .newarray .int, 2), (90, .putfield 57, 3), (93, .aload_n 0, 1), (94, .iconst 4, 1), (95, .newarray .int, 2), (97, .putfield 60, 3), (100, .aload_n 0, 1), (101, .iconst 4, 1), (102, .newarray .int, 2), (104, .putfield 63, 3), (107, .aload_n 0, 1), (108, .sipush 3200, 3), (111, .newarray .int, 2), (113, .putfield 66, 3), (116, .aload_n 0, 1), (117, .sipush 3200, 3), (120, .newarray .int, 2), (122, .putfield 69, 3), (125, .aload_n 0, 1), (126, .bipush 12, 2), (128, .newarray .long, 2), (130, .putfield 72, 3), (133, .aload_n 0, 1), (134, .iconst 0, 1), (135, .putfield 76, 3), (138, .aload_n 0, 1), (139, .iconst 1, 1), (140, .putfield 79, 3), (143, .aload_n 0, 1), (144, .iconst 0, 1), (145, .putfield 82, 3), (148, .aload_n 0, 1), (149, .bipush 20, 2), (151, .newarray .int, 2), (153, .putfield 85, 3), (156, .aload_n 0, 1), (157, .bipush 20, 2), (159, .newarray .int, 2), (161, .putfield 88, 3), (164, .aload_n 0, 1), (165, .bipush 20, 2), (167, .newarray .boolean, 2), (169, .putfield 91, 3), (172, .aload_n 0, 1), (173, .bipush 20, 2), (175, .newarray .int, 2), (177, .putfield 95, 3), (180, .aload_n 0, 1), (181, .bipush 20, 2), (183, .newarray .int, 2), (185, .putfield 98, 3), (188, .aload_n 0, 1), (189, .iconst 0, 1), (190, .putfield 101, 3), (193, .aload_n 0, 1), (194, .iconst 0, 1), (195, .putfield 104, 3), (198, .aload_n 0, 1), (199, .sipush 500, 3), (202, .newarray .int, 2), (204, .putfield 107, 3), (207, .aload_n 0, 1), (208, .iconst 0, 1), (209, .putfield 110, 3), (212, .aload_n 0, 1), (213, .iconst 0, 1), (214, .putfield 113, 3), (217, .aload_n 0, 1), (218, .bipush 64, 2), (220, .newarray .int, 2), (222, .putfield 117, 3), (225, .aload_n 0, 1), (226, .iconst 0, 1), (227, .putfield 120, 3), (230, .aload_n 0, 1), (231, .bipush 6, 2), (233, .newarray .int, 2), (235, .putfield 123, 3), (238, .aload_n 0, 1), (239, .iconst 0, 1), (240, .putfield 126, 3), (243, .aload_n 0, 1), (244, .iconst 0, 1), (245, .putfield 129, 3), (248, .aload_n 0, 1), (249, .iconst 0, 1), (250, .putfield 132, 3), (253, .aload_n 0, 1), (254, .iconst 0, 1), (255, .putfield 135, 3), (258, .aload_n 0, 1), (259, .lconst 0, 1), (260, .putfield 138, 3), (263, .aload_n 0, 1), (264, .bipush 64, 2), (266, .newarray .int, 2), (268, .putfield 141, 3), (271, .aload_n 0, 1), (272, .bipush 64, 2), (274, .newarray .int, 2), (276, .putfield 144, 3), (279, .aload_n 0, 1), (280, .bipush 70, 2), (282, .newarray .int, 2), (284, .putfield 147, 3), (287, .aload_n 0, 1), (288, .bipush 12, 2), (290, .newarray .int, 2), (292, .putfield 150, 3), (295, .aload_n 0, 1), (296, .bipush 14, 2), (298, .newarray .int, 2), (300, .putfield 153, 3), (303, .aload_n 0, 1), (304, .bipush 14, 2), (306, .newarray .int, 2), (308, .putfield 156, 3), (311, .aload_n 0, 1), (312, .bipush 14, 2), (314, .newarray .int, 2), (316, .putfield 159, 3), (319, .aload_n 0, 1), (320, .iconst 0, 1), (321, .putfield 162, 3), (324, .aload_n 0, 1), (325, .iconst 0, 1), (326, .putfield 165, 3), (329, .aload_n 0, 1), (330, .bipush 64, 2), (332, .newarray .int, 2), (334, .putfield 168, 3), (337, .aload_n 0, 1), (338, .iconst 0, 1), (339, .putfield 171, 3), (342, .aload_n 0, 1), (343, .lconst 0, 1), (344, .putfield 174, 3), (347, .aload_n 0, 1), (348, .iconst 3, 1), (349, .newarray .int, 2), (351, .putfield 177, 3), (354, .aload_n 0, 1), (355, .bipush 22, 2), (357, .newarray .int, 2), (359, .putfield 180, 3), (362, .aload_n 0, 1), (363, .sipush 132, 3), (366, .newarray .int, 2), (368, .putfield 183, 3), (371, .aload_n 0, 1), (372, .sipush 132, 3), (375, .newarray .int, 2), (377, .putfield 186, 3), (380, .aload_n 0, 1), (381, .sipush 132, 3), (384, .newarray .long, 2), (386, .putfield 189, 3), (389, .aload_n 0, 1), (390, .sipush 8448, 3), (393, .newarray .int, 2), (395, .putfield 192, 3), (398, .aload_n 0, 1), (399, .bipush 22, 2), (401, .newarray .int, 2), (403, .putfield 195, 3), (406, .aload_n 0, 1), (407, .sipush 2640, 3), (410, .newarray .int, 2), (412, .putfield 198, 3), (415, .aload_n 0, 1), (416, .iconst 0, 1), (417, .putfield 201, 3), (420, .aload_n 0, 1), (421, .iconst 0, 1), (422, .putfield 204, 3), (425, .aload_n 0, 1), (426, .lconst 1, 1), (427, .putfield 207, 3), (430, .aload_n 0, 1), (431, .sipush 500, 3), (434, .newarray .long, 2), (436, .putfield 210, 3), (439, .aload_n 0, 1), (440, .bipush 12, 2), (442, .newarray .int, 2), (444, .putfield 213, 3), (447, .aload_n 0, 1), (448, .iconst 0, 1), (449, .putfield 216, 3), (452, .aload_n 0, 1), (453, .iconst 0, 1), (454, .putfield 219, 3), (457, .aload_n 0, 1), (458, .iconst 0, 1), (459, .putfield 222, 3), (462, .aload_n 0, 1), (463, .bipush 16, 2), (465, .newarray .int, 2), (467, .putfield 225, 3), (470, .aload_n 0, 1), (471, .bipush 16, 2), (473, .newarray .int, 2), (475, .putfield 228, 3), (478, .aload_n 0, 1), (479, .bipush 19, 2), (481, .newarray .int, 2), (483, .putfield 231, 3), (486, .aload_n 0, 1), (487, .bipush 64, 2), (489, .newarray .int, 2), (491, .putfield 234, 3), (494, .aload_n 0, 1), (495, .sipush 500, 3), (498, .newarray .int, 2), (500, .putfield 237, 3), (503, .aload_n 0, 1), (504, .iconst 0, 1), (505, .putfield 240, 3), (508, .iconst 0, 1), (509, .istore_n 1, 1), (510, .iload_n 1, 1), (511, .iconst 4, 1), (512, .if_icmp .ge 16, 3), (515, .aload_n 0, 1), (516, .getfield 60, 3), (519, .iload_n 1, 1), (520, .iconst (-1), 1), (521, .iastore, 1), (522, .iinc 1 1, 3), (525, .goto (-15), 3), (528, .return_, 1)]
set_option maxRecDepth 100000 in
theorem dk_X12_init : dt_X12_init.all (fun q => decide (decode cX12_init q.1 = .ok q.2)) = true := by decide +kernel
set_option maxRecDepth 100000 in
def f_X12_init (n : Nat) (r0 : Nat) (M : Mem) : Option Mem := if zSH n = (20, 1800) then Option.bind (some (znew M n)) fun M2 => Option.bind (some (zsR M2 r0 0 (n + 1))) fun M4 => Option.bind (some (zsI M4 r0 1 0)) fun M5 => Option.bind (some (zsI M5 r0 2 0)) fun M6 => Option.bind (some (zsI M6 r0 3 0)) fun M7 => Option.bind (some (zsI M7 r0 4 0)) fun M8 => Option.bind (some (zsI M8 r0 5 0)) fun M9 => Option.bind (some (zsI M9 r0 6 0)) fun M10 => Option.bind (some (zsL M10 r0 7 0)) fun M11 => Option.bind (some (zsI M11 r0 8 0)) fun M12 => Option.bind (some (zsI M12 r0 9 ((-1)))) fun M13 => Option.bind (some (zsI M13 r0 10 0)) fun M14 => Option.bind (some (zsI M14 r0 11 ((-1)))) fun M15 => Option.bind (some (zsI M15 r0 12 ((-1)))) fun M16 => Option.bind (some (zsI M16 r0 13 0)) fun M17 => if zSH (n + 1) = (20, 20) then Option.bind (some (znew M17 (n + 1))) fun M19 => Option.bind (some (zsR M19 r0 14 (n + 1 + 1))) fun M21 => if zSH (n + 2) = (20, 2) then Option.bind (some (znew M21 (n + 2))) fun M23 => Option.bind (some (zsR M23 r0 15 (n + 2 + 1))) fun M25 => if zSH (n + 3) = (20, 4) then Option.bind (some (znew M25 (n + 3))) fun M27 => Option.bind (some (zsR M27 r0 16 (n + 3 + 1))) fun M29 => if zSH (n + 4) = (20, 4) then Option.bind (some (znew M29 (n + 4))) fun M31 => Option.bind (some (zsR M31 r0 17 (n + 4 + 1))) fun M33 => if zSH (n + 5) = (20, 3200) then Option.bind (some (znew M33 (n + 5))) fun M35 => Option.bind (some (zsR M35 r0 18 (n + 5 + 1))) fun M37 => if zSH (n + 6) = (20, 3200) then Option.bind (some (znew M37 (n + 6))) fun M39 => Option.bind (some (zsR M39 r0 19 (n + 6 + 1))) fun M41 => if zSH (n + 7) = (21, 12) then Option.bind (some (znew M41 (n + 7))) fun M43 => Option.bind (some (zsR M43 r0 20 (n + 7 + 1))) fun M45 => Option.bind (some (zsI M45 r0 21 0)) fun M46 => Option.bind (some (zsI M46 r0 22 1)) fun M47 => Option.bind (some (zsI M47 r0 23 0)) fun M48 => if zSH (n + 8) = (20, 20) then Option.bind (some (znew M48 (n + 8))) fun M50 => Option.bind (some (zsR M50 r0 24 (n + 8 + 1))) fun M52 => if zSH (n + 9) = (20, 20) then Option.bind (some (znew M52 (n + 9))) fun M54 => Option.bind (some (zsR M54 r0 25 (n + 9 + 1))) fun M56 => if zSH (n + 10) = (22, 20) then Option.bind (some (znew M56 (n + 10))) fun M58 => Option.bind (some (zsR M58 r0 26 (n + 10 + 1))) fun M60 => if zSH (n + 11) = (20, 20) then Option.bind (some (znew M60 (n + 11))) fun M62 => Option.bind (some (zsR M62 r0 27 (n + 11 + 1))) fun M64 => if zSH (n + 12) = (20, 20) then Option.bind (some (znew M64 (n + 12))) fun M66 => Option.bind (some (zsR M66 r0 28 (n + 12 + 1))) fun M68 => Option.bind (some (zsI M68 r0 29 0)) fun M69 => Option.bind (some (zsI M69 r0 30 0)) fun M70 => if zSH (n + 13) = (20, 500) then Option.bind (some (znew M70 (n + 13))) fun M72 => Option.bind (some (zsR M72 r0 31 (n + 13 + 1))) fun M74 => Option.bind (some (zsI M74 r0 32 0)) fun M75 => Option.bind (some (zsI M75 r0 33 0)) fun M76 => if zSH (n + 14) = (20, 64) then Option.bind (some (znew M76 (n + 14))) fun M78 => Option.bind (some (zsR M78 r0 34 (n + 14 + 1))) fun M80 => Option.bind (some (zsI M80 r0 35 0)) fun M81 => if zSH (n + 15) = (20, 6) then Option.bind (some (znew M81 (n + 15))) fun M83 => Option.bind (some (zsR M83 r0 36 (n + 15 + 1))) fun M85 => Option.bind (some (zsI M85 r0 37 0)) fun M86 => Option.bind (some (zsI M86 r0 38 0)) fun M87 => Option.bind (some (zsI M87 r0 39 0)) fun M88 => Option.bind (some (zsI M88 r0 40 0)) fun M89 => Option.bind (some (zsL M89 r0 41 0)) fun M90 => if zSH (n + 16) = (20, 64) then Option.bind (some (znew M90 (n + 16))) fun M92 => Option.bind (some (zsR M92 r0 42 (n + 16 + 1))) fun M94 => if zSH (n + 17) = (20, 64) then Option.bind (some (znew M94 (n + 17))) fun M96 => Option.bind (some (zsR M96 r0 43 (n + 17 + 1))) fun M98 => if zSH (n + 18) = (20, 70) then Option.bind (some (znew M98 (n + 18))) fun M100 => Option.bind (some (zsR M100 r0 44 (n + 18 + 1))) fun M102 => if zSH (n + 19) = (20, 12) then Option.bind (some (znew M102 (n + 19))) fun M104 => Option.bind (some (zsR M104 r0 45 (n + 19 + 1))) fun M106 => if zSH (n + 20) = (20, 14) then Option.bind (some (znew M106 (n + 20))) fun M108 => Option.bind (some (zsR M108 r0 46 (n + 20 + 1))) fun M110 => if zSH (n + 21) = (20, 14) then Option.bind (some (znew M110 (n + 21))) fun M112 => Option.bind (some (zsR M112 r0 47 (n + 21 + 1))) fun M114 => if zSH (n + 22) = (20, 14) then Option.bind (some (znew M114 (n + 22))) fun M116 => Option.bind (some (zsR M116 r0 48 (n + 22 + 1))) fun M118 => Option.bind (some (zsI M118 r0 49 0)) fun M119 => Option.bind (some (zsI M119 r0 50 0)) fun M120 => if zSH (n + 23) = (20, 64) then Option.bind (some (znew M120 (n + 23))) fun M122 => Option.bind (some (zsR M122 r0 51 (n + 23 + 1))) fun M124 => Option.bind (some (zsI M124 r0 52 0)) fun M125 => Option.bind (some (zsL M125 r0 53 0)) fun M126 => if zSH (n + 24) = (20, 3) then Option.bind (some (znew M126 (n + 24))) fun M128 => Option.bind (some (zsR M128 r0 54 (n + 24 + 1))) fun M130 => if zSH (n + 25) = (20, 22) then Option.bind (some (znew M130 (n + 25))) fun M132 => Option.bind (some (zsR M132 r0 55 (n + 25 + 1))) fun M134 => if zSH (n + 26) = (20, 132) then Option.bind (some (znew M134 (n + 26))) fun M136 => Option.bind (some (zsR M136 r0 56 (n + 26 + 1))) fun M138 => if zSH (n + 27) = (20, 132) then Option.bind (some (znew M138 (n + 27))) fun M140 => Option.bind (some (zsR M140 r0 57 (n + 27 + 1))) fun M142 => if zSH (n + 28) = (21, 132) then Option.bind (some (znew M142 (n + 28))) fun M144 => Option.bind (some (zsR M144 r0 58 (n + 28 + 1))) fun M146 => if zSH (n + 29) = (20, 8448) then Option.bind (some (znew M146 (n + 29))) fun M148 => Option.bind (some (zsR M148 r0 59 (n + 29 + 1))) fun M150 => if zSH (n + 30) = (20, 22) then Option.bind (some (znew M150 (n + 30))) fun M152 => Option.bind (some (zsR M152 r0 60 (n + 30 + 1))) fun M154 => if zSH (n + 31) = (20, 2640) then Option.bind (some (znew M154 (n + 31))) fun M156 => Option.bind (some (zsR M156 r0 61 (n + 31 + 1))) fun M158 => Option.bind (some (zsI M158 r0 62 0)) fun M159 => Option.bind (some (zsI M159 r0 63 0)) fun M160 => Option.bind (some (zsL M160 r0 64 1)) fun M161 => if zSH (n + 32) = (21, 500) then Option.bind (some (znew M161 (n + 32))) fun M163 => Option.bind (some (zsR M163 r0 65 (n + 32 + 1))) fun M165 => if zSH (n + 33) = (20, 12) then Option.bind (some (znew M165 (n + 33))) fun M167 => Option.bind (some (zsR M167 r0 66 (n + 33 + 1))) fun M169 => Option.bind (some (zsI M169 r0 67 0)) fun M170 => Option.bind (some (zsI M170 r0 68 0)) fun M171 => Option.bind (some (zsI M171 r0 69 0)) fun M172 => if zSH (n + 34) = (20, 16) then Option.bind (some (znew M172 (n + 34))) fun M174 => Option.bind (some (zsR M174 r0 70 (n + 34 + 1))) fun M176 => if zSH (n + 35) = (20, 16) then Option.bind (some (znew M176 (n + 35))) fun M178 => Option.bind (some (zsR M178 r0 71 (n + 35 + 1))) fun M180 => if zSH (n + 36) = (20, 19) then Option.bind (some (znew M180 (n + 36))) fun M182 => Option.bind (some (zsR M182 r0 72 (n + 36 + 1))) fun M184 => if zSH (n + 37) = (20, 64) then Option.bind (some (znew M184 (n + 37))) fun M186 => Option.bind (some (zsR M186 r0 73 (n + 37 + 1))) fun M188 => if zSH (n + 38) = (20, 500) then Option.bind (some (znew M188 (n + 38))) fun M190 => Option.bind (some (zsR M190 r0 74 (n + 38 + 1))) fun M192 => Option.bind (some (zsI M192 r0 75 0)) fun M193 => Option.bind (zrf M193 r0 16) fun q194 => Option.bind (zld q194 0) fun k195 => Option.bind (some (zsI M193 q194 k195 ((-1)))) fun M196 => Option.bind (zrf M196 r0 16) fun q197 => Option.bind (zld q197 1) fun k198 => Option.bind (some (zsI M196 q197 k198 ((-1)))) fun M199 => Option.bind (zrf M199 r0 16) fun q200 => Option.bind (zld q200 2) fun k201 => Option.bind (some (zsI M199 q200 k201 ((-1)))) fun M202 => Option.bind (zrf M202 r0 16) fun q203 => Option.bind (zld q203 3) fun k204 => Option.bind (some (zsI M202 q203 k204 ((-1)))) fun M205 => some M205 else none else none else none else none else none else none else none else none else none else none else none else none else none else none else none else none else none else none else none else none else none else none else none else none else none else none else none else none else none else none else none else none else none else none else none else none else none else none else none
set_option maxRecDepth 100000 in
set_option maxHeartbeats 8000000 in
theorem x_X12_init {κ : KX} {n : Nat} (hC : CX κ cX12_init RX12 2 none 1) (hE : zEnd κ (n + 39) (39, 21886)) (hk0 : zRk κ (39, 21886)) (hIn : zInit κ) (hAO : zAOk κ) (r0 : Nat) (M : Mem) (h_r0 : zO n r0 12) : X κ 2 emV n (0, 0) 0 [.ref r0, .null] [] M (f_X12_init n r0 M) := by
  unfold f_X12_init
  refine x_aload_n (i := 0) rfl hC (zdk dk_X12_init 0 rfl) (q := 1) rfl ?_
  refine x_oinit oi_RX12_1 hC (zdk dk_X12_init 1 rfl) (q := 4) rfl (Nat.le_of_ble_eq_true rfl) ?_
  refine x_aload_n (i := 0) rfl hC (zdk dk_X12_init 2 rfl) (q := 5) rfl ?_
  refine x_sipush (i := 1800) c_sipush_1800 hC (zdk dk_X12_init 3 rfl) (q := 8) rfl ?_
  refine x_if (fun hs3 => ?_)
  refine x_newa (k := 20) zac_20 (by decide) rfl (N := 1800) (by decide) hs3 (n2 := n + 1) rfl (cs2 := (1, 1800)) rfl (zRk_le hk0 (by decide) (by decide)) hC (zdk dk_X12_init 4 rfl) (q := 10) rfl (fun hn1 => ?_)
  refine x_nmM (fun M2 => ?_)
  refine x_putR (k := 20) fl_RX12_7 (fun _ => ⟨rfl, rfl⟩) rfl hn1 (Or.inr ⟨hIn, rfl⟩) (zO_le h_r0 (by omega)) hC (zdk dk_X12_init 5 rfl) (q := 13) rfl ?_
  refine x_nmM (fun M4 => ?_)
  refine x_aload_n (i := 0) rfl hC (zdk dk_X12_init 6 rfl) (q := 14) rfl ?_
  refine x_iconst (i := 0) c_iconst_0 hC (zdk dk_X12_init 7 rfl) (q := 15) rfl ?_
  refine x_putI fl_RX12_13 ⟨rfl, rfl⟩ (by decide) (Or.inr ⟨hIn, rfl⟩) (zO_le h_r0 (by omega)) hC (zdk dk_X12_init 8 rfl) (q := 18) rfl ?_
  refine x_nmM (fun M5 => ?_)
  refine x_aload_n (i := 0) rfl hC (zdk dk_X12_init 9 rfl) (q := 19) rfl ?_
  refine x_iconst (i := 0) c_iconst_0 hC (zdk dk_X12_init 10 rfl) (q := 20) rfl ?_
  refine x_putI fl_RX12_17 ⟨rfl, rfl⟩ (by decide) (Or.inr ⟨hIn, rfl⟩) (zO_le h_r0 (by omega)) hC (zdk dk_X12_init 11 rfl) (q := 23) rfl ?_
  refine x_nmM (fun M6 => ?_)
  refine x_aload_n (i := 0) rfl hC (zdk dk_X12_init 12 rfl) (q := 24) rfl ?_
  refine x_iconst (i := 0) c_iconst_0 hC (zdk dk_X12_init 13 rfl) (q := 25) rfl ?_
  refine x_putI fl_RX12_20 ⟨rfl, rfl⟩ (by decide) (Or.inr ⟨hIn, rfl⟩) (zO_le h_r0 (by omega)) hC (zdk dk_X12_init 14 rfl) (q := 28) rfl ?_
  refine x_nmM (fun M7 => ?_)
  refine x_aload_n (i := 0) rfl hC (zdk dk_X12_init 15 rfl) (q := 29) rfl ?_
  refine x_iconst (i := 0) c_iconst_0 hC (zdk dk_X12_init 16 rfl) (q := 30) rfl ?_
  refine x_putI fl_RX12_23 ⟨rfl, rfl⟩ (by decide) (Or.inr ⟨hIn, rfl⟩) (zO_le h_r0 (by omega)) hC (zdk dk_X12_init 17 rfl) (q := 33) rfl ?_
  refine x_nmM (fun M8 => ?_)
  refine x_aload_n (i := 0) rfl hC (zdk dk_X12_init 18 rfl) (q := 34) rfl ?_
  refine x_iconst (i := 0) c_iconst_0 hC (zdk dk_X12_init 19 rfl) (q := 35) rfl ?_
  refine x_putI fl_RX12_26 ⟨rfl, rfl⟩ (by decide) (Or.inr ⟨hIn, rfl⟩) (zO_le h_r0 (by omega)) hC (zdk dk_X12_init 20 rfl) (q := 38) rfl ?_
  refine x_nmM (fun M9 => ?_)
  refine x_aload_n (i := 0) rfl hC (zdk dk_X12_init 21 rfl) (q := 39) rfl ?_
  refine x_iconst (i := 0) c_iconst_0 hC (zdk dk_X12_init 22 rfl) (q := 40) rfl ?_
  refine x_putI fl_RX12_29 ⟨rfl, rfl⟩ (by decide) (Or.inr ⟨hIn, rfl⟩) (zO_le h_r0 (by omega)) hC (zdk dk_X12_init 23 rfl) (q := 43) rfl ?_
  refine x_nmM (fun M10 => ?_)
  refine x_aload_n (i := 0) rfl hC (zdk dk_X12_init 24 rfl) (q := 44) rfl ?_
  refine x_lconst (i := 0) c_lconst_0 hC (zdk dk_X12_init 25 rfl) (q := 45) rfl ?_
  refine x_putL fl_RX12_32 ⟨rfl, rfl⟩ (Or.inr ⟨hIn, rfl⟩) (zO_le h_r0 (by omega)) hC (zdk dk_X12_init 26 rfl) (q := 48) rfl ?_
  refine x_nmM (fun M11 => ?_)
  refine x_aload_n (i := 0) rfl hC (zdk dk_X12_init 27 rfl) (q := 49) rfl ?_
  refine x_iconst (i := 0) c_iconst_0 hC (zdk dk_X12_init 28 rfl) (q := 50) rfl ?_
  refine x_putI fl_RX12_36 ⟨rfl, rfl⟩ (by decide) (Or.inr ⟨hIn, rfl⟩) (zO_le h_r0 (by omega)) hC (zdk dk_X12_init 29 rfl) (q := 53) rfl ?_
  refine x_nmM (fun M12 => ?_)
  refine x_aload_n (i := 0) rfl hC (zdk dk_X12_init 30 rfl) (q := 54) rfl ?_
  refine x_iconst (i := (-1)) c_iconst_m1 hC (zdk dk_X12_init 31 rfl) (q := 55) rfl ?_
  refine x_putI fl_RX12_39 ⟨rfl, rfl⟩ (by decide) (Or.inr ⟨hIn, rfl⟩) (zO_le h_r0 (by omega)) hC (zdk dk_X12_init 32 rfl) (q := 58) rfl ?_
  refine x_nmM (fun M13 => ?_)
  refine x_aload_n (i := 0) rfl hC (zdk dk_X12_init 33 rfl) (q := 59) rfl ?_
  refine x_iconst (i := 0) c_iconst_0 hC (zdk dk_X12_init 34 rfl) (q := 60) rfl ?_
  refine x_putI fl_RX12_42 ⟨rfl, rfl⟩ (by decide) (Or.inr ⟨hIn, rfl⟩) (zO_le h_r0 (by omega)) hC (zdk dk_X12_init 35 rfl) (q := 63) rfl ?_
  refine x_nmM (fun M14 => ?_)
  refine x_aload_n (i := 0) rfl hC (zdk dk_X12_init 36 rfl) (q := 64) rfl ?_
  refine x_iconst (i := (-1)) c_iconst_m1 hC (zdk dk_X12_init 37 rfl) (q := 65) rfl ?_
  refine x_putI fl_RX12_45 ⟨rfl, rfl⟩ (by decide) (Or.inr ⟨hIn, rfl⟩) (zO_le h_r0 (by omega)) hC (zdk dk_X12_init 38 rfl) (q := 68) rfl ?_
  refine x_nmM (fun M15 => ?_)
  refine x_aload_n (i := 0) rfl hC (zdk dk_X12_init 39 rfl) (q := 69) rfl ?_
  refine x_iconst (i := (-1)) c_iconst_m1 hC (zdk dk_X12_init 40 rfl) (q := 70) rfl ?_
  refine x_putI fl_RX12_48 ⟨rfl, rfl⟩ (by decide) (Or.inr ⟨hIn, rfl⟩) (zO_le h_r0 (by omega)) hC (zdk dk_X12_init 41 rfl) (q := 73) rfl ?_
  refine x_nmM (fun M16 => ?_)
  refine x_aload_n (i := 0) rfl hC (zdk dk_X12_init 42 rfl) (q := 74) rfl ?_
  refine x_iconst (i := 0) c_iconst_0 hC (zdk dk_X12_init 43 rfl) (q := 75) rfl ?_
  refine x_putI fl_RX12_51 ⟨rfl, rfl⟩ (by decide) (Or.inr ⟨hIn, rfl⟩) (zO_le h_r0 (by omega)) hC (zdk dk_X12_init 44 rfl) (q := 78) rfl ?_
  refine x_nmM (fun M17 => ?_)
  refine x_aload_n (i := 0) rfl hC (zdk dk_X12_init 45 rfl) (q := 79) rfl ?_
  refine x_bipush (i := 20) c_bipush_20 hC (zdk dk_X12_init 46 rfl) (q := 81) rfl ?_
  refine x_if (fun hs20 => ?_)
  refine x_newa (k := 20) zac_20 (by decide) rfl (N := 20) (by decide) hs20 (n2 := n + 2) rfl (cs2 := (2, 1820)) rfl (zRk_le hk0 (by decide) (by decide)) hC (zdk dk_X12_init 47 rfl) (q := 83) rfl (fun hn18 => ?_)
  refine x_nmM (fun M19 => ?_)
  refine x_putR (k := 20) fl_RX12_54 (fun _ => ⟨rfl, rfl⟩) rfl hn18 (Or.inr ⟨hIn, rfl⟩) (zO_le h_r0 (by omega)) hC (zdk dk_X12_init 48 rfl) (q := 86) rfl ?_
  refine x_nmM (fun M21 => ?_)
  refine x_aload_n (i := 0) rfl hC (zdk dk_X12_init 49 rfl) (q := 87) rfl ?_
  refine x_iconst (i := 2) c_iconst_2 hC (zdk dk_X12_init 50 rfl) (q := 88) rfl ?_
  refine x_if (fun hs24 => ?_)
  refine x_newa (k := 20) zac_20 (by decide) rfl (N := 2) (by decide) hs24 (n2 := n + 3) rfl (cs2 := (3, 1822)) rfl (zRk_le hk0 (by decide) (by decide)) hC (zdk dk_X12_init 51 rfl) (q := 90) rfl (fun hn22 => ?_)
  refine x_nmM (fun M23 => ?_)
  refine x_putR (k := 20) fl_RX12_57 (fun _ => ⟨rfl, rfl⟩) rfl hn22 (Or.inr ⟨hIn, rfl⟩) (zO_le h_r0 (by omega)) hC (zdk dk_X12_init 52 rfl) (q := 93) rfl ?_
  refine x_nmM (fun M25 => ?_)
  refine x_aload_n (i := 0) rfl hC (zdk dk_X12_init 53 rfl) (q := 94) rfl ?_
  refine x_iconst (i := 4) c_iconst_4 hC (zdk dk_X12_init 54 rfl) (q := 95) rfl ?_
  refine x_if (fun hs28 => ?_)
  refine x_newa (k := 20) zac_20 (by decide) rfl (N := 4) (by decide) hs28 (n2 := n + 4) rfl (cs2 := (4, 1826)) rfl (zRk_le hk0 (by decide) (by decide)) hC (zdk dk_X12_init 55 rfl) (q := 97) rfl (fun hn26 => ?_)
  refine x_nmM (fun M27 => ?_)
  refine x_putR (k := 20) fl_RX12_60 (fun _ => ⟨rfl, rfl⟩) rfl hn26 (Or.inr ⟨hIn, rfl⟩) (zO_le h_r0 (by omega)) hC (zdk dk_X12_init 56 rfl) (q := 100) rfl ?_
  refine x_nmM (fun M29 => ?_)
  refine x_aload_n (i := 0) rfl hC (zdk dk_X12_init 57 rfl) (q := 101) rfl ?_
  refine x_iconst (i := 4) c_iconst_4 hC (zdk dk_X12_init 58 rfl) (q := 102) rfl ?_
  refine x_if (fun hs32 => ?_)
  refine x_newa (k := 20) zac_20 (by decide) rfl (N := 4) (by decide) hs32 (n2 := n + 5) rfl (cs2 := (5, 1830)) rfl (zRk_le hk0 (by decide) (by decide)) hC (zdk dk_X12_init 59 rfl) (q := 104) rfl (fun hn30 => ?_)
  refine x_nmM (fun M31 => ?_)
  refine x_putR (k := 20) fl_RX12_63 (fun _ => ⟨rfl, rfl⟩) rfl hn30 (Or.inr ⟨hIn, rfl⟩) (zO_le h_r0 (by omega)) hC (zdk dk_X12_init 60 rfl) (q := 107) rfl ?_
  refine x_nmM (fun M33 => ?_)
  refine x_aload_n (i := 0) rfl hC (zdk dk_X12_init 61 rfl) (q := 108) rfl ?_
  refine x_sipush (i := 3200) c_sipush_3200 hC (zdk dk_X12_init 62 rfl) (q := 111) rfl ?_
  refine x_if (fun hs36 => ?_)
  refine x_newa (k := 20) zac_20 (by decide) rfl (N := 3200) (by decide) hs36 (n2 := n + 6) rfl (cs2 := (6, 5030)) rfl (zRk_le hk0 (by decide) (by decide)) hC (zdk dk_X12_init 63 rfl) (q := 113) rfl (fun hn34 => ?_)
  refine x_nmM (fun M35 => ?_)
  refine x_putR (k := 20) fl_RX12_66 (fun _ => ⟨rfl, rfl⟩) rfl hn34 (Or.inr ⟨hIn, rfl⟩) (zO_le h_r0 (by omega)) hC (zdk dk_X12_init 64 rfl) (q := 116) rfl ?_
  refine x_nmM (fun M37 => ?_)
  refine x_aload_n (i := 0) rfl hC (zdk dk_X12_init 65 rfl) (q := 117) rfl ?_
  refine x_sipush (i := 3200) c_sipush_3200 hC (zdk dk_X12_init 66 rfl) (q := 120) rfl ?_
  refine x_if (fun hs40 => ?_)
  refine x_newa (k := 20) zac_20 (by decide) rfl (N := 3200) (by decide) hs40 (n2 := n + 7) rfl (cs2 := (7, 8230)) rfl (zRk_le hk0 (by decide) (by decide)) hC (zdk dk_X12_init 67 rfl) (q := 122) rfl (fun hn38 => ?_)
  refine x_nmM (fun M39 => ?_)
  refine x_putR (k := 20) fl_RX12_69 (fun _ => ⟨rfl, rfl⟩) rfl hn38 (Or.inr ⟨hIn, rfl⟩) (zO_le h_r0 (by omega)) hC (zdk dk_X12_init 68 rfl) (q := 125) rfl ?_
  refine x_nmM (fun M41 => ?_)
  refine x_aload_n (i := 0) rfl hC (zdk dk_X12_init 69 rfl) (q := 126) rfl ?_
  refine x_bipush (i := 12) c_bipush_12 hC (zdk dk_X12_init 70 rfl) (q := 128) rfl ?_
  refine x_if (fun hs44 => ?_)
  refine x_newa (k := 21) zac_21 (by decide) rfl (N := 12) (by decide) hs44 (n2 := n + 8) rfl (cs2 := (8, 8242)) rfl (zRk_le hk0 (by decide) (by decide)) hC (zdk dk_X12_init 71 rfl) (q := 130) rfl (fun hn42 => ?_)
  refine x_nmM (fun M43 => ?_)
  refine x_putR (k := 21) fl_RX12_72 (fun _ => ⟨rfl, rfl⟩) rfl hn42 (Or.inr ⟨hIn, rfl⟩) (zO_le h_r0 (by omega)) hC (zdk dk_X12_init 72 rfl) (q := 133) rfl ?_
  refine x_nmM (fun M45 => ?_)
  refine x_aload_n (i := 0) rfl hC (zdk dk_X12_init 73 rfl) (q := 134) rfl ?_
  refine x_iconst (i := 0) c_iconst_0 hC (zdk dk_X12_init 74 rfl) (q := 135) rfl ?_
  refine x_putI fl_RX12_76 ⟨rfl, rfl⟩ (by decide) (Or.inr ⟨hIn, rfl⟩) (zO_le h_r0 (by omega)) hC (zdk dk_X12_init 75 rfl) (q := 138) rfl ?_
  refine x_nmM (fun M46 => ?_)
  refine x_aload_n (i := 0) rfl hC (zdk dk_X12_init 76 rfl) (q := 139) rfl ?_
  refine x_iconst (i := 1) c_iconst_1 hC (zdk dk_X12_init 77 rfl) (q := 140) rfl ?_
  refine x_putI fl_RX12_79 ⟨rfl, rfl⟩ (by decide) (Or.inr ⟨hIn, rfl⟩) (zO_le h_r0 (by omega)) hC (zdk dk_X12_init 78 rfl) (q := 143) rfl ?_
  refine x_nmM (fun M47 => ?_)
  refine x_aload_n (i := 0) rfl hC (zdk dk_X12_init 79 rfl) (q := 144) rfl ?_
  refine x_iconst (i := 0) c_iconst_0 hC (zdk dk_X12_init 80 rfl) (q := 145) rfl ?_
  refine x_putI fl_RX12_82 ⟨rfl, rfl⟩ (by decide) (Or.inr ⟨hIn, rfl⟩) (zO_le h_r0 (by omega)) hC (zdk dk_X12_init 81 rfl) (q := 148) rfl ?_
  refine x_nmM (fun M48 => ?_)
  refine x_aload_n (i := 0) rfl hC (zdk dk_X12_init 82 rfl) (q := 149) rfl ?_
  refine x_bipush (i := 20) c_bipush_20 hC (zdk dk_X12_init 83 rfl) (q := 151) rfl ?_
  refine x_if (fun hs51 => ?_)
  refine x_newa (k := 20) zac_20 (by decide) rfl (N := 20) (by decide) hs51 (n2 := n + 9) rfl (cs2 := (9, 8262)) rfl (zRk_le hk0 (by decide) (by decide)) hC (zdk dk_X12_init 84 rfl) (q := 153) rfl (fun hn49 => ?_)
  refine x_nmM (fun M50 => ?_)
  refine x_putR (k := 20) fl_RX12_85 (fun _ => ⟨rfl, rfl⟩) rfl hn49 (Or.inr ⟨hIn, rfl⟩) (zO_le h_r0 (by omega)) hC (zdk dk_X12_init 85 rfl) (q := 156) rfl ?_
  refine x_nmM (fun M52 => ?_)
  refine x_aload_n (i := 0) rfl hC (zdk dk_X12_init 86 rfl) (q := 157) rfl ?_
  refine x_bipush (i := 20) c_bipush_20 hC (zdk dk_X12_init 87 rfl) (q := 159) rfl ?_
  refine x_if (fun hs55 => ?_)
  refine x_newa (k := 20) zac_20 (by decide) rfl (N := 20) (by decide) hs55 (n2 := n + 10) rfl (cs2 := (10, 8282)) rfl (zRk_le hk0 (by decide) (by decide)) hC (zdk dk_X12_init 88 rfl) (q := 161) rfl (fun hn53 => ?_)
  refine x_nmM (fun M54 => ?_)
  refine x_putR (k := 20) fl_RX12_88 (fun _ => ⟨rfl, rfl⟩) rfl hn53 (Or.inr ⟨hIn, rfl⟩) (zO_le h_r0 (by omega)) hC (zdk dk_X12_init 89 rfl) (q := 164) rfl ?_
  refine x_nmM (fun M56 => ?_)
  refine x_aload_n (i := 0) rfl hC (zdk dk_X12_init 90 rfl) (q := 165) rfl ?_
  refine x_bipush (i := 20) c_bipush_20 hC (zdk dk_X12_init 91 rfl) (q := 167) rfl ?_
  refine x_if (fun hs59 => ?_)
  refine x_newa (k := 22) zac_22 (by decide) rfl (N := 20) (by decide) hs59 (n2 := n + 11) rfl (cs2 := (11, 8302)) rfl (zRk_le hk0 (by decide) (by decide)) hC (zdk dk_X12_init 92 rfl) (q := 169) rfl (fun hn57 => ?_)
  refine x_nmM (fun M58 => ?_)
  refine x_putR (k := 22) fl_RX12_91 (fun _ => ⟨rfl, rfl⟩) rfl hn57 (Or.inr ⟨hIn, rfl⟩) (zO_le h_r0 (by omega)) hC (zdk dk_X12_init 93 rfl) (q := 172) rfl ?_
  refine x_nmM (fun M60 => ?_)
  refine x_aload_n (i := 0) rfl hC (zdk dk_X12_init 94 rfl) (q := 173) rfl ?_
  refine x_bipush (i := 20) c_bipush_20 hC (zdk dk_X12_init 95 rfl) (q := 175) rfl ?_
  refine x_if (fun hs63 => ?_)
  refine x_newa (k := 20) zac_20 (by decide) rfl (N := 20) (by decide) hs63 (n2 := n + 12) rfl (cs2 := (12, 8322)) rfl (zRk_le hk0 (by decide) (by decide)) hC (zdk dk_X12_init 96 rfl) (q := 177) rfl (fun hn61 => ?_)
  refine x_nmM (fun M62 => ?_)
  refine x_putR (k := 20) fl_RX12_95 (fun _ => ⟨rfl, rfl⟩) rfl hn61 (Or.inr ⟨hIn, rfl⟩) (zO_le h_r0 (by omega)) hC (zdk dk_X12_init 97 rfl) (q := 180) rfl ?_
  refine x_nmM (fun M64 => ?_)
  refine x_aload_n (i := 0) rfl hC (zdk dk_X12_init 98 rfl) (q := 181) rfl ?_
  refine x_bipush (i := 20) c_bipush_20 hC (zdk dk_X12_init 99 rfl) (q := 183) rfl ?_
  refine x_if (fun hs67 => ?_)
  refine x_newa (k := 20) zac_20 (by decide) rfl (N := 20) (by decide) hs67 (n2 := n + 13) rfl (cs2 := (13, 8342)) rfl (zRk_le hk0 (by decide) (by decide)) hC (zdk dk_X12_init 100 rfl) (q := 185) rfl (fun hn65 => ?_)
  refine x_nmM (fun M66 => ?_)
  refine x_putR (k := 20) fl_RX12_98 (fun _ => ⟨rfl, rfl⟩) rfl hn65 (Or.inr ⟨hIn, rfl⟩) (zO_le h_r0 (by omega)) hC (zdk dk_X12_init 101 rfl) (q := 188) rfl ?_
  refine x_nmM (fun M68 => ?_)
  refine x_aload_n (i := 0) rfl hC (zdk dk_X12_init 102 rfl) (q := 189) rfl ?_
  refine x_iconst (i := 0) c_iconst_0 hC (zdk dk_X12_init 103 rfl) (q := 190) rfl ?_
  refine x_putI fl_RX12_101 ⟨rfl, rfl⟩ (by decide) (Or.inr ⟨hIn, rfl⟩) (zO_le h_r0 (by omega)) hC (zdk dk_X12_init 104 rfl) (q := 193) rfl ?_
  refine x_nmM (fun M69 => ?_)
  refine x_aload_n (i := 0) rfl hC (zdk dk_X12_init 105 rfl) (q := 194) rfl ?_
  refine x_iconst (i := 0) c_iconst_0 hC (zdk dk_X12_init 106 rfl) (q := 195) rfl ?_
  refine x_putI fl_RX12_104 ⟨rfl, rfl⟩ (by decide) (Or.inr ⟨hIn, rfl⟩) (zO_le h_r0 (by omega)) hC (zdk dk_X12_init 107 rfl) (q := 198) rfl ?_
  refine x_nmM (fun M70 => ?_)
  refine x_aload_n (i := 0) rfl hC (zdk dk_X12_init 108 rfl) (q := 199) rfl ?_
  refine x_sipush (i := 500) c_sipush_500 hC (zdk dk_X12_init 109 rfl) (q := 202) rfl ?_
  refine x_if (fun hs73 => ?_)
  refine x_newa (k := 20) zac_20 (by decide) rfl (N := 500) (by decide) hs73 (n2 := n + 14) rfl (cs2 := (14, 8842)) rfl (zRk_le hk0 (by decide) (by decide)) hC (zdk dk_X12_init 110 rfl) (q := 204) rfl (fun hn71 => ?_)
  refine x_nmM (fun M72 => ?_)
  refine x_putR (k := 20) fl_RX12_107 (fun _ => ⟨rfl, rfl⟩) rfl hn71 (Or.inr ⟨hIn, rfl⟩) (zO_le h_r0 (by omega)) hC (zdk dk_X12_init 111 rfl) (q := 207) rfl ?_
  refine x_nmM (fun M74 => ?_)
  refine x_aload_n (i := 0) rfl hC (zdk dk_X12_init 112 rfl) (q := 208) rfl ?_
  refine x_iconst (i := 0) c_iconst_0 hC (zdk dk_X12_init 113 rfl) (q := 209) rfl ?_
  refine x_putI fl_RX12_110 ⟨rfl, rfl⟩ (by decide) (Or.inr ⟨hIn, rfl⟩) (zO_le h_r0 (by omega)) hC (zdk dk_X12_init 114 rfl) (q := 212) rfl ?_
  refine x_nmM (fun M75 => ?_)
  refine x_aload_n (i := 0) rfl hC (zdk dk_X12_init 115 rfl) (q := 213) rfl ?_
  refine x_iconst (i := 0) c_iconst_0 hC (zdk dk_X12_init 116 rfl) (q := 214) rfl ?_
  refine x_putI fl_RX12_113 ⟨rfl, rfl⟩ (by decide) (Or.inr ⟨hIn, rfl⟩) (zO_le h_r0 (by omega)) hC (zdk dk_X12_init 117 rfl) (q := 217) rfl ?_
  refine x_nmM (fun M76 => ?_)
  refine x_aload_n (i := 0) rfl hC (zdk dk_X12_init 118 rfl) (q := 218) rfl ?_
  refine x_bipush (i := 64) c_bipush_64 hC (zdk dk_X12_init 119 rfl) (q := 220) rfl ?_
  refine x_if (fun hs79 => ?_)
  refine x_newa (k := 20) zac_20 (by decide) rfl (N := 64) (by decide) hs79 (n2 := n + 15) rfl (cs2 := (15, 8906)) rfl (zRk_le hk0 (by decide) (by decide)) hC (zdk dk_X12_init 120 rfl) (q := 222) rfl (fun hn77 => ?_)
  refine x_nmM (fun M78 => ?_)
  refine x_putR (k := 20) fl_RX12_117 (fun _ => ⟨rfl, rfl⟩) rfl hn77 (Or.inr ⟨hIn, rfl⟩) (zO_le h_r0 (by omega)) hC (zdk dk_X12_init 121 rfl) (q := 225) rfl ?_
  refine x_nmM (fun M80 => ?_)
  refine x_aload_n (i := 0) rfl hC (zdk dk_X12_init 122 rfl) (q := 226) rfl ?_
  refine x_iconst (i := 0) c_iconst_0 hC (zdk dk_X12_init 123 rfl) (q := 227) rfl ?_
  refine x_putI fl_RX12_120 ⟨rfl, rfl⟩ (by decide) (Or.inr ⟨hIn, rfl⟩) (zO_le h_r0 (by omega)) hC (zdk dk_X12_init 124 rfl) (q := 230) rfl ?_
  refine x_nmM (fun M81 => ?_)
  refine x_aload_n (i := 0) rfl hC (zdk dk_X12_init 125 rfl) (q := 231) rfl ?_
  refine x_bipush (i := 6) c_bipush_6 hC (zdk dk_X12_init 126 rfl) (q := 233) rfl ?_
  refine x_if (fun hs84 => ?_)
  refine x_newa (k := 20) zac_20 (by decide) rfl (N := 6) (by decide) hs84 (n2 := n + 16) rfl (cs2 := (16, 8912)) rfl (zRk_le hk0 (by decide) (by decide)) hC (zdk dk_X12_init 127 rfl) (q := 235) rfl (fun hn82 => ?_)
  refine x_nmM (fun M83 => ?_)
  refine x_putR (k := 20) fl_RX12_123 (fun _ => ⟨rfl, rfl⟩) rfl hn82 (Or.inr ⟨hIn, rfl⟩) (zO_le h_r0 (by omega)) hC (zdk dk_X12_init 128 rfl) (q := 238) rfl ?_
  refine x_nmM (fun M85 => ?_)
  refine x_aload_n (i := 0) rfl hC (zdk dk_X12_init 129 rfl) (q := 239) rfl ?_
  refine x_iconst (i := 0) c_iconst_0 hC (zdk dk_X12_init 130 rfl) (q := 240) rfl ?_
  refine x_putI fl_RX12_126 ⟨rfl, rfl⟩ (by decide) (Or.inr ⟨hIn, rfl⟩) (zO_le h_r0 (by omega)) hC (zdk dk_X12_init 131 rfl) (q := 243) rfl ?_
  refine x_nmM (fun M86 => ?_)
  refine x_aload_n (i := 0) rfl hC (zdk dk_X12_init 132 rfl) (q := 244) rfl ?_
  refine x_iconst (i := 0) c_iconst_0 hC (zdk dk_X12_init 133 rfl) (q := 245) rfl ?_
  refine x_putI fl_RX12_129 ⟨rfl, rfl⟩ (by decide) (Or.inr ⟨hIn, rfl⟩) (zO_le h_r0 (by omega)) hC (zdk dk_X12_init 134 rfl) (q := 248) rfl ?_
  refine x_nmM (fun M87 => ?_)
  refine x_aload_n (i := 0) rfl hC (zdk dk_X12_init 135 rfl) (q := 249) rfl ?_
  refine x_iconst (i := 0) c_iconst_0 hC (zdk dk_X12_init 136 rfl) (q := 250) rfl ?_
  refine x_putI fl_RX12_132 ⟨rfl, rfl⟩ (by decide) (Or.inr ⟨hIn, rfl⟩) (zO_le h_r0 (by omega)) hC (zdk dk_X12_init 137 rfl) (q := 253) rfl ?_
  refine x_nmM (fun M88 => ?_)
  refine x_aload_n (i := 0) rfl hC (zdk dk_X12_init 138 rfl) (q := 254) rfl ?_
  refine x_iconst (i := 0) c_iconst_0 hC (zdk dk_X12_init 139 rfl) (q := 255) rfl ?_
  refine x_putI fl_RX12_135 ⟨rfl, rfl⟩ (by decide) (Or.inr ⟨hIn, rfl⟩) (zO_le h_r0 (by omega)) hC (zdk dk_X12_init 140 rfl) (q := 258) rfl ?_
  refine x_nmM (fun M89 => ?_)
  refine x_aload_n (i := 0) rfl hC (zdk dk_X12_init 141 rfl) (q := 259) rfl ?_
  refine x_lconst (i := 0) c_lconst_0 hC (zdk dk_X12_init 142 rfl) (q := 260) rfl ?_
  refine x_putL fl_RX12_138 ⟨rfl, rfl⟩ (Or.inr ⟨hIn, rfl⟩) (zO_le h_r0 (by omega)) hC (zdk dk_X12_init 143 rfl) (q := 263) rfl ?_
  refine x_nmM (fun M90 => ?_)
  refine x_aload_n (i := 0) rfl hC (zdk dk_X12_init 144 rfl) (q := 264) rfl ?_
  refine x_bipush (i := 64) c_bipush_64 hC (zdk dk_X12_init 145 rfl) (q := 266) rfl ?_
  refine x_if (fun hs93 => ?_)
  refine x_newa (k := 20) zac_20 (by decide) rfl (N := 64) (by decide) hs93 (n2 := n + 17) rfl (cs2 := (17, 8976)) rfl (zRk_le hk0 (by decide) (by decide)) hC (zdk dk_X12_init 146 rfl) (q := 268) rfl (fun hn91 => ?_)
  refine x_nmM (fun M92 => ?_)
  refine x_putR (k := 20) fl_RX12_141 (fun _ => ⟨rfl, rfl⟩) rfl hn91 (Or.inr ⟨hIn, rfl⟩) (zO_le h_r0 (by omega)) hC (zdk dk_X12_init 147 rfl) (q := 271) rfl ?_
  refine x_nmM (fun M94 => ?_)
  refine x_aload_n (i := 0) rfl hC (zdk dk_X12_init 148 rfl) (q := 272) rfl ?_
  refine x_bipush (i := 64) c_bipush_64 hC (zdk dk_X12_init 149 rfl) (q := 274) rfl ?_
  refine x_if (fun hs97 => ?_)
  refine x_newa (k := 20) zac_20 (by decide) rfl (N := 64) (by decide) hs97 (n2 := n + 18) rfl (cs2 := (18, 9040)) rfl (zRk_le hk0 (by decide) (by decide)) hC (zdk dk_X12_init 150 rfl) (q := 276) rfl (fun hn95 => ?_)
  refine x_nmM (fun M96 => ?_)
  refine x_putR (k := 20) fl_RX12_144 (fun _ => ⟨rfl, rfl⟩) rfl hn95 (Or.inr ⟨hIn, rfl⟩) (zO_le h_r0 (by omega)) hC (zdk dk_X12_init 151 rfl) (q := 279) rfl ?_
  refine x_nmM (fun M98 => ?_)
  refine x_aload_n (i := 0) rfl hC (zdk dk_X12_init 152 rfl) (q := 280) rfl ?_
  refine x_bipush (i := 70) c_bipush_70 hC (zdk dk_X12_init 153 rfl) (q := 282) rfl ?_
  refine x_if (fun hs101 => ?_)
  refine x_newa (k := 20) zac_20 (by decide) rfl (N := 70) (by decide) hs101 (n2 := n + 19) rfl (cs2 := (19, 9110)) rfl (zRk_le hk0 (by decide) (by decide)) hC (zdk dk_X12_init 154 rfl) (q := 284) rfl (fun hn99 => ?_)
  refine x_nmM (fun M100 => ?_)
  refine x_putR (k := 20) fl_RX12_147 (fun _ => ⟨rfl, rfl⟩) rfl hn99 (Or.inr ⟨hIn, rfl⟩) (zO_le h_r0 (by omega)) hC (zdk dk_X12_init 155 rfl) (q := 287) rfl ?_
  refine x_nmM (fun M102 => ?_)
  refine x_aload_n (i := 0) rfl hC (zdk dk_X12_init 156 rfl) (q := 288) rfl ?_
  refine x_bipush (i := 12) c_bipush_12 hC (zdk dk_X12_init 157 rfl) (q := 290) rfl ?_
  refine x_if (fun hs105 => ?_)
  refine x_newa (k := 20) zac_20 (by decide) rfl (N := 12) (by decide) hs105 (n2 := n + 20) rfl (cs2 := (20, 9122)) rfl (zRk_le hk0 (by decide) (by decide)) hC (zdk dk_X12_init 158 rfl) (q := 292) rfl (fun hn103 => ?_)
  refine x_nmM (fun M104 => ?_)
  refine x_putR (k := 20) fl_RX12_150 (fun _ => ⟨rfl, rfl⟩) rfl hn103 (Or.inr ⟨hIn, rfl⟩) (zO_le h_r0 (by omega)) hC (zdk dk_X12_init 159 rfl) (q := 295) rfl ?_
  refine x_nmM (fun M106 => ?_)
  refine x_aload_n (i := 0) rfl hC (zdk dk_X12_init 160 rfl) (q := 296) rfl ?_
  refine x_bipush (i := 14) c_bipush_14 hC (zdk dk_X12_init 161 rfl) (q := 298) rfl ?_
  refine x_if (fun hs109 => ?_)
  refine x_newa (k := 20) zac_20 (by decide) rfl (N := 14) (by decide) hs109 (n2 := n + 21) rfl (cs2 := (21, 9136)) rfl (zRk_le hk0 (by decide) (by decide)) hC (zdk dk_X12_init 162 rfl) (q := 300) rfl (fun hn107 => ?_)
  refine x_nmM (fun M108 => ?_)
  refine x_putR (k := 20) fl_RX12_153 (fun _ => ⟨rfl, rfl⟩) rfl hn107 (Or.inr ⟨hIn, rfl⟩) (zO_le h_r0 (by omega)) hC (zdk dk_X12_init 163 rfl) (q := 303) rfl ?_
  refine x_nmM (fun M110 => ?_)
  refine x_aload_n (i := 0) rfl hC (zdk dk_X12_init 164 rfl) (q := 304) rfl ?_
  refine x_bipush (i := 14) c_bipush_14 hC (zdk dk_X12_init 165 rfl) (q := 306) rfl ?_
  refine x_if (fun hs113 => ?_)
  refine x_newa (k := 20) zac_20 (by decide) rfl (N := 14) (by decide) hs113 (n2 := n + 22) rfl (cs2 := (22, 9150)) rfl (zRk_le hk0 (by decide) (by decide)) hC (zdk dk_X12_init 166 rfl) (q := 308) rfl (fun hn111 => ?_)
  refine x_nmM (fun M112 => ?_)
  refine x_putR (k := 20) fl_RX12_156 (fun _ => ⟨rfl, rfl⟩) rfl hn111 (Or.inr ⟨hIn, rfl⟩) (zO_le h_r0 (by omega)) hC (zdk dk_X12_init 167 rfl) (q := 311) rfl ?_
  refine x_nmM (fun M114 => ?_)
  refine x_aload_n (i := 0) rfl hC (zdk dk_X12_init 168 rfl) (q := 312) rfl ?_
  refine x_bipush (i := 14) c_bipush_14 hC (zdk dk_X12_init 169 rfl) (q := 314) rfl ?_
  refine x_if (fun hs117 => ?_)
  refine x_newa (k := 20) zac_20 (by decide) rfl (N := 14) (by decide) hs117 (n2 := n + 23) rfl (cs2 := (23, 9164)) rfl (zRk_le hk0 (by decide) (by decide)) hC (zdk dk_X12_init 170 rfl) (q := 316) rfl (fun hn115 => ?_)
  refine x_nmM (fun M116 => ?_)
  refine x_putR (k := 20) fl_RX12_159 (fun _ => ⟨rfl, rfl⟩) rfl hn115 (Or.inr ⟨hIn, rfl⟩) (zO_le h_r0 (by omega)) hC (zdk dk_X12_init 171 rfl) (q := 319) rfl ?_
  refine x_nmM (fun M118 => ?_)
  refine x_aload_n (i := 0) rfl hC (zdk dk_X12_init 172 rfl) (q := 320) rfl ?_
  refine x_iconst (i := 0) c_iconst_0 hC (zdk dk_X12_init 173 rfl) (q := 321) rfl ?_
  refine x_putI fl_RX12_162 ⟨rfl, rfl⟩ (by decide) (Or.inr ⟨hIn, rfl⟩) (zO_le h_r0 (by omega)) hC (zdk dk_X12_init 174 rfl) (q := 324) rfl ?_
  refine x_nmM (fun M119 => ?_)
  refine x_aload_n (i := 0) rfl hC (zdk dk_X12_init 175 rfl) (q := 325) rfl ?_
  refine x_iconst (i := 0) c_iconst_0 hC (zdk dk_X12_init 176 rfl) (q := 326) rfl ?_
  refine x_putI fl_RX12_165 ⟨rfl, rfl⟩ (by decide) (Or.inr ⟨hIn, rfl⟩) (zO_le h_r0 (by omega)) hC (zdk dk_X12_init 177 rfl) (q := 329) rfl ?_
  refine x_nmM (fun M120 => ?_)
  refine x_aload_n (i := 0) rfl hC (zdk dk_X12_init 178 rfl) (q := 330) rfl ?_
  refine x_bipush (i := 64) c_bipush_64 hC (zdk dk_X12_init 179 rfl) (q := 332) rfl ?_
  refine x_if (fun hs123 => ?_)
  refine x_newa (k := 20) zac_20 (by decide) rfl (N := 64) (by decide) hs123 (n2 := n + 24) rfl (cs2 := (24, 9228)) rfl (zRk_le hk0 (by decide) (by decide)) hC (zdk dk_X12_init 180 rfl) (q := 334) rfl (fun hn121 => ?_)
  refine x_nmM (fun M122 => ?_)
  refine x_putR (k := 20) fl_RX12_168 (fun _ => ⟨rfl, rfl⟩) rfl hn121 (Or.inr ⟨hIn, rfl⟩) (zO_le h_r0 (by omega)) hC (zdk dk_X12_init 181 rfl) (q := 337) rfl ?_
  refine x_nmM (fun M124 => ?_)
  refine x_aload_n (i := 0) rfl hC (zdk dk_X12_init 182 rfl) (q := 338) rfl ?_
  refine x_iconst (i := 0) c_iconst_0 hC (zdk dk_X12_init 183 rfl) (q := 339) rfl ?_
  refine x_putI fl_RX12_171 ⟨rfl, rfl⟩ (by decide) (Or.inr ⟨hIn, rfl⟩) (zO_le h_r0 (by omega)) hC (zdk dk_X12_init 184 rfl) (q := 342) rfl ?_
  refine x_nmM (fun M125 => ?_)
  refine x_aload_n (i := 0) rfl hC (zdk dk_X12_init 185 rfl) (q := 343) rfl ?_
  refine x_lconst (i := 0) c_lconst_0 hC (zdk dk_X12_init 186 rfl) (q := 344) rfl ?_
  refine x_putL fl_RX12_174 ⟨rfl, rfl⟩ (Or.inr ⟨hIn, rfl⟩) (zO_le h_r0 (by omega)) hC (zdk dk_X12_init 187 rfl) (q := 347) rfl ?_
  refine x_nmM (fun M126 => ?_)
  refine x_aload_n (i := 0) rfl hC (zdk dk_X12_init 188 rfl) (q := 348) rfl ?_
  refine x_iconst (i := 3) c_iconst_3 hC (zdk dk_X12_init 189 rfl) (q := 349) rfl ?_
  refine x_if (fun hs129 => ?_)
  refine x_newa (k := 20) zac_20 (by decide) rfl (N := 3) (by decide) hs129 (n2 := n + 25) rfl (cs2 := (25, 9231)) rfl (zRk_le hk0 (by decide) (by decide)) hC (zdk dk_X12_init 190 rfl) (q := 351) rfl (fun hn127 => ?_)
  refine x_nmM (fun M128 => ?_)
  refine x_putR (k := 20) fl_RX12_177 (fun _ => ⟨rfl, rfl⟩) rfl hn127 (Or.inr ⟨hIn, rfl⟩) (zO_le h_r0 (by omega)) hC (zdk dk_X12_init 191 rfl) (q := 354) rfl ?_
  refine x_nmM (fun M130 => ?_)
  refine x_aload_n (i := 0) rfl hC (zdk dk_X12_init 192 rfl) (q := 355) rfl ?_
  refine x_bipush (i := 22) c_bipush_22 hC (zdk dk_X12_init 193 rfl) (q := 357) rfl ?_
  refine x_if (fun hs133 => ?_)
  refine x_newa (k := 20) zac_20 (by decide) rfl (N := 22) (by decide) hs133 (n2 := n + 26) rfl (cs2 := (26, 9253)) rfl (zRk_le hk0 (by decide) (by decide)) hC (zdk dk_X12_init 194 rfl) (q := 359) rfl (fun hn131 => ?_)
  refine x_nmM (fun M132 => ?_)
  refine x_putR (k := 20) fl_RX12_180 (fun _ => ⟨rfl, rfl⟩) rfl hn131 (Or.inr ⟨hIn, rfl⟩) (zO_le h_r0 (by omega)) hC (zdk dk_X12_init 195 rfl) (q := 362) rfl ?_
  refine x_nmM (fun M134 => ?_)
  refine x_aload_n (i := 0) rfl hC (zdk dk_X12_init 196 rfl) (q := 363) rfl ?_
  refine x_sipush (i := 132) c_sipush_132 hC (zdk dk_X12_init 197 rfl) (q := 366) rfl ?_
  refine x_if (fun hs137 => ?_)
  refine x_newa (k := 20) zac_20 (by decide) rfl (N := 132) (by decide) hs137 (n2 := n + 27) rfl (cs2 := (27, 9385)) rfl (zRk_le hk0 (by decide) (by decide)) hC (zdk dk_X12_init 198 rfl) (q := 368) rfl (fun hn135 => ?_)
  refine x_nmM (fun M136 => ?_)
  refine x_putR (k := 20) fl_RX12_183 (fun _ => ⟨rfl, rfl⟩) rfl hn135 (Or.inr ⟨hIn, rfl⟩) (zO_le h_r0 (by omega)) hC (zdk dk_X12_init 199 rfl) (q := 371) rfl ?_
  refine x_nmM (fun M138 => ?_)
  refine x_aload_n (i := 0) rfl hC (zdk dk_X12_init 200 rfl) (q := 372) rfl ?_
  refine x_sipush (i := 132) c_sipush_132 hC (zdk dk_X12_init 201 rfl) (q := 375) rfl ?_
  refine x_if (fun hs141 => ?_)
  refine x_newa (k := 20) zac_20 (by decide) rfl (N := 132) (by decide) hs141 (n2 := n + 28) rfl (cs2 := (28, 9517)) rfl (zRk_le hk0 (by decide) (by decide)) hC (zdk dk_X12_init 202 rfl) (q := 377) rfl (fun hn139 => ?_)
  refine x_nmM (fun M140 => ?_)
  refine x_putR (k := 20) fl_RX12_186 (fun _ => ⟨rfl, rfl⟩) rfl hn139 (Or.inr ⟨hIn, rfl⟩) (zO_le h_r0 (by omega)) hC (zdk dk_X12_init 203 rfl) (q := 380) rfl ?_
  refine x_nmM (fun M142 => ?_)
  refine x_aload_n (i := 0) rfl hC (zdk dk_X12_init 204 rfl) (q := 381) rfl ?_
  refine x_sipush (i := 132) c_sipush_132 hC (zdk dk_X12_init 205 rfl) (q := 384) rfl ?_
  refine x_if (fun hs145 => ?_)
  refine x_newa (k := 21) zac_21 (by decide) rfl (N := 132) (by decide) hs145 (n2 := n + 29) rfl (cs2 := (29, 9649)) rfl (zRk_le hk0 (by decide) (by decide)) hC (zdk dk_X12_init 206 rfl) (q := 386) rfl (fun hn143 => ?_)
  refine x_nmM (fun M144 => ?_)
  refine x_putR (k := 21) fl_RX12_189 (fun _ => ⟨rfl, rfl⟩) rfl hn143 (Or.inr ⟨hIn, rfl⟩) (zO_le h_r0 (by omega)) hC (zdk dk_X12_init 207 rfl) (q := 389) rfl ?_
  refine x_nmM (fun M146 => ?_)
  refine x_aload_n (i := 0) rfl hC (zdk dk_X12_init 208 rfl) (q := 390) rfl ?_
  refine x_sipush (i := 8448) c_sipush_8448 hC (zdk dk_X12_init 209 rfl) (q := 393) rfl ?_
  refine x_if (fun hs149 => ?_)
  refine x_newa (k := 20) zac_20 (by decide) rfl (N := 8448) (by decide) hs149 (n2 := n + 30) rfl (cs2 := (30, 18097)) rfl (zRk_le hk0 (by decide) (by decide)) hC (zdk dk_X12_init 210 rfl) (q := 395) rfl (fun hn147 => ?_)
  refine x_nmM (fun M148 => ?_)
  refine x_putR (k := 20) fl_RX12_192 (fun _ => ⟨rfl, rfl⟩) rfl hn147 (Or.inr ⟨hIn, rfl⟩) (zO_le h_r0 (by omega)) hC (zdk dk_X12_init 211 rfl) (q := 398) rfl ?_
  refine x_nmM (fun M150 => ?_)
  refine x_aload_n (i := 0) rfl hC (zdk dk_X12_init 212 rfl) (q := 399) rfl ?_
  refine x_bipush (i := 22) c_bipush_22 hC (zdk dk_X12_init 213 rfl) (q := 401) rfl ?_
  refine x_if (fun hs153 => ?_)
  refine x_newa (k := 20) zac_20 (by decide) rfl (N := 22) (by decide) hs153 (n2 := n + 31) rfl (cs2 := (31, 18119)) rfl (zRk_le hk0 (by decide) (by decide)) hC (zdk dk_X12_init 214 rfl) (q := 403) rfl (fun hn151 => ?_)
  refine x_nmM (fun M152 => ?_)
  refine x_putR (k := 20) fl_RX12_195 (fun _ => ⟨rfl, rfl⟩) rfl hn151 (Or.inr ⟨hIn, rfl⟩) (zO_le h_r0 (by omega)) hC (zdk dk_X12_init 215 rfl) (q := 406) rfl ?_
  refine x_nmM (fun M154 => ?_)
  refine x_aload_n (i := 0) rfl hC (zdk dk_X12_init 216 rfl) (q := 407) rfl ?_
  refine x_sipush (i := 2640) c_sipush_2640 hC (zdk dk_X12_init 217 rfl) (q := 410) rfl ?_
  refine x_if (fun hs157 => ?_)
  refine x_newa (k := 20) zac_20 (by decide) rfl (N := 2640) (by decide) hs157 (n2 := n + 32) rfl (cs2 := (32, 20759)) rfl (zRk_le hk0 (by decide) (by decide)) hC (zdk dk_X12_init 218 rfl) (q := 412) rfl (fun hn155 => ?_)
  refine x_nmM (fun M156 => ?_)
  refine x_putR (k := 20) fl_RX12_198 (fun _ => ⟨rfl, rfl⟩) rfl hn155 (Or.inr ⟨hIn, rfl⟩) (zO_le h_r0 (by omega)) hC (zdk dk_X12_init 219 rfl) (q := 415) rfl ?_
  refine x_nmM (fun M158 => ?_)
  refine x_aload_n (i := 0) rfl hC (zdk dk_X12_init 220 rfl) (q := 416) rfl ?_
  refine x_iconst (i := 0) c_iconst_0 hC (zdk dk_X12_init 221 rfl) (q := 417) rfl ?_
  refine x_putI fl_RX12_201 ⟨rfl, rfl⟩ (by decide) (Or.inr ⟨hIn, rfl⟩) (zO_le h_r0 (by omega)) hC (zdk dk_X12_init 222 rfl) (q := 420) rfl ?_
  refine x_nmM (fun M159 => ?_)
  refine x_aload_n (i := 0) rfl hC (zdk dk_X12_init 223 rfl) (q := 421) rfl ?_
  refine x_iconst (i := 0) c_iconst_0 hC (zdk dk_X12_init 224 rfl) (q := 422) rfl ?_
  refine x_putI fl_RX12_204 ⟨rfl, rfl⟩ (by decide) (Or.inr ⟨hIn, rfl⟩) (zO_le h_r0 (by omega)) hC (zdk dk_X12_init 225 rfl) (q := 425) rfl ?_
  refine x_nmM (fun M160 => ?_)
  refine x_aload_n (i := 0) rfl hC (zdk dk_X12_init 226 rfl) (q := 426) rfl ?_
  refine x_lconst (i := 1) c_lconst_1 hC (zdk dk_X12_init 227 rfl) (q := 427) rfl ?_
  refine x_putL fl_RX12_207 ⟨rfl, rfl⟩ (Or.inr ⟨hIn, rfl⟩) (zO_le h_r0 (by omega)) hC (zdk dk_X12_init 228 rfl) (q := 430) rfl ?_
  refine x_nmM (fun M161 => ?_)
  refine x_aload_n (i := 0) rfl hC (zdk dk_X12_init 229 rfl) (q := 431) rfl ?_
  refine x_sipush (i := 500) c_sipush_500 hC (zdk dk_X12_init 230 rfl) (q := 434) rfl ?_
  refine x_if (fun hs164 => ?_)
  refine x_newa (k := 21) zac_21 (by decide) rfl (N := 500) (by decide) hs164 (n2 := n + 33) rfl (cs2 := (33, 21259)) rfl (zRk_le hk0 (by decide) (by decide)) hC (zdk dk_X12_init 231 rfl) (q := 436) rfl (fun hn162 => ?_)
  refine x_nmM (fun M163 => ?_)
  refine x_putR (k := 21) fl_RX12_210 (fun _ => ⟨rfl, rfl⟩) rfl hn162 (Or.inr ⟨hIn, rfl⟩) (zO_le h_r0 (by omega)) hC (zdk dk_X12_init 232 rfl) (q := 439) rfl ?_
  refine x_nmM (fun M165 => ?_)
  refine x_aload_n (i := 0) rfl hC (zdk dk_X12_init 233 rfl) (q := 440) rfl ?_
  refine x_bipush (i := 12) c_bipush_12 hC (zdk dk_X12_init 234 rfl) (q := 442) rfl ?_
  refine x_if (fun hs168 => ?_)
  refine x_newa (k := 20) zac_20 (by decide) rfl (N := 12) (by decide) hs168 (n2 := n + 34) rfl (cs2 := (34, 21271)) rfl (zRk_le hk0 (by decide) (by decide)) hC (zdk dk_X12_init 235 rfl) (q := 444) rfl (fun hn166 => ?_)
  refine x_nmM (fun M167 => ?_)
  refine x_putR (k := 20) fl_RX12_213 (fun _ => ⟨rfl, rfl⟩) rfl hn166 (Or.inr ⟨hIn, rfl⟩) (zO_le h_r0 (by omega)) hC (zdk dk_X12_init 236 rfl) (q := 447) rfl ?_
  refine x_nmM (fun M169 => ?_)
  refine x_aload_n (i := 0) rfl hC (zdk dk_X12_init 237 rfl) (q := 448) rfl ?_
  refine x_iconst (i := 0) c_iconst_0 hC (zdk dk_X12_init 238 rfl) (q := 449) rfl ?_
  refine x_putI fl_RX12_216 ⟨rfl, rfl⟩ (by decide) (Or.inr ⟨hIn, rfl⟩) (zO_le h_r0 (by omega)) hC (zdk dk_X12_init 239 rfl) (q := 452) rfl ?_
  refine x_nmM (fun M170 => ?_)
  refine x_aload_n (i := 0) rfl hC (zdk dk_X12_init 240 rfl) (q := 453) rfl ?_
  refine x_iconst (i := 0) c_iconst_0 hC (zdk dk_X12_init 241 rfl) (q := 454) rfl ?_
  refine x_putI fl_RX12_219 ⟨rfl, rfl⟩ (by decide) (Or.inr ⟨hIn, rfl⟩) (zO_le h_r0 (by omega)) hC (zdk dk_X12_init 242 rfl) (q := 457) rfl ?_
  refine x_nmM (fun M171 => ?_)
  refine x_aload_n (i := 0) rfl hC (zdk dk_X12_init 243 rfl) (q := 458) rfl ?_
  refine x_iconst (i := 0) c_iconst_0 hC (zdk dk_X12_init 244 rfl) (q := 459) rfl ?_
  refine x_putI fl_RX12_222 ⟨rfl, rfl⟩ (by decide) (Or.inr ⟨hIn, rfl⟩) (zO_le h_r0 (by omega)) hC (zdk dk_X12_init 245 rfl) (q := 462) rfl ?_
  refine x_nmM (fun M172 => ?_)
  refine x_aload_n (i := 0) rfl hC (zdk dk_X12_init 246 rfl) (q := 463) rfl ?_
  refine x_bipush (i := 16) c_bipush_16 hC (zdk dk_X12_init 247 rfl) (q := 465) rfl ?_
  refine x_if (fun hs175 => ?_)
  refine x_newa (k := 20) zac_20 (by decide) rfl (N := 16) (by decide) hs175 (n2 := n + 35) rfl (cs2 := (35, 21287)) rfl (zRk_le hk0 (by decide) (by decide)) hC (zdk dk_X12_init 248 rfl) (q := 467) rfl (fun hn173 => ?_)
  refine x_nmM (fun M174 => ?_)
  refine x_putR (k := 20) fl_RX12_225 (fun _ => ⟨rfl, rfl⟩) rfl hn173 (Or.inr ⟨hIn, rfl⟩) (zO_le h_r0 (by omega)) hC (zdk dk_X12_init 249 rfl) (q := 470) rfl ?_
  refine x_nmM (fun M176 => ?_)
  refine x_aload_n (i := 0) rfl hC (zdk dk_X12_init 250 rfl) (q := 471) rfl ?_
  refine x_bipush (i := 16) c_bipush_16 hC (zdk dk_X12_init 251 rfl) (q := 473) rfl ?_
  refine x_if (fun hs179 => ?_)
  refine x_newa (k := 20) zac_20 (by decide) rfl (N := 16) (by decide) hs179 (n2 := n + 36) rfl (cs2 := (36, 21303)) rfl (zRk_le hk0 (by decide) (by decide)) hC (zdk dk_X12_init 252 rfl) (q := 475) rfl (fun hn177 => ?_)
  refine x_nmM (fun M178 => ?_)
  refine x_putR (k := 20) fl_RX12_228 (fun _ => ⟨rfl, rfl⟩) rfl hn177 (Or.inr ⟨hIn, rfl⟩) (zO_le h_r0 (by omega)) hC (zdk dk_X12_init 253 rfl) (q := 478) rfl ?_
  refine x_nmM (fun M180 => ?_)
  refine x_aload_n (i := 0) rfl hC (zdk dk_X12_init 254 rfl) (q := 479) rfl ?_
  refine x_bipush (i := 19) c_bipush_19 hC (zdk dk_X12_init 255 rfl) (q := 481) rfl ?_
  refine x_if (fun hs183 => ?_)
  refine x_newa (k := 20) zac_20 (by decide) rfl (N := 19) (by decide) hs183 (n2 := n + 37) rfl (cs2 := (37, 21322)) rfl (zRk_le hk0 (by decide) (by decide)) hC (zdk dk_X12_init 256 rfl) (q := 483) rfl (fun hn181 => ?_)
  refine x_nmM (fun M182 => ?_)
  refine x_putR (k := 20) fl_RX12_231 (fun _ => ⟨rfl, rfl⟩) rfl hn181 (Or.inr ⟨hIn, rfl⟩) (zO_le h_r0 (by omega)) hC (zdk dk_X12_init 257 rfl) (q := 486) rfl ?_
  refine x_nmM (fun M184 => ?_)
  refine x_aload_n (i := 0) rfl hC (zdk dk_X12_init 258 rfl) (q := 487) rfl ?_
  refine x_bipush (i := 64) c_bipush_64 hC (zdk dk_X12_init 259 rfl) (q := 489) rfl ?_
  refine x_if (fun hs187 => ?_)
  refine x_newa (k := 20) zac_20 (by decide) rfl (N := 64) (by decide) hs187 (n2 := n + 38) rfl (cs2 := (38, 21386)) rfl (zRk_le hk0 (by decide) (by decide)) hC (zdk dk_X12_init 260 rfl) (q := 491) rfl (fun hn185 => ?_)
  refine x_nmM (fun M186 => ?_)
  refine x_putR (k := 20) fl_RX12_234 (fun _ => ⟨rfl, rfl⟩) rfl hn185 (Or.inr ⟨hIn, rfl⟩) (zO_le h_r0 (by omega)) hC (zdk dk_X12_init 261 rfl) (q := 494) rfl ?_
  refine x_nmM (fun M188 => ?_)
  refine x_aload_n (i := 0) rfl hC (zdk dk_X12_init 262 rfl) (q := 495) rfl ?_
  refine x_sipush (i := 500) c_sipush_500 hC (zdk dk_X12_init 263 rfl) (q := 498) rfl ?_
  refine x_if (fun hs191 => ?_)
  refine x_newa (k := 20) zac_20 (by decide) rfl (N := 500) (by decide) hs191 (n2 := n + 39) rfl (cs2 := (39, 21886)) rfl (zRk_le hk0 (by decide) (by decide)) hC (zdk dk_X12_init 264 rfl) (q := 500) rfl (fun hn189 => ?_)
  refine x_nmM (fun M190 => ?_)
  refine x_putR (k := 20) fl_RX12_237 (fun _ => ⟨rfl, rfl⟩) rfl hn189 (Or.inr ⟨hIn, rfl⟩) (zO_le h_r0 (by omega)) hC (zdk dk_X12_init 265 rfl) (q := 503) rfl ?_
  refine x_nmM (fun M192 => ?_)
  refine x_aload_n (i := 0) rfl hC (zdk dk_X12_init 266 rfl) (q := 504) rfl ?_
  refine x_iconst (i := 0) c_iconst_0 hC (zdk dk_X12_init 267 rfl) (q := 505) rfl ?_
  refine x_putI fl_RX12_240 ⟨rfl, rfl⟩ (by decide) (Or.inr ⟨hIn, rfl⟩) (zO_le h_r0 (by omega)) hC (zdk dk_X12_init 268 rfl) (q := 508) rfl ?_
  refine x_nmM (fun M193 => ?_)
  refine x_iconst (i := 0) c_iconst_0 hC (zdk dk_X12_init 269 rfl) (q := 509) rfl ?_
  refine x_istore_n (i := 1) (L' := [.ref r0, .int 0]) (by decide) rfl hC (zdk dk_X12_init 270 rfl) (q := 510) rfl ?_
  refine x_iload_n (i := 1) rfl hC (zdk dk_X12_init 271 rfl) (q := 511) rfl ?_
  refine x_iconst (i := 4) c_iconst_4 hC (zdk dk_X12_init 272 rfl) (q := 512) rfl ?_
  refine x_geF (by decide) hC (zdk dk_X12_init 273 rfl) (q := 515) rfl ?_
  refine x_aload_n (i := 0) rfl hC (zdk dk_X12_init 274 rfl) (q := 516) rfl ?_
  refine x_getR (k := 20) fl_RX12_60 rfl (zO_le h_r0 (by omega)) hC (zdk dk_X12_init 275 rfl) (q := 519) rfl (fun q194 hq194 => ?_)
  refine x_iload_n (i := 1) rfl hC (zdk dk_X12_init 276 rfl) (q := 520) rfl ?_
  refine x_iconst (i := (-1)) c_iconst_m1 hC (zdk dk_X12_init 277 rfl) (q := 521) rfl ?_
  refine x_iast hq194 hC (zdk dk_X12_init 278 rfl) (q := 522) rfl (fun k195 _ => ?_)
  refine x_nmM (fun M196 => ?_)
  refine x_iinc (i := 1) c_iconst_1 rfl (by decide) (L' := [.ref r0, .int 1]) (by rw [show (0 : Int32) + 1 = 1 from by decide]; rfl) hC (zdk dk_X12_init 279 rfl) (q := 525) rfl ?_
  refine x_goto (tgt := 510) hC (zdk dk_X12_init 280 rfl) rfl ?_
  refine x_iload_n (i := 1) rfl hC (zdk dk_X12_init 271 rfl) (q := 511) rfl ?_
  refine x_iconst (i := 4) c_iconst_4 hC (zdk dk_X12_init 272 rfl) (q := 512) rfl ?_
  refine x_geF (by decide) hC (zdk dk_X12_init 273 rfl) (q := 515) rfl ?_
  refine x_aload_n (i := 0) rfl hC (zdk dk_X12_init 274 rfl) (q := 516) rfl ?_
  refine x_getR (k := 20) fl_RX12_60 rfl (zO_le h_r0 (by omega)) hC (zdk dk_X12_init 275 rfl) (q := 519) rfl (fun q197 hq197 => ?_)
  refine x_iload_n (i := 1) rfl hC (zdk dk_X12_init 276 rfl) (q := 520) rfl ?_
  refine x_iconst (i := (-1)) c_iconst_m1 hC (zdk dk_X12_init 277 rfl) (q := 521) rfl ?_
  refine x_iast hq197 hC (zdk dk_X12_init 278 rfl) (q := 522) rfl (fun k198 _ => ?_)
  refine x_nmM (fun M199 => ?_)
  refine x_iinc (i := 1) c_iconst_1 rfl (by decide) (L' := [.ref r0, .int 2]) (by rw [show (1 : Int32) + 1 = 2 from by decide]; rfl) hC (zdk dk_X12_init 279 rfl) (q := 525) rfl ?_
  refine x_goto (tgt := 510) hC (zdk dk_X12_init 280 rfl) rfl ?_
  refine x_iload_n (i := 1) rfl hC (zdk dk_X12_init 271 rfl) (q := 511) rfl ?_
  refine x_iconst (i := 4) c_iconst_4 hC (zdk dk_X12_init 272 rfl) (q := 512) rfl ?_
  refine x_geF (by decide) hC (zdk dk_X12_init 273 rfl) (q := 515) rfl ?_
  refine x_aload_n (i := 0) rfl hC (zdk dk_X12_init 274 rfl) (q := 516) rfl ?_
  refine x_getR (k := 20) fl_RX12_60 rfl (zO_le h_r0 (by omega)) hC (zdk dk_X12_init 275 rfl) (q := 519) rfl (fun q200 hq200 => ?_)
  refine x_iload_n (i := 1) rfl hC (zdk dk_X12_init 276 rfl) (q := 520) rfl ?_
  refine x_iconst (i := (-1)) c_iconst_m1 hC (zdk dk_X12_init 277 rfl) (q := 521) rfl ?_
  refine x_iast hq200 hC (zdk dk_X12_init 278 rfl) (q := 522) rfl (fun k201 _ => ?_)
  refine x_nmM (fun M202 => ?_)
  refine x_iinc (i := 1) c_iconst_1 rfl (by decide) (L' := [.ref r0, .int 3]) (by rw [show (2 : Int32) + 1 = 3 from by decide]; rfl) hC (zdk dk_X12_init 279 rfl) (q := 525) rfl ?_
  refine x_goto (tgt := 510) hC (zdk dk_X12_init 280 rfl) rfl ?_
  refine x_iload_n (i := 1) rfl hC (zdk dk_X12_init 271 rfl) (q := 511) rfl ?_
  refine x_iconst (i := 4) c_iconst_4 hC (zdk dk_X12_init 272 rfl) (q := 512) rfl ?_
  refine x_geF (by decide) hC (zdk dk_X12_init 273 rfl) (q := 515) rfl ?_
  refine x_aload_n (i := 0) rfl hC (zdk dk_X12_init 274 rfl) (q := 516) rfl ?_
  refine x_getR (k := 20) fl_RX12_60 rfl (zO_le h_r0 (by omega)) hC (zdk dk_X12_init 275 rfl) (q := 519) rfl (fun q203 hq203 => ?_)
  refine x_iload_n (i := 1) rfl hC (zdk dk_X12_init 276 rfl) (q := 520) rfl ?_
  refine x_iconst (i := (-1)) c_iconst_m1 hC (zdk dk_X12_init 277 rfl) (q := 521) rfl ?_
  refine x_iast hq203 hC (zdk dk_X12_init 278 rfl) (q := 522) rfl (fun k204 _ => ?_)
  refine x_nmM (fun M205 => ?_)
  refine x_iinc (i := 1) c_iconst_1 rfl (by decide) (L' := [.ref r0, .int 4]) (by rw [show (3 : Int32) + 1 = 4 from by decide]; rfl) hC (zdk dk_X12_init 279 rfl) (q := 525) rfl ?_
  refine x_goto (tgt := 510) hC (zdk dk_X12_init 280 rfl) rfl ?_
  refine x_iload_n (i := 1) rfl hC (zdk dk_X12_init 271 rfl) (q := 511) rfl ?_
  refine x_iconst (i := 4) c_iconst_4 hC (zdk dk_X12_init 272 rfl) (q := 512) rfl ?_
  refine x_geT (tgt := 528) (by decide) hC (zdk dk_X12_init 273 rfl) rfl ?_
  exact x_vret hE hC (zdk dk_X12_init 281 rfl)
set_option maxRecDepth 100000 in
set_option maxHeartbeats 8000000 in
theorem t_X12_init {n : Nat} {r0 : Nat} {M : Mem} (h_r0 : zO n r0 12) (x : Mem) (hx : f_X12_init n r0 M = some x) (l : Launch) (dC : Nat → ClassId) (dI : Nat → Nat → Nat) (b : zSg) : MTc l dC dI b yX12_init cX12_init 2 1 39 21886 n (n + 39) [.ref r0] M x :=
  MTc.ofX (by decide +kernel) rfl (Nat.le_of_ble_eq_true rfl) (fun κ hC hF hN hAO => x_X12_init hC (zEnd_of hF (Nat.le_refl _) (Nat.le_refl _)) (zRk_of hF (Nat.le_refl _) (Nat.le_refl _)) (zInit_of hN rfl) hAO _ _ h_r0) x hx
