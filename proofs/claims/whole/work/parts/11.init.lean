theorem kM_RX0_obj : Cond.methodLink RX0 3 objectInit ∈ TB := tb_of 90 (by decide +kernel) rfl
theorem kM_RX2_obj : Cond.methodLink RX2 3 objectInit ∈ TB := tb_of 133 (by decide +kernel) rfl
theorem kM_RX4_obj : Cond.methodLink RX4 1 objectInit ∈ TB := tb_of 82 (by decide +kernel) rfl
theorem kM_RX5_obj : Cond.methodLink RX5 1 objectInit ∈ TB := tb_of 713 (by decide +kernel) rfl
theorem kI_obj : Cond.instanceMethod objectInit ∈ TB := tb_of 83 (by decide +kernel) rfl
theorem kC_obj : Cond.code objectInit ⟨#[0xb1]⟩ 1 none ∈ TB := tb_of 84 (by decide +kernel) rfl
theorem kA_int : Cond.arrayClass .int ∈ TB := tb_of 126 (by decide +kernel) rfl
theorem kL_RX4_7 : Cond.classLink RX4 7 RX0 ∈ TB := tb_of 85 (by decide +kernel) rfl
theorem kL_RX4_26 : Cond.classLink RX4 26 RX2 ∈ TB := tb_of 128 (by decide +kernel) rfl
theorem kV_RX0 : Cond.instantiable RX0 9 ∈ TB := tb_of 86 (by decide +kernel) rfl
theorem kV_RX2 : Cond.instantiable RX2 2 ∈ TB := tb_of 129 (by decide +kernel) rfl
theorem kV_RX4 : Cond.instantiable RX4 12 ∈ TB := tb_of 78 (by decide +kernel) rfl
theorem kV_RX5 : Cond.instantiable RX5 40 ∈ TB := tb_of 709 (by decide +kernel) rfl
theorem kI_X0_init : Cond.instanceMethod yX0_init ∈ TB := tb_of 88 (by decide +kernel) rfl
theorem kI_X2_init : Cond.instanceMethod yX2_init ∈ TB := tb_of 131 (by decide +kernel) rfl
theorem kC_X0_init : Cond.code yX0_init cX0_init 1 none ∈ TB := tb_of 89 (by decide +kernel) rfl
theorem kC_X2_init : Cond.code yX2_init cX2_init 1 none ∈ TB := tb_of 132 (by decide +kernel) rfl
theorem kC_X4_init : Cond.code yX4_init cX4_init 2 none ∈ TB := tb_of 81 (by decide +kernel) rfl
theorem kC_X5_init : Cond.code yX5_init cX5_init 1 none ∈ TB := tb_of 712 (by decide +kernel) rfl
theorem dX0_init_0 : decode cX0_init 0 = .ok (.aload_n 0, 1) := by decide +kernel
theorem dX0_init_1 : decode cX0_init 1 = .ok (.invokespecial 3, 3) := by decide +kernel
theorem dX0_init_4 : decode cX0_init 4 = .ok (.aload_n 0, 1) := by decide +kernel
theorem dX0_init_5 : decode cX0_init 5 = .ok (.bipush 10, 2) := by decide +kernel
theorem dX0_init_7 : decode cX0_init 7 = .ok (.newarray .int, 2) := by decide +kernel
theorem dX0_init_9 : decode cX0_init 9 = .ok (.putfield 11, 3) := by decide +kernel
theorem dX0_init_12 : decode cX0_init 12 = .ok (.aload_n 0, 1) := by decide +kernel
theorem dX0_init_13 : decode cX0_init 13 = .ok (.bipush 10, 2) := by decide +kernel
theorem dX0_init_15 : decode cX0_init 15 = .ok (.newarray .int, 2) := by decide +kernel
theorem dX0_init_17 : decode cX0_init 17 = .ok (.putfield 15, 3) := by decide +kernel
theorem dX0_init_20 : decode cX0_init 20 = .ok (.aload_n 0, 1) := by decide +kernel
theorem dX0_init_21 : decode cX0_init 21 = .ok (.bipush 10, 2) := by decide +kernel
theorem dX0_init_23 : decode cX0_init 23 = .ok (.newarray .int, 2) := by decide +kernel
theorem dX0_init_25 : decode cX0_init 25 = .ok (.putfield 18, 3) := by decide +kernel
theorem dX0_init_28 : decode cX0_init 28 = .ok (.aload_n 0, 1) := by decide +kernel
theorem dX0_init_29 : decode cX0_init 29 = .ok (.bipush 10, 2) := by decide +kernel
theorem dX0_init_31 : decode cX0_init 31 = .ok (.newarray .int, 2) := by decide +kernel
theorem dX0_init_33 : decode cX0_init 33 = .ok (.putfield 21, 3) := by decide +kernel
theorem dX0_init_36 : decode cX0_init 36 = .ok (.return_, 1) := by decide +kernel
theorem dX2_init_0 : decode cX2_init 0 = .ok (.aload_n 0, 1) := by decide +kernel
theorem dX2_init_1 : decode cX2_init 1 = .ok (.invokespecial 3, 3) := by decide +kernel
theorem dX2_init_4 : decode cX2_init 4 = .ok (.aload_n 0, 1) := by decide +kernel
theorem dX2_init_5 : decode cX2_init 5 = .ok (.bipush 96, 2) := by decide +kernel
theorem dX2_init_7 : decode cX2_init 7 = .ok (.newarray .int, 2) := by decide +kernel
theorem dX2_init_9 : decode cX2_init 9 = .ok (.putfield 9, 3) := by decide +kernel
theorem dX2_init_12 : decode cX2_init 12 = .ok (.return_, 1) := by decide +kernel
theorem dX4_init_0 : decode cX4_init 0 = .ok (.aload_n 0, 1) := by decide +kernel
theorem dX4_init_1 : decode cX4_init 1 = .ok (.invokespecial 1, 3) := by decide +kernel
theorem dX4_init_4 : decode cX4_init 4 = .ok (.aload_n 0, 1) := by decide +kernel
theorem dX4_init_5 : decode cX4_init 5 = .ok (.new 7, 3) := by decide +kernel
theorem dX4_init_8 : decode cX4_init 8 = .ok (.dup, 1) := by decide +kernel
theorem dX4_init_9 : decode cX4_init 9 = .ok (.invokespecial 9, 3) := by decide +kernel
theorem dX4_init_12 : decode cX4_init 12 = .ok (.putfield 10, 3) := by decide +kernel
theorem dX4_init_15 : decode cX4_init 15 = .ok (.aload_n 0, 1) := by decide +kernel
theorem dX4_init_16 : decode cX4_init 16 = .ok (.new 7, 3) := by decide +kernel
theorem dX4_init_19 : decode cX4_init 19 = .ok (.dup, 1) := by decide +kernel
theorem dX4_init_20 : decode cX4_init 20 = .ok (.invokespecial 9, 3) := by decide +kernel
theorem dX4_init_23 : decode cX4_init 23 = .ok (.putfield 16, 3) := by decide +kernel
theorem dX4_init_26 : decode cX4_init 26 = .ok (.aload_n 0, 1) := by decide +kernel
theorem dX4_init_27 : decode cX4_init 27 = .ok (.new 7, 3) := by decide +kernel
theorem dX4_init_30 : decode cX4_init 30 = .ok (.dup, 1) := by decide +kernel
theorem dX4_init_31 : decode cX4_init 31 = .ok (.invokespecial 9, 3) := by decide +kernel
theorem dX4_init_34 : decode cX4_init 34 = .ok (.putfield 19, 3) := by decide +kernel
theorem dX4_init_37 : decode cX4_init 37 = .ok (.aload_n 0, 1) := by decide +kernel
theorem dX4_init_38 : decode cX4_init 38 = .ok (.bipush 8, 2) := by decide +kernel
theorem dX4_init_40 : decode cX4_init 40 = .ok (.anewarray 7, 3) := by decide +kernel
theorem dX4_init_43 : decode cX4_init 43 = .ok (.putfield 22, 3) := by decide +kernel
theorem dX4_init_46 : decode cX4_init 46 = .ok (.aload_n 0, 1) := by decide +kernel
theorem dX4_init_47 : decode cX4_init 47 = .ok (.new 26, 3) := by decide +kernel
theorem dX4_init_50 : decode cX4_init 50 = .ok (.dup, 1) := by decide +kernel
theorem dX4_init_51 : decode cX4_init 51 = .ok (.invokespecial 28, 3) := by decide +kernel
theorem dX4_init_54 : decode cX4_init 54 = .ok (.putfield 29, 3) := by decide +kernel
theorem dX4_init_57 : decode cX4_init 57 = .ok (.aload_n 0, 1) := by decide +kernel
theorem dX4_init_58 : decode cX4_init 58 = .ok (.bipush 12, 2) := by decide +kernel
theorem dX4_init_60 : decode cX4_init 60 = .ok (.newarray .int, 2) := by decide +kernel
theorem dX4_init_62 : decode cX4_init 62 = .ok (.putfield 33, 3) := by decide +kernel
theorem dX4_init_65 : decode cX4_init 65 = .ok (.aload_n 0, 1) := by decide +kernel
theorem dX4_init_66 : decode cX4_init 66 = .ok (.bipush 7, 2) := by decide +kernel
theorem dX4_init_68 : decode cX4_init 68 = .ok (.newarray .int, 2) := by decide +kernel
theorem dX4_init_70 : decode cX4_init 70 = .ok (.putfield 37, 3) := by decide +kernel
theorem dX4_init_73 : decode cX4_init 73 = .ok (.aload_n 0, 1) := by decide +kernel
theorem dX4_init_74 : decode cX4_init 74 = .ok (.sipush 2048, 3) := by decide +kernel
theorem dX4_init_77 : decode cX4_init 77 = .ok (.newarray .int, 2) := by decide +kernel
theorem dX4_init_79 : decode cX4_init 79 = .ok (.putfield 40, 3) := by decide +kernel
theorem dX4_init_82 : decode cX4_init 82 = .ok (.iconst 0, 1) := by decide +kernel
theorem dX4_init_83 : decode cX4_init 83 = .ok (.istore_n 1, 1) := by decide +kernel
theorem dX4_init_84 : decode cX4_init 84 = .ok (.iload_n 1, 1) := by decide +kernel
theorem dX4_init_85 : decode cX4_init 85 = .ok (.bipush 8, 2) := by decide +kernel
theorem dX4_init_87 : decode cX4_init 87 = .ok (.if_icmp .ge 22, 3) := by decide +kernel
theorem dX4_init_90 : decode cX4_init 90 = .ok (.aload_n 0, 1) := by decide +kernel
theorem dX4_init_91 : decode cX4_init 91 = .ok (.getfield 22, 3) := by decide +kernel
theorem dX4_init_94 : decode cX4_init 94 = .ok (.iload_n 1, 1) := by decide +kernel
theorem dX4_init_95 : decode cX4_init 95 = .ok (.new 7, 3) := by decide +kernel
theorem dX4_init_98 : decode cX4_init 98 = .ok (.dup, 1) := by decide +kernel
theorem dX4_init_99 : decode cX4_init 99 = .ok (.invokespecial 9, 3) := by decide +kernel
theorem dX4_init_102 : decode cX4_init 102 = .ok (.aastore, 1) := by decide +kernel
theorem dX4_init_103 : decode cX4_init 103 = .ok (.iinc 1 1, 3) := by decide +kernel
theorem dX4_init_106 : decode cX4_init 106 = .ok (.goto (-22), 3) := by decide +kernel
theorem dX4_init_109 : decode cX4_init 109 = .ok (.return_, 1) := by decide +kernel
theorem dX5_init_0 : decode cX5_init 0 = .ok (.aload_n 0, 1) := by decide +kernel
theorem dX5_init_1 : decode cX5_init 1 = .ok (.invokespecial 1, 3) := by decide +kernel
theorem dX5_init_4 : decode cX5_init 4 = .ok (.aload_n 0, 1) := by decide +kernel
theorem dX5_init_5 : decode cX5_init 5 = .ok (.bipush 10, 2) := by decide +kernel
theorem dX5_init_7 : decode cX5_init 7 = .ok (.newarray .int, 2) := by decide +kernel
theorem dX5_init_9 : decode cX5_init 9 = .ok (.putfield 7, 3) := by decide +kernel
theorem dX5_init_12 : decode cX5_init 12 = .ok (.aload_n 0, 1) := by decide +kernel
theorem dX5_init_13 : decode cX5_init 13 = .ok (.bipush 10, 2) := by decide +kernel
theorem dX5_init_15 : decode cX5_init 15 = .ok (.newarray .int, 2) := by decide +kernel
theorem dX5_init_17 : decode cX5_init 17 = .ok (.putfield 13, 3) := by decide +kernel
theorem dX5_init_20 : decode cX5_init 20 = .ok (.aload_n 0, 1) := by decide +kernel
theorem dX5_init_21 : decode cX5_init 21 = .ok (.bipush 10, 2) := by decide +kernel
theorem dX5_init_23 : decode cX5_init 23 = .ok (.newarray .int, 2) := by decide +kernel
theorem dX5_init_25 : decode cX5_init 25 = .ok (.putfield 16, 3) := by decide +kernel
theorem dX5_init_28 : decode cX5_init 28 = .ok (.aload_n 0, 1) := by decide +kernel
theorem dX5_init_29 : decode cX5_init 29 = .ok (.bipush 10, 2) := by decide +kernel
theorem dX5_init_31 : decode cX5_init 31 = .ok (.newarray .int, 2) := by decide +kernel
theorem dX5_init_33 : decode cX5_init 33 = .ok (.putfield 19, 3) := by decide +kernel
theorem dX5_init_36 : decode cX5_init 36 = .ok (.aload_n 0, 1) := by decide +kernel
theorem dX5_init_37 : decode cX5_init 37 = .ok (.bipush 10, 2) := by decide +kernel
theorem dX5_init_39 : decode cX5_init 39 = .ok (.newarray .int, 2) := by decide +kernel
theorem dX5_init_41 : decode cX5_init 41 = .ok (.putfield 22, 3) := by decide +kernel
theorem dX5_init_44 : decode cX5_init 44 = .ok (.aload_n 0, 1) := by decide +kernel
theorem dX5_init_45 : decode cX5_init 45 = .ok (.bipush 7, 2) := by decide +kernel
theorem dX5_init_47 : decode cX5_init 47 = .ok (.newarray .int, 2) := by decide +kernel
theorem dX5_init_49 : decode cX5_init 49 = .ok (.putfield 25, 3) := by decide +kernel
theorem dX5_init_52 : decode cX5_init 52 = .ok (.aload_n 0, 1) := by decide +kernel
theorem dX5_init_53 : decode cX5_init 53 = .ok (.bipush 25, 2) := by decide +kernel
theorem dX5_init_55 : decode cX5_init 55 = .ok (.newarray .int, 2) := by decide +kernel
theorem dX5_init_57 : decode cX5_init 57 = .ok (.putfield 28, 3) := by decide +kernel
theorem dX5_init_60 : decode cX5_init 60 = .ok (.aload_n 0, 1) := by decide +kernel
theorem dX5_init_61 : decode cX5_init 61 = .ok (.bipush 25, 2) := by decide +kernel
theorem dX5_init_63 : decode cX5_init 63 = .ok (.newarray .int, 2) := by decide +kernel
theorem dX5_init_65 : decode cX5_init 65 = .ok (.putfield 31, 3) := by decide +kernel
theorem dX5_init_68 : decode cX5_init 68 = .ok (.aload_n 0, 1) := by decide +kernel
theorem dX5_init_69 : decode cX5_init 69 = .ok (.bipush 96, 2) := by decide +kernel
theorem dX5_init_71 : decode cX5_init 71 = .ok (.newarray .int, 2) := by decide +kernel
theorem dX5_init_73 : decode cX5_init 73 = .ok (.putfield 34, 3) := by decide +kernel
theorem dX5_init_76 : decode cX5_init 76 = .ok (.aload_n 0, 1) := by decide +kernel
theorem dX5_init_77 : decode cX5_init 77 = .ok (.bipush 49, 2) := by decide +kernel
theorem dX5_init_79 : decode cX5_init 79 = .ok (.newarray .int, 2) := by decide +kernel
theorem dX5_init_81 : decode cX5_init 81 = .ok (.putfield 37, 3) := by decide +kernel
theorem dX5_init_84 : decode cX5_init 84 = .ok (.aload_n 0, 1) := by decide +kernel
theorem dX5_init_85 : decode cX5_init 85 = .ok (.bipush 49, 2) := by decide +kernel
theorem dX5_init_87 : decode cX5_init 87 = .ok (.newarray .int, 2) := by decide +kernel
theorem dX5_init_89 : decode cX5_init 89 = .ok (.putfield 40, 3) := by decide +kernel
theorem dX5_init_92 : decode cX5_init 92 = .ok (.aload_n 0, 1) := by decide +kernel
theorem dX5_init_93 : decode cX5_init 93 = .ok (.sipush 147, 3) := by decide +kernel
theorem dX5_init_96 : decode cX5_init 96 = .ok (.newarray .int, 2) := by decide +kernel
theorem dX5_init_98 : decode cX5_init 98 = .ok (.putfield 43, 3) := by decide +kernel
theorem dX5_init_101 : decode cX5_init 101 = .ok (.aload_n 0, 1) := by decide +kernel
theorem dX5_init_102 : decode cX5_init 102 = .ok (.bipush 44, 2) := by decide +kernel
theorem dX5_init_104 : decode cX5_init 104 = .ok (.newarray .int, 2) := by decide +kernel
theorem dX5_init_106 : decode cX5_init 106 = .ok (.putfield 46, 3) := by decide +kernel
theorem dX5_init_109 : decode cX5_init 109 = .ok (.aload_n 0, 1) := by decide +kernel
theorem dX5_init_110 : decode cX5_init 110 = .ok (.bipush 44, 2) := by decide +kernel
theorem dX5_init_112 : decode cX5_init 112 = .ok (.newarray .int, 2) := by decide +kernel
theorem dX5_init_114 : decode cX5_init 114 = .ok (.putfield 49, 3) := by decide +kernel
theorem dX5_init_117 : decode cX5_init 117 = .ok (.aload_n 0, 1) := by decide +kernel
theorem dX5_init_118 : decode cX5_init 118 = .ok (.sipush 352, 3) := by decide +kernel
theorem dX5_init_121 : decode cX5_init 121 = .ok (.newarray .int, 2) := by decide +kernel
theorem dX5_init_123 : decode cX5_init 123 = .ok (.putfield 52, 3) := by decide +kernel
theorem dX5_init_126 : decode cX5_init 126 = .ok (.aload_n 0, 1) := by decide +kernel
theorem dX5_init_127 : decode cX5_init 127 = .ok (.bipush 44, 2) := by decide +kernel
theorem dX5_init_129 : decode cX5_init 129 = .ok (.newarray .int, 2) := by decide +kernel
theorem dX5_init_131 : decode cX5_init 131 = .ok (.putfield 55, 3) := by decide +kernel
theorem dX5_init_134 : decode cX5_init 134 = .ok (.aload_n 0, 1) := by decide +kernel
theorem dX5_init_135 : decode cX5_init 135 = .ok (.bipush 25, 2) := by decide +kernel
theorem dX5_init_137 : decode cX5_init 137 = .ok (.newarray .int, 2) := by decide +kernel
theorem dX5_init_139 : decode cX5_init 139 = .ok (.putfield 58, 3) := by decide +kernel
theorem dX5_init_142 : decode cX5_init 142 = .ok (.aload_n 0, 1) := by decide +kernel
theorem dX5_init_143 : decode cX5_init 143 = .ok (.sipush 2304, 3) := by decide +kernel
theorem dX5_init_146 : decode cX5_init 146 = .ok (.newarray .int, 2) := by decide +kernel
theorem dX5_init_148 : decode cX5_init 148 = .ok (.putfield 61, 3) := by decide +kernel
theorem dX5_init_151 : decode cX5_init 151 = .ok (.aload_n 0, 1) := by decide +kernel
theorem dX5_init_152 : decode cX5_init 152 = .ok (.bipush 12, 2) := by decide +kernel
theorem dX5_init_154 : decode cX5_init 154 = .ok (.newarray .int, 2) := by decide +kernel
theorem dX5_init_156 : decode cX5_init 156 = .ok (.putfield 64, 3) := by decide +kernel
theorem dX5_init_159 : decode cX5_init 159 = .ok (.aload_n 0, 1) := by decide +kernel
theorem dX5_init_160 : decode cX5_init 160 = .ok (.iconst 4, 1) := by decide +kernel
theorem dX5_init_161 : decode cX5_init 161 = .ok (.newarray .int, 2) := by decide +kernel
theorem dX5_init_163 : decode cX5_init 163 = .ok (.putfield 67, 3) := by decide +kernel
theorem dX5_init_166 : decode cX5_init 166 = .ok (.aload_n 0, 1) := by decide +kernel
theorem dX5_init_167 : decode cX5_init 167 = .ok (.iconst 4, 1) := by decide +kernel
theorem dX5_init_168 : decode cX5_init 168 = .ok (.newarray .int, 2) := by decide +kernel
theorem dX5_init_170 : decode cX5_init 170 = .ok (.putfield 70, 3) := by decide +kernel
theorem dX5_init_173 : decode cX5_init 173 = .ok (.aload_n 0, 1) := by decide +kernel
theorem dX5_init_174 : decode cX5_init 174 = .ok (.iconst 0, 1) := by decide +kernel
theorem dX5_init_175 : decode cX5_init 175 = .ok (.putfield 73, 3) := by decide +kernel
theorem dX5_init_178 : decode cX5_init 178 = .ok (.return_, 1) := by decide +kernel
def df0 : List Value := [.null, .null, .null, .null, .int 0, .int 0, .int 0, .int 0, .int 0]
theorem df0_ok : ∀ j, j < 9 → defaultValue (tyX0 j) = vp_V df0 j := by
  intro j hj
  rcases (show j = 0 ∨ j = 1 ∨ j = 2 ∨ j = 3 ∨ j = 4 ∨ j = 5 ∨ j = 6 ∨ j = 7 ∨ j = 8 by omega) with rfl | rfl | rfl | rfl | rfl | rfl | rfl | rfl | rfl <;> rfl
def df1 : List Value := [.null, .int 0]
theorem df1_ok : ∀ j, j < 2 → defaultValue (tyX2 j) = vp_V df1 j := by
  intro j hj
  rcases (show j = 0 ∨ j = 1 by omega) with rfl | rfl <;> rfl
def df2 : List Value := [.null, .null, .null, .null, .null, .null, .null, .null, .int 0, .int 0, .int 0, .int 0]
theorem df2_ok : ∀ j, j < 12 → defaultValue (tyX4 j) = vp_V df2 j := by
  intro j hj
  rcases (show j = 0 ∨ j = 1 ∨ j = 2 ∨ j = 3 ∨ j = 4 ∨ j = 5 ∨ j = 6 ∨ j = 7 ∨ j = 8 ∨ j = 9 ∨ j = 10 ∨ j = 11 by omega) with rfl | rfl | rfl | rfl | rfl | rfl | rfl | rfl | rfl | rfl | rfl | rfl <;> rfl
def df3 : List Value := [.int 0, .null, .null, .null, .null, .null, .int 0, .int 0, .int 0, .int 0, .null, .null, .int 0, .null, .int 0, .int 0, .null, .int 0, .int 0, .int 0, .int 0, .null, .null, .null, .null, .null, .int 0, .int 0, .int 0, .null, .null, .null, .int 0, .null, .null, .null, .int 0, .null, .null, .int 0]
theorem df3_ok : ∀ j, j < 40 → defaultValue (tyX5 j) = vp_V df3 j := by
  intro j hj
  rcases (show j = 0 ∨ j = 1 ∨ j = 2 ∨ j = 3 ∨ j = 4 ∨ j = 5 ∨ j = 6 ∨ j = 7 ∨ j = 8 ∨ j = 9 ∨ j = 10 ∨ j = 11 ∨ j = 12 ∨ j = 13 ∨ j = 14 ∨ j = 15 ∨ j = 16 ∨ j = 17 ∨ j = 18 ∨ j = 19 ∨ j = 20 ∨ j = 21 ∨ j = 22 ∨ j = 23 ∨ j = 24 ∨ j = 25 ∨ j = 26 ∨ j = 27 ∨ j = 28 ∨ j = 29 ∨ j = 30 ∨ j = 31 ∨ j = 32 ∨ j = 33 ∨ j = 34 ∨ j = 35 ∨ j = 36 ∨ j = 37 ∨ j = 38 ∨ j = 39 by omega) with rfl | rfl | rfl | rfl | rfl | rfl | rfl | rfl | rfl | rfl | rfl | rfl | rfl | rfl | rfl | rfl | rfl | rfl | rfl | rfl | rfl | rfl | rfl | rfl | rfl | rfl | rfl | rfl | rfl | rfl | rfl | rfl | rfl | rfl | rfl | rfl | rfl | rfl | rfl | rfl <;> rfl
def zA (G : GG) (n : Nat) : va_E := .inl (gI G, n, .inl (fun _ => 0))
theorem kG_RX0_11 : Cond.fieldLink RX0 11 RX0 (TX0 0).2.1 (TX0 0).2.2.1 ∈ TB := tb_of 91 (by decide +kernel) rfl
theorem kG_RX0_15 : Cond.fieldLink RX0 15 RX0 (TX0 1).2.1 (TX0 1).2.2.1 ∈ TB := tb_of 92 (by decide +kernel) rfl
theorem kG_RX0_18 : Cond.fieldLink RX0 18 RX0 (TX0 2).2.1 (TX0 2).2.2.1 ∈ TB := tb_of 93 (by decide +kernel) rfl
theorem kG_RX0_21 : Cond.fieldLink RX0 21 RX0 (TX0 3).2.1 (TX0 3).2.2.1 ∈ TB := tb_of 94 (by decide +kernel) rfl
def p0_init (G : GG) (h0 : Nat) (X w : va_W) : Prop := ∃ q1 q2 q3 q4 : Nat, w = (h0, .inr (0, [.ref q1, .ref q2, .ref q3, .ref q4, .int 0, .int 0, .int 0, .int 0, .int 0])) :: (X ++ [(q1, zA G 10), (q2, zA G 10), (q3, zA G 10), (q4, zA G 10)])
set_option maxHeartbeats 4000000 in
set_option maxRecDepth 100000 in
theorem s0_init {G : GG} {h0 : Nat} {X : va_W} : CB G yX0_init (WY yX0_init cX0_init 1 none) 1 12 4 40 [.ref h0] ((h0, .inr (0, df0)) :: X) (p0_init G h0 X) := by
  refine CB.of (cc := cX0_init) (nL := 1) (own := RX0) (by decide +kernel) rfl rfl rfl (Nat.le_of_ble_eq_true rfl) ?_
  show BW G EI (CZ G (p0_init G h0 X) 4 40) (WY yX0_init cX0_init 1 none) RX0 cX0_init 1 none ({ frames := 1, cells := 4, slots := 40, locals := 12 } : Room) 0 0 0 [(0, .ref h0)] [] ((h0, .inr (0, df0)) :: X)
  refine b_aload_n dX0_init_0 0 rfl ?_
  refine b_obj dX0_init_1 (tbc _ kM_RX0_obj) (tbc _ kI_obj) (tbc _ kC_obj) (Nat.le_of_ble_eq_true rfl) (Nat.le_of_ble_eq_true rfl) ?_
  refine b_aload_n dX0_init_4 0 rfl ?_
  refine b_bipush (v := 10) dX0_init_5 (by decide) ?_
  refine b_newa (N := 10) dX0_init_7 (tbc _ kA_int) (by decide) (by decide) (by decide) (Nat.le_of_ble_eq_true rfl) (Nat.le_of_ble_eq_true rfl) (fun q1 => ?_)
  refine b_putF0 dX0_init_9 0 0 (by decide) (tbc _ kG_RX0_11) (fun w h => tbc _ (uW0 w h)) rfl rfl rfl rfl rfl rfl (Nat.le_of_ble_eq_true rfl) (fun _ _ _ h => h) ?_
  refine b_ws ((h0, .inr (0, [.ref q1, .null, .null, .null, .int 0, .int 0, .int 0, .int 0, .int 0])) :: _) rfl ?_
  refine b_aload_n dX0_init_12 0 rfl ?_
  refine b_bipush (v := 10) dX0_init_13 (by decide) ?_
  refine b_newa (N := 10) dX0_init_15 (tbc _ kA_int) (by decide) (by decide) (by decide) (Nat.le_of_ble_eq_true rfl) (Nat.le_of_ble_eq_true rfl) (fun q2 => ?_)
  refine b_putF0 dX0_init_17 0 1 (by decide) (tbc _ kG_RX0_15) (fun w h => tbc _ (uW0 w h)) rfl rfl rfl rfl rfl rfl (Nat.le_of_ble_eq_true rfl) (fun _ _ _ h => h) ?_
  refine b_ws ((h0, .inr (0, [.ref q1, .ref q2, .null, .null, .int 0, .int 0, .int 0, .int 0, .int 0])) :: _) rfl ?_
  refine b_aload_n dX0_init_20 0 rfl ?_
  refine b_bipush (v := 10) dX0_init_21 (by decide) ?_
  refine b_newa (N := 10) dX0_init_23 (tbc _ kA_int) (by decide) (by decide) (by decide) (Nat.le_of_ble_eq_true rfl) (Nat.le_of_ble_eq_true rfl) (fun q3 => ?_)
  refine b_putF0 dX0_init_25 0 2 (by decide) (tbc _ kG_RX0_18) (fun w h => tbc _ (uW0 w h)) rfl rfl rfl rfl rfl rfl (Nat.le_of_ble_eq_true rfl) (fun _ _ _ h => h) ?_
  refine b_ws ((h0, .inr (0, [.ref q1, .ref q2, .ref q3, .null, .int 0, .int 0, .int 0, .int 0, .int 0])) :: _) rfl ?_
  refine b_aload_n dX0_init_28 0 rfl ?_
  refine b_bipush (v := 10) dX0_init_29 (by decide) ?_
  refine b_newa (N := 10) dX0_init_31 (tbc _ kA_int) (by decide) (by decide) (by decide) (Nat.le_of_ble_eq_true rfl) (Nat.le_of_ble_eq_true rfl) (fun q4 => ?_)
  refine b_putF0 dX0_init_33 0 3 (by decide) (tbc _ kG_RX0_21) (fun w h => tbc _ (uW0 w h)) rfl rfl rfl rfl rfl rfl (Nat.le_of_ble_eq_true rfl) (fun _ _ _ h => h) ?_
  refine b_ws ((h0, .inr (0, [.ref q1, .ref q2, .ref q3, .ref q4, .int 0, .int 0, .int 0, .int 0, .int 0])) :: _) rfl ?_
  refine b_vret dX0_init_36 (Nat.le_of_ble_eq_true rfl) (Nat.le_of_ble_eq_true rfl) ⟨q1, q2, q3, q4, ?_⟩
  simp [zA, df0]
theorem kG_RX2_9 : Cond.fieldLink RX2 9 RX2 (TX2 0).2.1 (TX2 0).2.2.1 ∈ TB := tb_of 134 (by decide +kernel) rfl
def p2_init (G : GG) (h0 : Nat) (X w : va_W) : Prop := ∃ q1 : Nat, w = (h0, .inr (1, [.ref q1, .int 0])) :: (X ++ [(q1, zA G 96)])
set_option maxHeartbeats 4000000 in
set_option maxRecDepth 100000 in
theorem s2_init {G : GG} {h0 : Nat} {X : va_W} : CB G yX2_init (WY yX2_init cX2_init 1 none) 1 12 1 96 [.ref h0] ((h0, .inr (1, df1)) :: X) (p2_init G h0 X) := by
  refine CB.of (cc := cX2_init) (nL := 1) (own := RX2) (by decide +kernel) rfl rfl rfl (Nat.le_of_ble_eq_true rfl) ?_
  show BW G EI (CZ G (p2_init G h0 X) 1 96) (WY yX2_init cX2_init 1 none) RX2 cX2_init 1 none ({ frames := 1, cells := 1, slots := 96, locals := 12 } : Room) 0 0 0 [(0, .ref h0)] [] ((h0, .inr (1, df1)) :: X)
  refine b_aload_n dX2_init_0 0 rfl ?_
  refine b_obj dX2_init_1 (tbc _ kM_RX2_obj) (tbc _ kI_obj) (tbc _ kC_obj) (Nat.le_of_ble_eq_true rfl) (Nat.le_of_ble_eq_true rfl) ?_
  refine b_aload_n dX2_init_4 0 rfl ?_
  refine b_bipush (v := 96) dX2_init_5 (by decide) ?_
  refine b_newa (N := 96) dX2_init_7 (tbc _ kA_int) (by decide) (by decide) (by decide) (Nat.le_of_ble_eq_true rfl) (Nat.le_of_ble_eq_true rfl) (fun q1 => ?_)
  refine b_putF1 dX2_init_9 0 0 (by decide) (tbc _ kG_RX2_9) (fun w h => tbc _ (uW1 w h)) rfl rfl rfl rfl rfl rfl (Nat.le_of_ble_eq_true rfl) (fun _ _ _ h => h) ?_
  refine b_ws ((h0, .inr (1, [.ref q1, .int 0])) :: _) rfl ?_
  refine b_vret dX2_init_12 (Nat.le_of_ble_eq_true rfl) (Nat.le_of_ble_eq_true rfl) ⟨q1, ?_⟩
  simp [zA, df1]
theorem kG_RX4_10 : Cond.fieldLink RX4 10 RX4 (TX4 0).2.1 (TX4 0).2.2.1 ∈ TB := tb_of 141 (by decide +kernel) rfl
theorem kG_RX4_16 : Cond.fieldLink RX4 16 RX4 (TX4 1).2.1 (TX4 1).2.2.1 ∈ TB := tb_of 142 (by decide +kernel) rfl
theorem kG_RX4_19 : Cond.fieldLink RX4 19 RX4 (TX4 2).2.1 (TX4 2).2.2.1 ∈ TB := tb_of 143 (by decide +kernel) rfl
theorem kG_RX4_22 : Cond.fieldLink RX4 22 RX4 (TX4 3).2.1 (TX4 3).2.2.1 ∈ TB := tb_of 144 (by decide +kernel) rfl
theorem kG_RX4_29 : Cond.fieldLink RX4 29 RX4 (TX4 4).2.1 (TX4 4).2.2.1 ∈ TB := tb_of 145 (by decide +kernel) rfl
theorem kG_RX4_33 : Cond.fieldLink RX4 33 RX4 (TX4 5).2.1 (TX4 5).2.2.1 ∈ TB := tb_of 146 (by decide +kernel) rfl
theorem kG_RX4_37 : Cond.fieldLink RX4 37 RX4 (TX4 6).2.1 (TX4 6).2.2.1 ∈ TB := tb_of 147 (by decide +kernel) rfl
theorem kG_RX4_40 : Cond.fieldLink RX4 40 RX4 (TX4 7).2.1 (TX4 7).2.2.1 ∈ TB := tb_of 148 (by decide +kernel) rfl
/-- the cells behind the first constructor, in the order of their making, by their places -/
def W62 (G : GG) (qs : List Nat) : va_W := [((qs.getD 51 0), .inr (0, [.ref (qs.getD 52 0), .ref (qs.getD 53 0), .ref (qs.getD 54 0), .ref (qs.getD 55 0), .int 0, .int 0, .int 0, .int 0, .int 0])), ((qs.getD 46 0), .inr (0, [.ref (qs.getD 47 0), .ref (qs.getD 48 0), .ref (qs.getD 49 0), .ref (qs.getD 50 0), .int 0, .int 0, .int 0, .int 0, .int 0])), ((qs.getD 41 0), .inr (0, [.ref (qs.getD 42 0), .ref (qs.getD 43 0), .ref (qs.getD 44 0), .ref (qs.getD 45 0), .int 0, .int 0, .int 0, .int 0, .int 0])), ((qs.getD 36 0), .inr (0, [.ref (qs.getD 37 0), .ref (qs.getD 38 0), .ref (qs.getD 39 0), .ref (qs.getD 40 0), .int 0, .int 0, .int 0, .int 0, .int 0])), ((qs.getD 31 0), .inr (0, [.ref (qs.getD 32 0), .ref (qs.getD 33 0), .ref (qs.getD 34 0), .ref (qs.getD 35 0), .int 0, .int 0, .int 0, .int 0, .int 0])), ((qs.getD 26 0), .inr (0, [.ref (qs.getD 27 0), .ref (qs.getD 28 0), .ref (qs.getD 29 0), .ref (qs.getD 30 0), .int 0, .int 0, .int 0, .int 0, .int 0])), ((qs.getD 21 0), .inr (0, [.ref (qs.getD 22 0), .ref (qs.getD 23 0), .ref (qs.getD 24 0), .ref (qs.getD 25 0), .int 0, .int 0, .int 0, .int 0, .int 0])), ((qs.getD 16 0), .inr (0, [.ref (qs.getD 17 0), .ref (qs.getD 18 0), .ref (qs.getD 19 0), .ref (qs.getD 20 0), .int 0, .int 0, .int 0, .int 0, .int 0])), ((qs.getD 57 0), .inr (1, [.ref (qs.getD 58 0), .int 0])), ((qs.getD 11 0), .inr (0, [.ref (qs.getD 12 0), .ref (qs.getD 13 0), .ref (qs.getD 14 0), .ref (qs.getD 15 0), .int 0, .int 0, .int 0, .int 0, .int 0])), ((qs.getD 6 0), .inr (0, [.ref (qs.getD 7 0), .ref (qs.getD 8 0), .ref (qs.getD 9 0), .ref (qs.getD 10 0), .int 0, .int 0, .int 0, .int 0, .int 0])), ((qs.getD 1 0), .inr (0, [.ref (qs.getD 2 0), .ref (qs.getD 3 0), .ref (qs.getD 4 0), .ref (qs.getD 5 0), .int 0, .int 0, .int 0, .int 0, .int 0])), ((qs.getD 0 0), .inr (2, [.ref (qs.getD 1 0), .ref (qs.getD 6 0), .ref (qs.getD 11 0), .ref (qs.getD 56 0), .ref (qs.getD 57 0), .ref (qs.getD 59 0), .ref (qs.getD 60 0), .ref (qs.getD 61 0), .int 0, .int 0, .int 0, .int 0])), ((qs.getD 2 0), zA G 10), ((qs.getD 3 0), zA G 10), ((qs.getD 4 0), zA G 10), ((qs.getD 5 0), zA G 10), ((qs.getD 7 0), zA G 10), ((qs.getD 8 0), zA G 10), ((qs.getD 9 0), zA G 10), ((qs.getD 10 0), zA G 10), ((qs.getD 12 0), zA G 10), ((qs.getD 13 0), zA G 10), ((qs.getD 14 0), zA G 10), ((qs.getD 15 0), zA G 10), ((qs.getD 56 0), .inl (gC G, 8, .inr (.inr (.inr (.inr (va_up (va_up (va_up (va_up (va_up (va_up (va_up (va_up (fun _ => none) 0 (some (qs.getD 16 0))) 1 (some (qs.getD 21 0))) 2 (some (qs.getD 26 0))) 3 (some (qs.getD 31 0))) 4 (some (qs.getD 36 0))) 5 (some (qs.getD 41 0))) 6 (some (qs.getD 46 0))) 7 (some (qs.getD 51 0)))))))), ((qs.getD 58 0), zA G 96), ((qs.getD 59 0), zA G 12), ((qs.getD 60 0), zA G 7), ((qs.getD 61 0), zA G 2048), ((qs.getD 17 0), zA G 10), ((qs.getD 18 0), zA G 10), ((qs.getD 19 0), zA G 10), ((qs.getD 20 0), zA G 10), ((qs.getD 22 0), zA G 10), ((qs.getD 23 0), zA G 10), ((qs.getD 24 0), zA G 10), ((qs.getD 25 0), zA G 10), ((qs.getD 27 0), zA G 10), ((qs.getD 28 0), zA G 10), ((qs.getD 29 0), zA G 10), ((qs.getD 30 0), zA G 10), ((qs.getD 32 0), zA G 10), ((qs.getD 33 0), zA G 10), ((qs.getD 34 0), zA G 10), ((qs.getD 35 0), zA G 10), ((qs.getD 37 0), zA G 10), ((qs.getD 38 0), zA G 10), ((qs.getD 39 0), zA G 10), ((qs.getD 40 0), zA G 10), ((qs.getD 42 0), zA G 10), ((qs.getD 43 0), zA G 10), ((qs.getD 44 0), zA G 10), ((qs.getD 45 0), zA G 10), ((qs.getD 47 0), zA G 10), ((qs.getD 48 0), zA G 10), ((qs.getD 49 0), zA G 10), ((qs.getD 50 0), zA G 10), ((qs.getD 52 0), zA G 10), ((qs.getD 53 0), zA G 10), ((qs.getD 54 0), zA G 10), ((qs.getD 55 0), zA G 10)]
def p4_init (G : GG) (h0 : Nat) (w : va_W) : Prop := ∃ qs : List Nat, qs.length = 62 ∧ qs.getD 0 0 = h0 ∧ w = W62 G qs
set_option maxHeartbeats 8000000 in
set_option maxRecDepth 100000 in
theorem s4_init {G : GG} {h0 : Nat} : CB G yX4_init (WY yX4_init cX4_init 2 none) 2 40 61 2712 [.ref h0] [(h0, .inr (2, df2))] (p4_init G h0) := by
  refine CB.of (cc := cX4_init) (nL := 2) (own := RX4) (by decide +kernel) rfl rfl rfl (Nat.le_of_ble_eq_true rfl) ?_
  show BW G EI (CZ G (p4_init G h0) 61 2712) (WY yX4_init cX4_init 2 none) RX4 cX4_init 2 none ({ frames := 2, cells := 61, slots := 2712, locals := 40 } : Room) 0 0 0 [(0, .ref h0)] [] [(h0, .inr (2, df2))]
  refine b_aload_n dX4_init_0 0 rfl ?_
  refine b_obj dX4_init_1 (tbc _ kM_RX4_obj) (tbc _ kI_obj) (tbc _ kC_obj) (Nat.le_of_ble_eq_true rfl) (Nat.le_of_ble_eq_true rfl) ?_
  refine b_aload_n dX4_init_4 0 rfl ?_
  refine b_new0 (fs := df0) dX4_init_5 (tbc _ kL_RX4_7) (tbc _ kV_RX0) (tbc _ kN_RX0) (fun w h => tbc _ (uW0 w h)) df0_ok (Nat.le_of_ble_eq_true rfl) (Nat.le_of_ble_eq_true rfl) (fun a1 => ?_)
  refine b_dup dX4_init_8 rfl ?_
  refine b_callN (host := RX4) dX4_init_9 (s0_init (G := G)) rfl rfl ⟨Nat.le_of_ble_eq_true rfl, Nat.le_of_ble_eq_true rfl⟩ (Nat.le_of_ble_eq_true rfl) ⟨Nat.le_of_ble_eq_true rfl, Nat.le_of_ble_eq_true rfl⟩ (gW tbc kC_X0_init) (fun _ h => h.2.1) (tbc _ kN_RX0) (tbc _ kI_X0_init) (by decide +kernel) (fun w1 hw1 => ?_)
  obtain ⟨a2, a3, a4, a5, rfl⟩ := hw1
  refine b_ws [(a1, .inr (0, [.ref a2, .ref a3, .ref a4, .ref a5, .int 0, .int 0, .int 0, .int 0, .int 0])), (h0, .inr (2, [.null, .null, .null, .null, .null, .null, .null, .null, .int 0, .int 0, .int 0, .int 0])), (a2, zA G 10), (a3, zA G 10), (a4, zA G 10), (a5, zA G 10)] rfl ?_
  refine b_putF2 dX4_init_12 1 0 (by decide) (tbc _ kG_RX4_10) (fun w h => tbc _ (uW2 w h)) rfl rfl rfl rfl rfl rfl (Nat.le_of_ble_eq_true rfl) (fun _ _ _ h => h) ?_
  refine b_ws [(a1, .inr (0, [.ref a2, .ref a3, .ref a4, .ref a5, .int 0, .int 0, .int 0, .int 0, .int 0])), (h0, .inr (2, [.ref a1, .null, .null, .null, .null, .null, .null, .null, .int 0, .int 0, .int 0, .int 0])), (a2, zA G 10), (a3, zA G 10), (a4, zA G 10), (a5, zA G 10)] rfl ?_
  refine b_aload_n dX4_init_15 0 rfl ?_
  refine b_new0 (fs := df0) dX4_init_16 (tbc _ kL_RX4_7) (tbc _ kV_RX0) (tbc _ kN_RX0) (fun w h => tbc _ (uW0 w h)) df0_ok (Nat.le_of_ble_eq_true rfl) (Nat.le_of_ble_eq_true rfl) (fun a6 => ?_)
  refine b_dup dX4_init_19 rfl ?_
  refine b_callN (host := RX4) dX4_init_20 (s0_init (G := G)) rfl rfl ⟨Nat.le_of_ble_eq_true rfl, Nat.le_of_ble_eq_true rfl⟩ (Nat.le_of_ble_eq_true rfl) ⟨Nat.le_of_ble_eq_true rfl, Nat.le_of_ble_eq_true rfl⟩ (gW tbc kC_X0_init) (fun _ h => h.2.1) (tbc _ kN_RX0) (tbc _ kI_X0_init) (by decide +kernel) (fun w1 hw1 => ?_)
  obtain ⟨a7, a8, a9, a10, rfl⟩ := hw1
  refine b_ws [(a6, .inr (0, [.ref a7, .ref a8, .ref a9, .ref a10, .int 0, .int 0, .int 0, .int 0, .int 0])), (a1, .inr (0, [.ref a2, .ref a3, .ref a4, .ref a5, .int 0, .int 0, .int 0, .int 0, .int 0])), (h0, .inr (2, [.ref a1, .null, .null, .null, .null, .null, .null, .null, .int 0, .int 0, .int 0, .int 0])), (a2, zA G 10), (a3, zA G 10), (a4, zA G 10), (a5, zA G 10), (a7, zA G 10), (a8, zA G 10), (a9, zA G 10), (a10, zA G 10)] rfl ?_
  refine b_putF2 dX4_init_23 2 1 (by decide) (tbc _ kG_RX4_16) (fun w h => tbc _ (uW2 w h)) rfl rfl rfl rfl rfl rfl (Nat.le_of_ble_eq_true rfl) (fun _ _ _ h => h) ?_
  refine b_ws [(a6, .inr (0, [.ref a7, .ref a8, .ref a9, .ref a10, .int 0, .int 0, .int 0, .int 0, .int 0])), (a1, .inr (0, [.ref a2, .ref a3, .ref a4, .ref a5, .int 0, .int 0, .int 0, .int 0, .int 0])), (h0, .inr (2, [.ref a1, .ref a6, .null, .null, .null, .null, .null, .null, .int 0, .int 0, .int 0, .int 0])), (a2, zA G 10), (a3, zA G 10), (a4, zA G 10), (a5, zA G 10), (a7, zA G 10), (a8, zA G 10), (a9, zA G 10), (a10, zA G 10)] rfl ?_
  refine b_aload_n dX4_init_26 0 rfl ?_
  refine b_new0 (fs := df0) dX4_init_27 (tbc _ kL_RX4_7) (tbc _ kV_RX0) (tbc _ kN_RX0) (fun w h => tbc _ (uW0 w h)) df0_ok (Nat.le_of_ble_eq_true rfl) (Nat.le_of_ble_eq_true rfl) (fun a11 => ?_)
  refine b_dup dX4_init_30 rfl ?_
  refine b_callN (host := RX4) dX4_init_31 (s0_init (G := G)) rfl rfl ⟨Nat.le_of_ble_eq_true rfl, Nat.le_of_ble_eq_true rfl⟩ (Nat.le_of_ble_eq_true rfl) ⟨Nat.le_of_ble_eq_true rfl, Nat.le_of_ble_eq_true rfl⟩ (gW tbc kC_X0_init) (fun _ h => h.2.1) (tbc _ kN_RX0) (tbc _ kI_X0_init) (by decide +kernel) (fun w1 hw1 => ?_)
  obtain ⟨a12, a13, a14, a15, rfl⟩ := hw1
  refine b_ws [(a11, .inr (0, [.ref a12, .ref a13, .ref a14, .ref a15, .int 0, .int 0, .int 0, .int 0, .int 0])), (a6, .inr (0, [.ref a7, .ref a8, .ref a9, .ref a10, .int 0, .int 0, .int 0, .int 0, .int 0])), (a1, .inr (0, [.ref a2, .ref a3, .ref a4, .ref a5, .int 0, .int 0, .int 0, .int 0, .int 0])), (h0, .inr (2, [.ref a1, .ref a6, .null, .null, .null, .null, .null, .null, .int 0, .int 0, .int 0, .int 0])), (a2, zA G 10), (a3, zA G 10), (a4, zA G 10), (a5, zA G 10), (a7, zA G 10), (a8, zA G 10), (a9, zA G 10), (a10, zA G 10), (a12, zA G 10), (a13, zA G 10), (a14, zA G 10), (a15, zA G 10)] rfl ?_
  refine b_putF2 dX4_init_34 3 2 (by decide) (tbc _ kG_RX4_19) (fun w h => tbc _ (uW2 w h)) rfl rfl rfl rfl rfl rfl (Nat.le_of_ble_eq_true rfl) (fun _ _ _ h => h) ?_
  refine b_ws [(a11, .inr (0, [.ref a12, .ref a13, .ref a14, .ref a15, .int 0, .int 0, .int 0, .int 0, .int 0])), (a6, .inr (0, [.ref a7, .ref a8, .ref a9, .ref a10, .int 0, .int 0, .int 0, .int 0, .int 0])), (a1, .inr (0, [.ref a2, .ref a3, .ref a4, .ref a5, .int 0, .int 0, .int 0, .int 0, .int 0])), (h0, .inr (2, [.ref a1, .ref a6, .ref a11, .null, .null, .null, .null, .null, .int 0, .int 0, .int 0, .int 0])), (a2, zA G 10), (a3, zA G 10), (a4, zA G 10), (a5, zA G 10), (a7, zA G 10), (a8, zA G 10), (a9, zA G 10), (a10, zA G 10), (a12, zA G 10), (a13, zA G 10), (a14, zA G 10), (a15, zA G 10)] rfl ?_
  refine b_aload_n dX4_init_37 0 rfl ?_
  refine b_bipush (v := 8) dX4_init_38 (by decide) ?_
  refine b_newq (N := 8) dX4_init_40 (tbc _ kL_RX4_7) (by decide) (by decide) (by decide) (Nat.le_of_ble_eq_true rfl) (Nat.le_of_ble_eq_true rfl) (fun a16 => ?_)
  refine b_ws [(a11, .inr (0, [.ref a12, .ref a13, .ref a14, .ref a15, .int 0, .int 0, .int 0, .int 0, .int 0])), (a6, .inr (0, [.ref a7, .ref a8, .ref a9, .ref a10, .int 0, .int 0, .int 0, .int 0, .int 0])), (a1, .inr (0, [.ref a2, .ref a3, .ref a4, .ref a5, .int 0, .int 0, .int 0, .int 0, .int 0])), (h0, .inr (2, [.ref a1, .ref a6, .ref a11, .null, .null, .null, .null, .null, .int 0, .int 0, .int 0, .int 0])), (a2, zA G 10), (a3, zA G 10), (a4, zA G 10), (a5, zA G 10), (a7, zA G 10), (a8, zA G 10), (a9, zA G 10), (a10, zA G 10), (a12, zA G 10), (a13, zA G 10), (a14, zA G 10), (a15, zA G 10), (a16, .inl (gC G, 8, .inr (.inr (.inr (.inr (fun _ => none))))))] rfl ?_
  refine b_putF2 dX4_init_43 3 3 (by decide) (tbc _ kG_RX4_22) (fun w h => tbc _ (uW2 w h)) rfl rfl rfl rfl rfl rfl (Nat.le_of_ble_eq_true rfl) (fun _ _ _ h => h) ?_
  refine b_ws [(a11, .inr (0, [.ref a12, .ref a13, .ref a14, .ref a15, .int 0, .int 0, .int 0, .int 0, .int 0])), (a6, .inr (0, [.ref a7, .ref a8, .ref a9, .ref a10, .int 0, .int 0, .int 0, .int 0, .int 0])), (a1, .inr (0, [.ref a2, .ref a3, .ref a4, .ref a5, .int 0, .int 0, .int 0, .int 0, .int 0])), (h0, .inr (2, [.ref a1, .ref a6, .ref a11, .ref a16, .null, .null, .null, .null, .int 0, .int 0, .int 0, .int 0])), (a2, zA G 10), (a3, zA G 10), (a4, zA G 10), (a5, zA G 10), (a7, zA G 10), (a8, zA G 10), (a9, zA G 10), (a10, zA G 10), (a12, zA G 10), (a13, zA G 10), (a14, zA G 10), (a15, zA G 10), (a16, .inl (gC G, 8, .inr (.inr (.inr (.inr (fun _ => none))))))] rfl ?_
  refine b_aload_n dX4_init_46 0 rfl ?_
  refine b_new1 (fs := df1) dX4_init_47 (tbc _ kL_RX4_26) (tbc _ kV_RX2) (tbc _ kN_RX2) (fun w h => tbc _ (uW1 w h)) df1_ok (Nat.le_of_ble_eq_true rfl) (Nat.le_of_ble_eq_true rfl) (fun a17 => ?_)
  refine b_dup dX4_init_50 rfl ?_
  refine b_callN (host := RX4) dX4_init_51 (s2_init (G := G)) rfl rfl ⟨Nat.le_of_ble_eq_true rfl, Nat.le_of_ble_eq_true rfl⟩ (Nat.le_of_ble_eq_true rfl) ⟨Nat.le_of_ble_eq_true rfl, Nat.le_of_ble_eq_true rfl⟩ (gW tbc kC_X2_init) (fun _ h => h.2.2) (tbc _ kN_RX2) (tbc _ kI_X2_init) (by decide +kernel) (fun w1 hw1 => ?_)
  obtain ⟨a18, rfl⟩ := hw1
  refine b_ws [(a17, .inr (1, [.ref a18, .int 0])), (a11, .inr (0, [.ref a12, .ref a13, .ref a14, .ref a15, .int 0, .int 0, .int 0, .int 0, .int 0])), (a6, .inr (0, [.ref a7, .ref a8, .ref a9, .ref a10, .int 0, .int 0, .int 0, .int 0, .int 0])), (a1, .inr (0, [.ref a2, .ref a3, .ref a4, .ref a5, .int 0, .int 0, .int 0, .int 0, .int 0])), (h0, .inr (2, [.ref a1, .ref a6, .ref a11, .ref a16, .null, .null, .null, .null, .int 0, .int 0, .int 0, .int 0])), (a2, zA G 10), (a3, zA G 10), (a4, zA G 10), (a5, zA G 10), (a7, zA G 10), (a8, zA G 10), (a9, zA G 10), (a10, zA G 10), (a12, zA G 10), (a13, zA G 10), (a14, zA G 10), (a15, zA G 10), (a16, .inl (gC G, 8, .inr (.inr (.inr (.inr (fun _ => none)))))), (a18, zA G 96)] rfl ?_
  refine b_putF2 dX4_init_54 4 4 (by decide) (tbc _ kG_RX4_29) (fun w h => tbc _ (uW2 w h)) rfl rfl rfl rfl rfl rfl (Nat.le_of_ble_eq_true rfl) (fun _ _ _ h => h) ?_
  refine b_ws [(a17, .inr (1, [.ref a18, .int 0])), (a11, .inr (0, [.ref a12, .ref a13, .ref a14, .ref a15, .int 0, .int 0, .int 0, .int 0, .int 0])), (a6, .inr (0, [.ref a7, .ref a8, .ref a9, .ref a10, .int 0, .int 0, .int 0, .int 0, .int 0])), (a1, .inr (0, [.ref a2, .ref a3, .ref a4, .ref a5, .int 0, .int 0, .int 0, .int 0, .int 0])), (h0, .inr (2, [.ref a1, .ref a6, .ref a11, .ref a16, .ref a17, .null, .null, .null, .int 0, .int 0, .int 0, .int 0])), (a2, zA G 10), (a3, zA G 10), (a4, zA G 10), (a5, zA G 10), (a7, zA G 10), (a8, zA G 10), (a9, zA G 10), (a10, zA G 10), (a12, zA G 10), (a13, zA G 10), (a14, zA G 10), (a15, zA G 10), (a16, .inl (gC G, 8, .inr (.inr (.inr (.inr (fun _ => none)))))), (a18, zA G 96)] rfl ?_
  refine b_aload_n dX4_init_57 0 rfl ?_
  refine b_bipush (v := 12) dX4_init_58 (by decide) ?_
  refine b_newa (N := 12) dX4_init_60 (tbc _ kA_int) (by decide) (by decide) (by decide) (Nat.le_of_ble_eq_true rfl) (Nat.le_of_ble_eq_true rfl) (fun a19 => ?_)
  refine b_ws [(a17, .inr (1, [.ref a18, .int 0])), (a11, .inr (0, [.ref a12, .ref a13, .ref a14, .ref a15, .int 0, .int 0, .int 0, .int 0, .int 0])), (a6, .inr (0, [.ref a7, .ref a8, .ref a9, .ref a10, .int 0, .int 0, .int 0, .int 0, .int 0])), (a1, .inr (0, [.ref a2, .ref a3, .ref a4, .ref a5, .int 0, .int 0, .int 0, .int 0, .int 0])), (h0, .inr (2, [.ref a1, .ref a6, .ref a11, .ref a16, .ref a17, .null, .null, .null, .int 0, .int 0, .int 0, .int 0])), (a2, zA G 10), (a3, zA G 10), (a4, zA G 10), (a5, zA G 10), (a7, zA G 10), (a8, zA G 10), (a9, zA G 10), (a10, zA G 10), (a12, zA G 10), (a13, zA G 10), (a14, zA G 10), (a15, zA G 10), (a16, .inl (gC G, 8, .inr (.inr (.inr (.inr (fun _ => none)))))), (a18, zA G 96), (a19, zA G 12)] rfl ?_
  refine b_putF2 dX4_init_62 4 5 (by decide) (tbc _ kG_RX4_33) (fun w h => tbc _ (uW2 w h)) rfl rfl rfl rfl rfl rfl (Nat.le_of_ble_eq_true rfl) (fun _ _ _ h => h) ?_
  refine b_ws [(a17, .inr (1, [.ref a18, .int 0])), (a11, .inr (0, [.ref a12, .ref a13, .ref a14, .ref a15, .int 0, .int 0, .int 0, .int 0, .int 0])), (a6, .inr (0, [.ref a7, .ref a8, .ref a9, .ref a10, .int 0, .int 0, .int 0, .int 0, .int 0])), (a1, .inr (0, [.ref a2, .ref a3, .ref a4, .ref a5, .int 0, .int 0, .int 0, .int 0, .int 0])), (h0, .inr (2, [.ref a1, .ref a6, .ref a11, .ref a16, .ref a17, .ref a19, .null, .null, .int 0, .int 0, .int 0, .int 0])), (a2, zA G 10), (a3, zA G 10), (a4, zA G 10), (a5, zA G 10), (a7, zA G 10), (a8, zA G 10), (a9, zA G 10), (a10, zA G 10), (a12, zA G 10), (a13, zA G 10), (a14, zA G 10), (a15, zA G 10), (a16, .inl (gC G, 8, .inr (.inr (.inr (.inr (fun _ => none)))))), (a18, zA G 96), (a19, zA G 12)] rfl ?_
  refine b_aload_n dX4_init_65 0 rfl ?_
  refine b_bipush (v := 7) dX4_init_66 (by decide) ?_
  refine b_newa (N := 7) dX4_init_68 (tbc _ kA_int) (by decide) (by decide) (by decide) (Nat.le_of_ble_eq_true rfl) (Nat.le_of_ble_eq_true rfl) (fun a20 => ?_)
  refine b_ws [(a17, .inr (1, [.ref a18, .int 0])), (a11, .inr (0, [.ref a12, .ref a13, .ref a14, .ref a15, .int 0, .int 0, .int 0, .int 0, .int 0])), (a6, .inr (0, [.ref a7, .ref a8, .ref a9, .ref a10, .int 0, .int 0, .int 0, .int 0, .int 0])), (a1, .inr (0, [.ref a2, .ref a3, .ref a4, .ref a5, .int 0, .int 0, .int 0, .int 0, .int 0])), (h0, .inr (2, [.ref a1, .ref a6, .ref a11, .ref a16, .ref a17, .ref a19, .null, .null, .int 0, .int 0, .int 0, .int 0])), (a2, zA G 10), (a3, zA G 10), (a4, zA G 10), (a5, zA G 10), (a7, zA G 10), (a8, zA G 10), (a9, zA G 10), (a10, zA G 10), (a12, zA G 10), (a13, zA G 10), (a14, zA G 10), (a15, zA G 10), (a16, .inl (gC G, 8, .inr (.inr (.inr (.inr (fun _ => none)))))), (a18, zA G 96), (a19, zA G 12), (a20, zA G 7)] rfl ?_
  refine b_putF2 dX4_init_70 4 6 (by decide) (tbc _ kG_RX4_37) (fun w h => tbc _ (uW2 w h)) rfl rfl rfl rfl rfl rfl (Nat.le_of_ble_eq_true rfl) (fun _ _ _ h => h) ?_
  refine b_ws [(a17, .inr (1, [.ref a18, .int 0])), (a11, .inr (0, [.ref a12, .ref a13, .ref a14, .ref a15, .int 0, .int 0, .int 0, .int 0, .int 0])), (a6, .inr (0, [.ref a7, .ref a8, .ref a9, .ref a10, .int 0, .int 0, .int 0, .int 0, .int 0])), (a1, .inr (0, [.ref a2, .ref a3, .ref a4, .ref a5, .int 0, .int 0, .int 0, .int 0, .int 0])), (h0, .inr (2, [.ref a1, .ref a6, .ref a11, .ref a16, .ref a17, .ref a19, .ref a20, .null, .int 0, .int 0, .int 0, .int 0])), (a2, zA G 10), (a3, zA G 10), (a4, zA G 10), (a5, zA G 10), (a7, zA G 10), (a8, zA G 10), (a9, zA G 10), (a10, zA G 10), (a12, zA G 10), (a13, zA G 10), (a14, zA G 10), (a15, zA G 10), (a16, .inl (gC G, 8, .inr (.inr (.inr (.inr (fun _ => none)))))), (a18, zA G 96), (a19, zA G 12), (a20, zA G 7)] rfl ?_
  refine b_aload_n dX4_init_73 0 rfl ?_
  refine b_sipush (v := 2048) dX4_init_74 (by decide) ?_
  refine b_newa (N := 2048) dX4_init_77 (tbc _ kA_int) (by decide) (by decide) (by decide) (Nat.le_of_ble_eq_true rfl) (Nat.le_of_ble_eq_true rfl) (fun a21 => ?_)
  refine b_ws [(a17, .inr (1, [.ref a18, .int 0])), (a11, .inr (0, [.ref a12, .ref a13, .ref a14, .ref a15, .int 0, .int 0, .int 0, .int 0, .int 0])), (a6, .inr (0, [.ref a7, .ref a8, .ref a9, .ref a10, .int 0, .int 0, .int 0, .int 0, .int 0])), (a1, .inr (0, [.ref a2, .ref a3, .ref a4, .ref a5, .int 0, .int 0, .int 0, .int 0, .int 0])), (h0, .inr (2, [.ref a1, .ref a6, .ref a11, .ref a16, .ref a17, .ref a19, .ref a20, .null, .int 0, .int 0, .int 0, .int 0])), (a2, zA G 10), (a3, zA G 10), (a4, zA G 10), (a5, zA G 10), (a7, zA G 10), (a8, zA G 10), (a9, zA G 10), (a10, zA G 10), (a12, zA G 10), (a13, zA G 10), (a14, zA G 10), (a15, zA G 10), (a16, .inl (gC G, 8, .inr (.inr (.inr (.inr (fun _ => none)))))), (a18, zA G 96), (a19, zA G 12), (a20, zA G 7), (a21, zA G 2048)] rfl ?_
  refine b_putF2 dX4_init_79 4 7 (by decide) (tbc _ kG_RX4_40) (fun w h => tbc _ (uW2 w h)) rfl rfl rfl rfl rfl rfl (Nat.le_of_ble_eq_true rfl) (fun _ _ _ h => h) ?_
  refine b_ws [(a17, .inr (1, [.ref a18, .int 0])), (a11, .inr (0, [.ref a12, .ref a13, .ref a14, .ref a15, .int 0, .int 0, .int 0, .int 0, .int 0])), (a6, .inr (0, [.ref a7, .ref a8, .ref a9, .ref a10, .int 0, .int 0, .int 0, .int 0, .int 0])), (a1, .inr (0, [.ref a2, .ref a3, .ref a4, .ref a5, .int 0, .int 0, .int 0, .int 0, .int 0])), (h0, .inr (2, [.ref a1, .ref a6, .ref a11, .ref a16, .ref a17, .ref a19, .ref a20, .ref a21, .int 0, .int 0, .int 0, .int 0])), (a2, zA G 10), (a3, zA G 10), (a4, zA G 10), (a5, zA G 10), (a7, zA G 10), (a8, zA G 10), (a9, zA G 10), (a10, zA G 10), (a12, zA G 10), (a13, zA G 10), (a14, zA G 10), (a15, zA G 10), (a16, .inl (gC G, 8, .inr (.inr (.inr (.inr (fun _ => none)))))), (a18, zA G 96), (a19, zA G 12), (a20, zA G 7), (a21, zA G 2048)] rfl ?_
  refine b_iconst (v := 0) dX4_init_82 (by decide) ?_
  refine b_istore_n (i := 1) (L' := [(1, .int 0), (0, .ref h0)]) dX4_init_83 rfl (by decide) rfl ?_
  refine b_iload_n dX4_init_84 0 rfl ?_
  refine b_bipush (v := 8) dX4_init_85 (by decide) ?_
  refine b_icmp_ge (tgt := 109) dX4_init_87 (by decide) (fun c => absurd c (by decide)) (fun _ => ?_)
  refine b_aload_n dX4_init_90 1 rfl ?_
  refine b_get2 dX4_init_91 4 3 (by decide) (tbc _ kG_RX4_22) (fun w h => tbc _ (uW2 w h)) rfl rfl rfl ?_
  refine b_iload_n dX4_init_94 0 rfl ?_
  refine b_new0 (fs := df0) dX4_init_95 (tbc _ kL_RX4_7) (tbc _ kV_RX0) (tbc _ kN_RX0) (fun w h => tbc _ (uW0 w h)) df0_ok (Nat.le_of_ble_eq_true rfl) (Nat.le_of_ble_eq_true rfl) (fun a22 => ?_)
  refine b_dup dX4_init_98 rfl ?_
  refine b_callN (host := RX4) dX4_init_99 (s0_init (G := G)) rfl rfl ⟨Nat.le_of_ble_eq_true rfl, Nat.le_of_ble_eq_true rfl⟩ (Nat.le_of_ble_eq_true rfl) ⟨Nat.le_of_ble_eq_true rfl, Nat.le_of_ble_eq_true rfl⟩ (gW tbc kC_X0_init) (fun _ h => h.2.1) (tbc _ kN_RX0) (tbc _ kI_X0_init) (by decide +kernel) (fun w1 hw1 => ?_)
  obtain ⟨a23, a24, a25, a26, rfl⟩ := hw1
  refine b_ws [(a22, .inr (0, [.ref a23, .ref a24, .ref a25, .ref a26, .int 0, .int 0, .int 0, .int 0, .int 0])), (a17, .inr (1, [.ref a18, .int 0])), (a11, .inr (0, [.ref a12, .ref a13, .ref a14, .ref a15, .int 0, .int 0, .int 0, .int 0, .int 0])), (a6, .inr (0, [.ref a7, .ref a8, .ref a9, .ref a10, .int 0, .int 0, .int 0, .int 0, .int 0])), (a1, .inr (0, [.ref a2, .ref a3, .ref a4, .ref a5, .int 0, .int 0, .int 0, .int 0, .int 0])), (h0, .inr (2, [.ref a1, .ref a6, .ref a11, .ref a16, .ref a17, .ref a19, .ref a20, .ref a21, .int 0, .int 0, .int 0, .int 0])), (a2, zA G 10), (a3, zA G 10), (a4, zA G 10), (a5, zA G 10), (a7, zA G 10), (a8, zA G 10), (a9, zA G 10), (a10, zA G 10), (a12, zA G 10), (a13, zA G 10), (a14, zA G 10), (a15, zA G 10), (a16, .inl (gC G, 8, .inr (.inr (.inr (.inr (fun _ => none)))))), (a18, zA G 96), (a19, zA G 12), (a20, zA G 7), (a21, zA G 2048), (a23, zA G 10), (a24, zA G 10), (a25, zA G 10), (a26, zA G 10)] rfl ?_
  refine b_aast dX4_init_102 18 0 rfl rfl (by unfold vp_in; decide) ?_
  refine b_ws [(a22, .inr (0, [.ref a23, .ref a24, .ref a25, .ref a26, .int 0, .int 0, .int 0, .int 0, .int 0])), (a17, .inr (1, [.ref a18, .int 0])), (a11, .inr (0, [.ref a12, .ref a13, .ref a14, .ref a15, .int 0, .int 0, .int 0, .int 0, .int 0])), (a6, .inr (0, [.ref a7, .ref a8, .ref a9, .ref a10, .int 0, .int 0, .int 0, .int 0, .int 0])), (a1, .inr (0, [.ref a2, .ref a3, .ref a4, .ref a5, .int 0, .int 0, .int 0, .int 0, .int 0])), (h0, .inr (2, [.ref a1, .ref a6, .ref a11, .ref a16, .ref a17, .ref a19, .ref a20, .ref a21, .int 0, .int 0, .int 0, .int 0])), (a2, zA G 10), (a3, zA G 10), (a4, zA G 10), (a5, zA G 10), (a7, zA G 10), (a8, zA G 10), (a9, zA G 10), (a10, zA G 10), (a12, zA G 10), (a13, zA G 10), (a14, zA G 10), (a15, zA G 10), (a16, .inl (gC G, 8, .inr (.inr (.inr (.inr (va_up (fun _ => none) 0 (some a22))))))), (a18, zA G 96), (a19, zA G 12), (a20, zA G 7), (a21, zA G 2048), (a23, zA G 10), (a24, zA G 10), (a25, zA G 10), (a26, zA G 10)] rfl ?_
  refine b_iinc (L' := [(1, .int 1), (0, .ref h0)]) dX4_init_103 0 rfl (by decide) (by decide) rfl ?_
  refine b_goto (tgt := 84) dX4_init_106 (by decide) ?_
  refine b_iload_n dX4_init_84 0 rfl ?_
  refine b_bipush (v := 8) dX4_init_85 (by decide) ?_
  refine b_icmp_ge (tgt := 109) dX4_init_87 (by decide) (fun c => absurd c (by decide)) (fun _ => ?_)
  refine b_aload_n dX4_init_90 1 rfl ?_
  refine b_get2 dX4_init_91 5 3 (by decide) (tbc _ kG_RX4_22) (fun w h => tbc _ (uW2 w h)) rfl rfl rfl ?_
  refine b_iload_n dX4_init_94 0 rfl ?_
  refine b_new0 (fs := df0) dX4_init_95 (tbc _ kL_RX4_7) (tbc _ kV_RX0) (tbc _ kN_RX0) (fun w h => tbc _ (uW0 w h)) df0_ok (Nat.le_of_ble_eq_true rfl) (Nat.le_of_ble_eq_true rfl) (fun a27 => ?_)
  refine b_dup dX4_init_98 rfl ?_
  refine b_callN (host := RX4) dX4_init_99 (s0_init (G := G)) rfl rfl ⟨Nat.le_of_ble_eq_true rfl, Nat.le_of_ble_eq_true rfl⟩ (Nat.le_of_ble_eq_true rfl) ⟨Nat.le_of_ble_eq_true rfl, Nat.le_of_ble_eq_true rfl⟩ (gW tbc kC_X0_init) (fun _ h => h.2.1) (tbc _ kN_RX0) (tbc _ kI_X0_init) (by decide +kernel) (fun w1 hw1 => ?_)
  obtain ⟨a28, a29, a30, a31, rfl⟩ := hw1
  refine b_ws [(a27, .inr (0, [.ref a28, .ref a29, .ref a30, .ref a31, .int 0, .int 0, .int 0, .int 0, .int 0])), (a22, .inr (0, [.ref a23, .ref a24, .ref a25, .ref a26, .int 0, .int 0, .int 0, .int 0, .int 0])), (a17, .inr (1, [.ref a18, .int 0])), (a11, .inr (0, [.ref a12, .ref a13, .ref a14, .ref a15, .int 0, .int 0, .int 0, .int 0, .int 0])), (a6, .inr (0, [.ref a7, .ref a8, .ref a9, .ref a10, .int 0, .int 0, .int 0, .int 0, .int 0])), (a1, .inr (0, [.ref a2, .ref a3, .ref a4, .ref a5, .int 0, .int 0, .int 0, .int 0, .int 0])), (h0, .inr (2, [.ref a1, .ref a6, .ref a11, .ref a16, .ref a17, .ref a19, .ref a20, .ref a21, .int 0, .int 0, .int 0, .int 0])), (a2, zA G 10), (a3, zA G 10), (a4, zA G 10), (a5, zA G 10), (a7, zA G 10), (a8, zA G 10), (a9, zA G 10), (a10, zA G 10), (a12, zA G 10), (a13, zA G 10), (a14, zA G 10), (a15, zA G 10), (a16, .inl (gC G, 8, .inr (.inr (.inr (.inr (va_up (fun _ => none) 0 (some a22))))))), (a18, zA G 96), (a19, zA G 12), (a20, zA G 7), (a21, zA G 2048), (a23, zA G 10), (a24, zA G 10), (a25, zA G 10), (a26, zA G 10), (a28, zA G 10), (a29, zA G 10), (a30, zA G 10), (a31, zA G 10)] rfl ?_
  refine b_aast dX4_init_102 19 0 rfl rfl (by unfold vp_in; decide) ?_
  refine b_ws [(a27, .inr (0, [.ref a28, .ref a29, .ref a30, .ref a31, .int 0, .int 0, .int 0, .int 0, .int 0])), (a22, .inr (0, [.ref a23, .ref a24, .ref a25, .ref a26, .int 0, .int 0, .int 0, .int 0, .int 0])), (a17, .inr (1, [.ref a18, .int 0])), (a11, .inr (0, [.ref a12, .ref a13, .ref a14, .ref a15, .int 0, .int 0, .int 0, .int 0, .int 0])), (a6, .inr (0, [.ref a7, .ref a8, .ref a9, .ref a10, .int 0, .int 0, .int 0, .int 0, .int 0])), (a1, .inr (0, [.ref a2, .ref a3, .ref a4, .ref a5, .int 0, .int 0, .int 0, .int 0, .int 0])), (h0, .inr (2, [.ref a1, .ref a6, .ref a11, .ref a16, .ref a17, .ref a19, .ref a20, .ref a21, .int 0, .int 0, .int 0, .int 0])), (a2, zA G 10), (a3, zA G 10), (a4, zA G 10), (a5, zA G 10), (a7, zA G 10), (a8, zA G 10), (a9, zA G 10), (a10, zA G 10), (a12, zA G 10), (a13, zA G 10), (a14, zA G 10), (a15, zA G 10), (a16, .inl (gC G, 8, .inr (.inr (.inr (.inr (va_up (va_up (fun _ => none) 0 (some a22)) 1 (some a27))))))), (a18, zA G 96), (a19, zA G 12), (a20, zA G 7), (a21, zA G 2048), (a23, zA G 10), (a24, zA G 10), (a25, zA G 10), (a26, zA G 10), (a28, zA G 10), (a29, zA G 10), (a30, zA G 10), (a31, zA G 10)] rfl ?_
  refine b_iinc (L' := [(1, .int 2), (0, .ref h0)]) dX4_init_103 0 rfl (by decide) (by decide) rfl ?_
  refine b_goto (tgt := 84) dX4_init_106 (by decide) ?_
  refine b_iload_n dX4_init_84 0 rfl ?_
  refine b_bipush (v := 8) dX4_init_85 (by decide) ?_
  refine b_icmp_ge (tgt := 109) dX4_init_87 (by decide) (fun c => absurd c (by decide)) (fun _ => ?_)
  refine b_aload_n dX4_init_90 1 rfl ?_
  refine b_get2 dX4_init_91 6 3 (by decide) (tbc _ kG_RX4_22) (fun w h => tbc _ (uW2 w h)) rfl rfl rfl ?_
  refine b_iload_n dX4_init_94 0 rfl ?_
  refine b_new0 (fs := df0) dX4_init_95 (tbc _ kL_RX4_7) (tbc _ kV_RX0) (tbc _ kN_RX0) (fun w h => tbc _ (uW0 w h)) df0_ok (Nat.le_of_ble_eq_true rfl) (Nat.le_of_ble_eq_true rfl) (fun a32 => ?_)
  refine b_dup dX4_init_98 rfl ?_
  refine b_callN (host := RX4) dX4_init_99 (s0_init (G := G)) rfl rfl ⟨Nat.le_of_ble_eq_true rfl, Nat.le_of_ble_eq_true rfl⟩ (Nat.le_of_ble_eq_true rfl) ⟨Nat.le_of_ble_eq_true rfl, Nat.le_of_ble_eq_true rfl⟩ (gW tbc kC_X0_init) (fun _ h => h.2.1) (tbc _ kN_RX0) (tbc _ kI_X0_init) (by decide +kernel) (fun w1 hw1 => ?_)
  obtain ⟨a33, a34, a35, a36, rfl⟩ := hw1
  refine b_ws [(a32, .inr (0, [.ref a33, .ref a34, .ref a35, .ref a36, .int 0, .int 0, .int 0, .int 0, .int 0])), (a27, .inr (0, [.ref a28, .ref a29, .ref a30, .ref a31, .int 0, .int 0, .int 0, .int 0, .int 0])), (a22, .inr (0, [.ref a23, .ref a24, .ref a25, .ref a26, .int 0, .int 0, .int 0, .int 0, .int 0])), (a17, .inr (1, [.ref a18, .int 0])), (a11, .inr (0, [.ref a12, .ref a13, .ref a14, .ref a15, .int 0, .int 0, .int 0, .int 0, .int 0])), (a6, .inr (0, [.ref a7, .ref a8, .ref a9, .ref a10, .int 0, .int 0, .int 0, .int 0, .int 0])), (a1, .inr (0, [.ref a2, .ref a3, .ref a4, .ref a5, .int 0, .int 0, .int 0, .int 0, .int 0])), (h0, .inr (2, [.ref a1, .ref a6, .ref a11, .ref a16, .ref a17, .ref a19, .ref a20, .ref a21, .int 0, .int 0, .int 0, .int 0])), (a2, zA G 10), (a3, zA G 10), (a4, zA G 10), (a5, zA G 10), (a7, zA G 10), (a8, zA G 10), (a9, zA G 10), (a10, zA G 10), (a12, zA G 10), (a13, zA G 10), (a14, zA G 10), (a15, zA G 10), (a16, .inl (gC G, 8, .inr (.inr (.inr (.inr (va_up (va_up (fun _ => none) 0 (some a22)) 1 (some a27))))))), (a18, zA G 96), (a19, zA G 12), (a20, zA G 7), (a21, zA G 2048), (a23, zA G 10), (a24, zA G 10), (a25, zA G 10), (a26, zA G 10), (a28, zA G 10), (a29, zA G 10), (a30, zA G 10), (a31, zA G 10), (a33, zA G 10), (a34, zA G 10), (a35, zA G 10), (a36, zA G 10)] rfl ?_
  refine b_aast dX4_init_102 20 0 rfl rfl (by unfold vp_in; decide) ?_
  refine b_ws [(a32, .inr (0, [.ref a33, .ref a34, .ref a35, .ref a36, .int 0, .int 0, .int 0, .int 0, .int 0])), (a27, .inr (0, [.ref a28, .ref a29, .ref a30, .ref a31, .int 0, .int 0, .int 0, .int 0, .int 0])), (a22, .inr (0, [.ref a23, .ref a24, .ref a25, .ref a26, .int 0, .int 0, .int 0, .int 0, .int 0])), (a17, .inr (1, [.ref a18, .int 0])), (a11, .inr (0, [.ref a12, .ref a13, .ref a14, .ref a15, .int 0, .int 0, .int 0, .int 0, .int 0])), (a6, .inr (0, [.ref a7, .ref a8, .ref a9, .ref a10, .int 0, .int 0, .int 0, .int 0, .int 0])), (a1, .inr (0, [.ref a2, .ref a3, .ref a4, .ref a5, .int 0, .int 0, .int 0, .int 0, .int 0])), (h0, .inr (2, [.ref a1, .ref a6, .ref a11, .ref a16, .ref a17, .ref a19, .ref a20, .ref a21, .int 0, .int 0, .int 0, .int 0])), (a2, zA G 10), (a3, zA G 10), (a4, zA G 10), (a5, zA G 10), (a7, zA G 10), (a8, zA G 10), (a9, zA G 10), (a10, zA G 10), (a12, zA G 10), (a13, zA G 10), (a14, zA G 10), (a15, zA G 10), (a16, .inl (gC G, 8, .inr (.inr (.inr (.inr (va_up (va_up (va_up (fun _ => none) 0 (some a22)) 1 (some a27)) 2 (some a32))))))), (a18, zA G 96), (a19, zA G 12), (a20, zA G 7), (a21, zA G 2048), (a23, zA G 10), (a24, zA G 10), (a25, zA G 10), (a26, zA G 10), (a28, zA G 10), (a29, zA G 10), (a30, zA G 10), (a31, zA G 10), (a33, zA G 10), (a34, zA G 10), (a35, zA G 10), (a36, zA G 10)] rfl ?_
  refine b_iinc (L' := [(1, .int 3), (0, .ref h0)]) dX4_init_103 0 rfl (by decide) (by decide) rfl ?_
  refine b_goto (tgt := 84) dX4_init_106 (by decide) ?_
  refine b_iload_n dX4_init_84 0 rfl ?_
  refine b_bipush (v := 8) dX4_init_85 (by decide) ?_
  refine b_icmp_ge (tgt := 109) dX4_init_87 (by decide) (fun c => absurd c (by decide)) (fun _ => ?_)
  refine b_aload_n dX4_init_90 1 rfl ?_
  refine b_get2 dX4_init_91 7 3 (by decide) (tbc _ kG_RX4_22) (fun w h => tbc _ (uW2 w h)) rfl rfl rfl ?_
  refine b_iload_n dX4_init_94 0 rfl ?_
  refine b_new0 (fs := df0) dX4_init_95 (tbc _ kL_RX4_7) (tbc _ kV_RX0) (tbc _ kN_RX0) (fun w h => tbc _ (uW0 w h)) df0_ok (Nat.le_of_ble_eq_true rfl) (Nat.le_of_ble_eq_true rfl) (fun a37 => ?_)
  refine b_dup dX4_init_98 rfl ?_
  refine b_callN (host := RX4) dX4_init_99 (s0_init (G := G)) rfl rfl ⟨Nat.le_of_ble_eq_true rfl, Nat.le_of_ble_eq_true rfl⟩ (Nat.le_of_ble_eq_true rfl) ⟨Nat.le_of_ble_eq_true rfl, Nat.le_of_ble_eq_true rfl⟩ (gW tbc kC_X0_init) (fun _ h => h.2.1) (tbc _ kN_RX0) (tbc _ kI_X0_init) (by decide +kernel) (fun w1 hw1 => ?_)
  obtain ⟨a38, a39, a40, a41, rfl⟩ := hw1
  refine b_ws [(a37, .inr (0, [.ref a38, .ref a39, .ref a40, .ref a41, .int 0, .int 0, .int 0, .int 0, .int 0])), (a32, .inr (0, [.ref a33, .ref a34, .ref a35, .ref a36, .int 0, .int 0, .int 0, .int 0, .int 0])), (a27, .inr (0, [.ref a28, .ref a29, .ref a30, .ref a31, .int 0, .int 0, .int 0, .int 0, .int 0])), (a22, .inr (0, [.ref a23, .ref a24, .ref a25, .ref a26, .int 0, .int 0, .int 0, .int 0, .int 0])), (a17, .inr (1, [.ref a18, .int 0])), (a11, .inr (0, [.ref a12, .ref a13, .ref a14, .ref a15, .int 0, .int 0, .int 0, .int 0, .int 0])), (a6, .inr (0, [.ref a7, .ref a8, .ref a9, .ref a10, .int 0, .int 0, .int 0, .int 0, .int 0])), (a1, .inr (0, [.ref a2, .ref a3, .ref a4, .ref a5, .int 0, .int 0, .int 0, .int 0, .int 0])), (h0, .inr (2, [.ref a1, .ref a6, .ref a11, .ref a16, .ref a17, .ref a19, .ref a20, .ref a21, .int 0, .int 0, .int 0, .int 0])), (a2, zA G 10), (a3, zA G 10), (a4, zA G 10), (a5, zA G 10), (a7, zA G 10), (a8, zA G 10), (a9, zA G 10), (a10, zA G 10), (a12, zA G 10), (a13, zA G 10), (a14, zA G 10), (a15, zA G 10), (a16, .inl (gC G, 8, .inr (.inr (.inr (.inr (va_up (va_up (va_up (fun _ => none) 0 (some a22)) 1 (some a27)) 2 (some a32))))))), (a18, zA G 96), (a19, zA G 12), (a20, zA G 7), (a21, zA G 2048), (a23, zA G 10), (a24, zA G 10), (a25, zA G 10), (a26, zA G 10), (a28, zA G 10), (a29, zA G 10), (a30, zA G 10), (a31, zA G 10), (a33, zA G 10), (a34, zA G 10), (a35, zA G 10), (a36, zA G 10), (a38, zA G 10), (a39, zA G 10), (a40, zA G 10), (a41, zA G 10)] rfl ?_
  refine b_aast dX4_init_102 21 0 rfl rfl (by unfold vp_in; decide) ?_
  refine b_ws [(a37, .inr (0, [.ref a38, .ref a39, .ref a40, .ref a41, .int 0, .int 0, .int 0, .int 0, .int 0])), (a32, .inr (0, [.ref a33, .ref a34, .ref a35, .ref a36, .int 0, .int 0, .int 0, .int 0, .int 0])), (a27, .inr (0, [.ref a28, .ref a29, .ref a30, .ref a31, .int 0, .int 0, .int 0, .int 0, .int 0])), (a22, .inr (0, [.ref a23, .ref a24, .ref a25, .ref a26, .int 0, .int 0, .int 0, .int 0, .int 0])), (a17, .inr (1, [.ref a18, .int 0])), (a11, .inr (0, [.ref a12, .ref a13, .ref a14, .ref a15, .int 0, .int 0, .int 0, .int 0, .int 0])), (a6, .inr (0, [.ref a7, .ref a8, .ref a9, .ref a10, .int 0, .int 0, .int 0, .int 0, .int 0])), (a1, .inr (0, [.ref a2, .ref a3, .ref a4, .ref a5, .int 0, .int 0, .int 0, .int 0, .int 0])), (h0, .inr (2, [.ref a1, .ref a6, .ref a11, .ref a16, .ref a17, .ref a19, .ref a20, .ref a21, .int 0, .int 0, .int 0, .int 0])), (a2, zA G 10), (a3, zA G 10), (a4, zA G 10), (a5, zA G 10), (a7, zA G 10), (a8, zA G 10), (a9, zA G 10), (a10, zA G 10), (a12, zA G 10), (a13, zA G 10), (a14, zA G 10), (a15, zA G 10), (a16, .inl (gC G, 8, .inr (.inr (.inr (.inr (va_up (va_up (va_up (va_up (fun _ => none) 0 (some a22)) 1 (some a27)) 2 (some a32)) 3 (some a37))))))), (a18, zA G 96), (a19, zA G 12), (a20, zA G 7), (a21, zA G 2048), (a23, zA G 10), (a24, zA G 10), (a25, zA G 10), (a26, zA G 10), (a28, zA G 10), (a29, zA G 10), (a30, zA G 10), (a31, zA G 10), (a33, zA G 10), (a34, zA G 10), (a35, zA G 10), (a36, zA G 10), (a38, zA G 10), (a39, zA G 10), (a40, zA G 10), (a41, zA G 10)] rfl ?_
  refine b_iinc (L' := [(1, .int 4), (0, .ref h0)]) dX4_init_103 0 rfl (by decide) (by decide) rfl ?_
  refine b_goto (tgt := 84) dX4_init_106 (by decide) ?_
  refine b_iload_n dX4_init_84 0 rfl ?_
  refine b_bipush (v := 8) dX4_init_85 (by decide) ?_
  refine b_icmp_ge (tgt := 109) dX4_init_87 (by decide) (fun c => absurd c (by decide)) (fun _ => ?_)
  refine b_aload_n dX4_init_90 1 rfl ?_
  refine b_get2 dX4_init_91 8 3 (by decide) (tbc _ kG_RX4_22) (fun w h => tbc _ (uW2 w h)) rfl rfl rfl ?_
  refine b_iload_n dX4_init_94 0 rfl ?_
  refine b_new0 (fs := df0) dX4_init_95 (tbc _ kL_RX4_7) (tbc _ kV_RX0) (tbc _ kN_RX0) (fun w h => tbc _ (uW0 w h)) df0_ok (Nat.le_of_ble_eq_true rfl) (Nat.le_of_ble_eq_true rfl) (fun a42 => ?_)
  refine b_dup dX4_init_98 rfl ?_
  refine b_callN (host := RX4) dX4_init_99 (s0_init (G := G)) rfl rfl ⟨Nat.le_of_ble_eq_true rfl, Nat.le_of_ble_eq_true rfl⟩ (Nat.le_of_ble_eq_true rfl) ⟨Nat.le_of_ble_eq_true rfl, Nat.le_of_ble_eq_true rfl⟩ (gW tbc kC_X0_init) (fun _ h => h.2.1) (tbc _ kN_RX0) (tbc _ kI_X0_init) (by decide +kernel) (fun w1 hw1 => ?_)
  obtain ⟨a43, a44, a45, a46, rfl⟩ := hw1
  refine b_ws [(a42, .inr (0, [.ref a43, .ref a44, .ref a45, .ref a46, .int 0, .int 0, .int 0, .int 0, .int 0])), (a37, .inr (0, [.ref a38, .ref a39, .ref a40, .ref a41, .int 0, .int 0, .int 0, .int 0, .int 0])), (a32, .inr (0, [.ref a33, .ref a34, .ref a35, .ref a36, .int 0, .int 0, .int 0, .int 0, .int 0])), (a27, .inr (0, [.ref a28, .ref a29, .ref a30, .ref a31, .int 0, .int 0, .int 0, .int 0, .int 0])), (a22, .inr (0, [.ref a23, .ref a24, .ref a25, .ref a26, .int 0, .int 0, .int 0, .int 0, .int 0])), (a17, .inr (1, [.ref a18, .int 0])), (a11, .inr (0, [.ref a12, .ref a13, .ref a14, .ref a15, .int 0, .int 0, .int 0, .int 0, .int 0])), (a6, .inr (0, [.ref a7, .ref a8, .ref a9, .ref a10, .int 0, .int 0, .int 0, .int 0, .int 0])), (a1, .inr (0, [.ref a2, .ref a3, .ref a4, .ref a5, .int 0, .int 0, .int 0, .int 0, .int 0])), (h0, .inr (2, [.ref a1, .ref a6, .ref a11, .ref a16, .ref a17, .ref a19, .ref a20, .ref a21, .int 0, .int 0, .int 0, .int 0])), (a2, zA G 10), (a3, zA G 10), (a4, zA G 10), (a5, zA G 10), (a7, zA G 10), (a8, zA G 10), (a9, zA G 10), (a10, zA G 10), (a12, zA G 10), (a13, zA G 10), (a14, zA G 10), (a15, zA G 10), (a16, .inl (gC G, 8, .inr (.inr (.inr (.inr (va_up (va_up (va_up (va_up (fun _ => none) 0 (some a22)) 1 (some a27)) 2 (some a32)) 3 (some a37))))))), (a18, zA G 96), (a19, zA G 12), (a20, zA G 7), (a21, zA G 2048), (a23, zA G 10), (a24, zA G 10), (a25, zA G 10), (a26, zA G 10), (a28, zA G 10), (a29, zA G 10), (a30, zA G 10), (a31, zA G 10), (a33, zA G 10), (a34, zA G 10), (a35, zA G 10), (a36, zA G 10), (a38, zA G 10), (a39, zA G 10), (a40, zA G 10), (a41, zA G 10), (a43, zA G 10), (a44, zA G 10), (a45, zA G 10), (a46, zA G 10)] rfl ?_
  refine b_aast dX4_init_102 22 0 rfl rfl (by unfold vp_in; decide) ?_
  refine b_ws [(a42, .inr (0, [.ref a43, .ref a44, .ref a45, .ref a46, .int 0, .int 0, .int 0, .int 0, .int 0])), (a37, .inr (0, [.ref a38, .ref a39, .ref a40, .ref a41, .int 0, .int 0, .int 0, .int 0, .int 0])), (a32, .inr (0, [.ref a33, .ref a34, .ref a35, .ref a36, .int 0, .int 0, .int 0, .int 0, .int 0])), (a27, .inr (0, [.ref a28, .ref a29, .ref a30, .ref a31, .int 0, .int 0, .int 0, .int 0, .int 0])), (a22, .inr (0, [.ref a23, .ref a24, .ref a25, .ref a26, .int 0, .int 0, .int 0, .int 0, .int 0])), (a17, .inr (1, [.ref a18, .int 0])), (a11, .inr (0, [.ref a12, .ref a13, .ref a14, .ref a15, .int 0, .int 0, .int 0, .int 0, .int 0])), (a6, .inr (0, [.ref a7, .ref a8, .ref a9, .ref a10, .int 0, .int 0, .int 0, .int 0, .int 0])), (a1, .inr (0, [.ref a2, .ref a3, .ref a4, .ref a5, .int 0, .int 0, .int 0, .int 0, .int 0])), (h0, .inr (2, [.ref a1, .ref a6, .ref a11, .ref a16, .ref a17, .ref a19, .ref a20, .ref a21, .int 0, .int 0, .int 0, .int 0])), (a2, zA G 10), (a3, zA G 10), (a4, zA G 10), (a5, zA G 10), (a7, zA G 10), (a8, zA G 10), (a9, zA G 10), (a10, zA G 10), (a12, zA G 10), (a13, zA G 10), (a14, zA G 10), (a15, zA G 10), (a16, .inl (gC G, 8, .inr (.inr (.inr (.inr (va_up (va_up (va_up (va_up (va_up (fun _ => none) 0 (some a22)) 1 (some a27)) 2 (some a32)) 3 (some a37)) 4 (some a42))))))), (a18, zA G 96), (a19, zA G 12), (a20, zA G 7), (a21, zA G 2048), (a23, zA G 10), (a24, zA G 10), (a25, zA G 10), (a26, zA G 10), (a28, zA G 10), (a29, zA G 10), (a30, zA G 10), (a31, zA G 10), (a33, zA G 10), (a34, zA G 10), (a35, zA G 10), (a36, zA G 10), (a38, zA G 10), (a39, zA G 10), (a40, zA G 10), (a41, zA G 10), (a43, zA G 10), (a44, zA G 10), (a45, zA G 10), (a46, zA G 10)] rfl ?_
  refine b_iinc (L' := [(1, .int 5), (0, .ref h0)]) dX4_init_103 0 rfl (by decide) (by decide) rfl ?_
  refine b_goto (tgt := 84) dX4_init_106 (by decide) ?_
  refine b_iload_n dX4_init_84 0 rfl ?_
  refine b_bipush (v := 8) dX4_init_85 (by decide) ?_
  refine b_icmp_ge (tgt := 109) dX4_init_87 (by decide) (fun c => absurd c (by decide)) (fun _ => ?_)
  refine b_aload_n dX4_init_90 1 rfl ?_
  refine b_get2 dX4_init_91 9 3 (by decide) (tbc _ kG_RX4_22) (fun w h => tbc _ (uW2 w h)) rfl rfl rfl ?_
  refine b_iload_n dX4_init_94 0 rfl ?_
  refine b_new0 (fs := df0) dX4_init_95 (tbc _ kL_RX4_7) (tbc _ kV_RX0) (tbc _ kN_RX0) (fun w h => tbc _ (uW0 w h)) df0_ok (Nat.le_of_ble_eq_true rfl) (Nat.le_of_ble_eq_true rfl) (fun a47 => ?_)
  refine b_dup dX4_init_98 rfl ?_
  refine b_callN (host := RX4) dX4_init_99 (s0_init (G := G)) rfl rfl ⟨Nat.le_of_ble_eq_true rfl, Nat.le_of_ble_eq_true rfl⟩ (Nat.le_of_ble_eq_true rfl) ⟨Nat.le_of_ble_eq_true rfl, Nat.le_of_ble_eq_true rfl⟩ (gW tbc kC_X0_init) (fun _ h => h.2.1) (tbc _ kN_RX0) (tbc _ kI_X0_init) (by decide +kernel) (fun w1 hw1 => ?_)
  obtain ⟨a48, a49, a50, a51, rfl⟩ := hw1
  refine b_ws [(a47, .inr (0, [.ref a48, .ref a49, .ref a50, .ref a51, .int 0, .int 0, .int 0, .int 0, .int 0])), (a42, .inr (0, [.ref a43, .ref a44, .ref a45, .ref a46, .int 0, .int 0, .int 0, .int 0, .int 0])), (a37, .inr (0, [.ref a38, .ref a39, .ref a40, .ref a41, .int 0, .int 0, .int 0, .int 0, .int 0])), (a32, .inr (0, [.ref a33, .ref a34, .ref a35, .ref a36, .int 0, .int 0, .int 0, .int 0, .int 0])), (a27, .inr (0, [.ref a28, .ref a29, .ref a30, .ref a31, .int 0, .int 0, .int 0, .int 0, .int 0])), (a22, .inr (0, [.ref a23, .ref a24, .ref a25, .ref a26, .int 0, .int 0, .int 0, .int 0, .int 0])), (a17, .inr (1, [.ref a18, .int 0])), (a11, .inr (0, [.ref a12, .ref a13, .ref a14, .ref a15, .int 0, .int 0, .int 0, .int 0, .int 0])), (a6, .inr (0, [.ref a7, .ref a8, .ref a9, .ref a10, .int 0, .int 0, .int 0, .int 0, .int 0])), (a1, .inr (0, [.ref a2, .ref a3, .ref a4, .ref a5, .int 0, .int 0, .int 0, .int 0, .int 0])), (h0, .inr (2, [.ref a1, .ref a6, .ref a11, .ref a16, .ref a17, .ref a19, .ref a20, .ref a21, .int 0, .int 0, .int 0, .int 0])), (a2, zA G 10), (a3, zA G 10), (a4, zA G 10), (a5, zA G 10), (a7, zA G 10), (a8, zA G 10), (a9, zA G 10), (a10, zA G 10), (a12, zA G 10), (a13, zA G 10), (a14, zA G 10), (a15, zA G 10), (a16, .inl (gC G, 8, .inr (.inr (.inr (.inr (va_up (va_up (va_up (va_up (va_up (fun _ => none) 0 (some a22)) 1 (some a27)) 2 (some a32)) 3 (some a37)) 4 (some a42))))))), (a18, zA G 96), (a19, zA G 12), (a20, zA G 7), (a21, zA G 2048), (a23, zA G 10), (a24, zA G 10), (a25, zA G 10), (a26, zA G 10), (a28, zA G 10), (a29, zA G 10), (a30, zA G 10), (a31, zA G 10), (a33, zA G 10), (a34, zA G 10), (a35, zA G 10), (a36, zA G 10), (a38, zA G 10), (a39, zA G 10), (a40, zA G 10), (a41, zA G 10), (a43, zA G 10), (a44, zA G 10), (a45, zA G 10), (a46, zA G 10), (a48, zA G 10), (a49, zA G 10), (a50, zA G 10), (a51, zA G 10)] rfl ?_
  refine b_aast dX4_init_102 23 0 rfl rfl (by unfold vp_in; decide) ?_
  refine b_ws [(a47, .inr (0, [.ref a48, .ref a49, .ref a50, .ref a51, .int 0, .int 0, .int 0, .int 0, .int 0])), (a42, .inr (0, [.ref a43, .ref a44, .ref a45, .ref a46, .int 0, .int 0, .int 0, .int 0, .int 0])), (a37, .inr (0, [.ref a38, .ref a39, .ref a40, .ref a41, .int 0, .int 0, .int 0, .int 0, .int 0])), (a32, .inr (0, [.ref a33, .ref a34, .ref a35, .ref a36, .int 0, .int 0, .int 0, .int 0, .int 0])), (a27, .inr (0, [.ref a28, .ref a29, .ref a30, .ref a31, .int 0, .int 0, .int 0, .int 0, .int 0])), (a22, .inr (0, [.ref a23, .ref a24, .ref a25, .ref a26, .int 0, .int 0, .int 0, .int 0, .int 0])), (a17, .inr (1, [.ref a18, .int 0])), (a11, .inr (0, [.ref a12, .ref a13, .ref a14, .ref a15, .int 0, .int 0, .int 0, .int 0, .int 0])), (a6, .inr (0, [.ref a7, .ref a8, .ref a9, .ref a10, .int 0, .int 0, .int 0, .int 0, .int 0])), (a1, .inr (0, [.ref a2, .ref a3, .ref a4, .ref a5, .int 0, .int 0, .int 0, .int 0, .int 0])), (h0, .inr (2, [.ref a1, .ref a6, .ref a11, .ref a16, .ref a17, .ref a19, .ref a20, .ref a21, .int 0, .int 0, .int 0, .int 0])), (a2, zA G 10), (a3, zA G 10), (a4, zA G 10), (a5, zA G 10), (a7, zA G 10), (a8, zA G 10), (a9, zA G 10), (a10, zA G 10), (a12, zA G 10), (a13, zA G 10), (a14, zA G 10), (a15, zA G 10), (a16, .inl (gC G, 8, .inr (.inr (.inr (.inr (va_up (va_up (va_up (va_up (va_up (va_up (fun _ => none) 0 (some a22)) 1 (some a27)) 2 (some a32)) 3 (some a37)) 4 (some a42)) 5 (some a47))))))), (a18, zA G 96), (a19, zA G 12), (a20, zA G 7), (a21, zA G 2048), (a23, zA G 10), (a24, zA G 10), (a25, zA G 10), (a26, zA G 10), (a28, zA G 10), (a29, zA G 10), (a30, zA G 10), (a31, zA G 10), (a33, zA G 10), (a34, zA G 10), (a35, zA G 10), (a36, zA G 10), (a38, zA G 10), (a39, zA G 10), (a40, zA G 10), (a41, zA G 10), (a43, zA G 10), (a44, zA G 10), (a45, zA G 10), (a46, zA G 10), (a48, zA G 10), (a49, zA G 10), (a50, zA G 10), (a51, zA G 10)] rfl ?_
  refine b_iinc (L' := [(1, .int 6), (0, .ref h0)]) dX4_init_103 0 rfl (by decide) (by decide) rfl ?_
  refine b_goto (tgt := 84) dX4_init_106 (by decide) ?_
  refine b_iload_n dX4_init_84 0 rfl ?_
  refine b_bipush (v := 8) dX4_init_85 (by decide) ?_
  refine b_icmp_ge (tgt := 109) dX4_init_87 (by decide) (fun c => absurd c (by decide)) (fun _ => ?_)
  refine b_aload_n dX4_init_90 1 rfl ?_
  refine b_get2 dX4_init_91 10 3 (by decide) (tbc _ kG_RX4_22) (fun w h => tbc _ (uW2 w h)) rfl rfl rfl ?_
  refine b_iload_n dX4_init_94 0 rfl ?_
  refine b_new0 (fs := df0) dX4_init_95 (tbc _ kL_RX4_7) (tbc _ kV_RX0) (tbc _ kN_RX0) (fun w h => tbc _ (uW0 w h)) df0_ok (Nat.le_of_ble_eq_true rfl) (Nat.le_of_ble_eq_true rfl) (fun a52 => ?_)
  refine b_dup dX4_init_98 rfl ?_
  refine b_callN (host := RX4) dX4_init_99 (s0_init (G := G)) rfl rfl ⟨Nat.le_of_ble_eq_true rfl, Nat.le_of_ble_eq_true rfl⟩ (Nat.le_of_ble_eq_true rfl) ⟨Nat.le_of_ble_eq_true rfl, Nat.le_of_ble_eq_true rfl⟩ (gW tbc kC_X0_init) (fun _ h => h.2.1) (tbc _ kN_RX0) (tbc _ kI_X0_init) (by decide +kernel) (fun w1 hw1 => ?_)
  obtain ⟨a53, a54, a55, a56, rfl⟩ := hw1
  refine b_ws [(a52, .inr (0, [.ref a53, .ref a54, .ref a55, .ref a56, .int 0, .int 0, .int 0, .int 0, .int 0])), (a47, .inr (0, [.ref a48, .ref a49, .ref a50, .ref a51, .int 0, .int 0, .int 0, .int 0, .int 0])), (a42, .inr (0, [.ref a43, .ref a44, .ref a45, .ref a46, .int 0, .int 0, .int 0, .int 0, .int 0])), (a37, .inr (0, [.ref a38, .ref a39, .ref a40, .ref a41, .int 0, .int 0, .int 0, .int 0, .int 0])), (a32, .inr (0, [.ref a33, .ref a34, .ref a35, .ref a36, .int 0, .int 0, .int 0, .int 0, .int 0])), (a27, .inr (0, [.ref a28, .ref a29, .ref a30, .ref a31, .int 0, .int 0, .int 0, .int 0, .int 0])), (a22, .inr (0, [.ref a23, .ref a24, .ref a25, .ref a26, .int 0, .int 0, .int 0, .int 0, .int 0])), (a17, .inr (1, [.ref a18, .int 0])), (a11, .inr (0, [.ref a12, .ref a13, .ref a14, .ref a15, .int 0, .int 0, .int 0, .int 0, .int 0])), (a6, .inr (0, [.ref a7, .ref a8, .ref a9, .ref a10, .int 0, .int 0, .int 0, .int 0, .int 0])), (a1, .inr (0, [.ref a2, .ref a3, .ref a4, .ref a5, .int 0, .int 0, .int 0, .int 0, .int 0])), (h0, .inr (2, [.ref a1, .ref a6, .ref a11, .ref a16, .ref a17, .ref a19, .ref a20, .ref a21, .int 0, .int 0, .int 0, .int 0])), (a2, zA G 10), (a3, zA G 10), (a4, zA G 10), (a5, zA G 10), (a7, zA G 10), (a8, zA G 10), (a9, zA G 10), (a10, zA G 10), (a12, zA G 10), (a13, zA G 10), (a14, zA G 10), (a15, zA G 10), (a16, .inl (gC G, 8, .inr (.inr (.inr (.inr (va_up (va_up (va_up (va_up (va_up (va_up (fun _ => none) 0 (some a22)) 1 (some a27)) 2 (some a32)) 3 (some a37)) 4 (some a42)) 5 (some a47))))))), (a18, zA G 96), (a19, zA G 12), (a20, zA G 7), (a21, zA G 2048), (a23, zA G 10), (a24, zA G 10), (a25, zA G 10), (a26, zA G 10), (a28, zA G 10), (a29, zA G 10), (a30, zA G 10), (a31, zA G 10), (a33, zA G 10), (a34, zA G 10), (a35, zA G 10), (a36, zA G 10), (a38, zA G 10), (a39, zA G 10), (a40, zA G 10), (a41, zA G 10), (a43, zA G 10), (a44, zA G 10), (a45, zA G 10), (a46, zA G 10), (a48, zA G 10), (a49, zA G 10), (a50, zA G 10), (a51, zA G 10), (a53, zA G 10), (a54, zA G 10), (a55, zA G 10), (a56, zA G 10)] rfl ?_
  refine b_aast dX4_init_102 24 0 rfl rfl (by unfold vp_in; decide) ?_
  refine b_ws [(a52, .inr (0, [.ref a53, .ref a54, .ref a55, .ref a56, .int 0, .int 0, .int 0, .int 0, .int 0])), (a47, .inr (0, [.ref a48, .ref a49, .ref a50, .ref a51, .int 0, .int 0, .int 0, .int 0, .int 0])), (a42, .inr (0, [.ref a43, .ref a44, .ref a45, .ref a46, .int 0, .int 0, .int 0, .int 0, .int 0])), (a37, .inr (0, [.ref a38, .ref a39, .ref a40, .ref a41, .int 0, .int 0, .int 0, .int 0, .int 0])), (a32, .inr (0, [.ref a33, .ref a34, .ref a35, .ref a36, .int 0, .int 0, .int 0, .int 0, .int 0])), (a27, .inr (0, [.ref a28, .ref a29, .ref a30, .ref a31, .int 0, .int 0, .int 0, .int 0, .int 0])), (a22, .inr (0, [.ref a23, .ref a24, .ref a25, .ref a26, .int 0, .int 0, .int 0, .int 0, .int 0])), (a17, .inr (1, [.ref a18, .int 0])), (a11, .inr (0, [.ref a12, .ref a13, .ref a14, .ref a15, .int 0, .int 0, .int 0, .int 0, .int 0])), (a6, .inr (0, [.ref a7, .ref a8, .ref a9, .ref a10, .int 0, .int 0, .int 0, .int 0, .int 0])), (a1, .inr (0, [.ref a2, .ref a3, .ref a4, .ref a5, .int 0, .int 0, .int 0, .int 0, .int 0])), (h0, .inr (2, [.ref a1, .ref a6, .ref a11, .ref a16, .ref a17, .ref a19, .ref a20, .ref a21, .int 0, .int 0, .int 0, .int 0])), (a2, zA G 10), (a3, zA G 10), (a4, zA G 10), (a5, zA G 10), (a7, zA G 10), (a8, zA G 10), (a9, zA G 10), (a10, zA G 10), (a12, zA G 10), (a13, zA G 10), (a14, zA G 10), (a15, zA G 10), (a16, .inl (gC G, 8, .inr (.inr (.inr (.inr (va_up (va_up (va_up (va_up (va_up (va_up (va_up (fun _ => none) 0 (some a22)) 1 (some a27)) 2 (some a32)) 3 (some a37)) 4 (some a42)) 5 (some a47)) 6 (some a52))))))), (a18, zA G 96), (a19, zA G 12), (a20, zA G 7), (a21, zA G 2048), (a23, zA G 10), (a24, zA G 10), (a25, zA G 10), (a26, zA G 10), (a28, zA G 10), (a29, zA G 10), (a30, zA G 10), (a31, zA G 10), (a33, zA G 10), (a34, zA G 10), (a35, zA G 10), (a36, zA G 10), (a38, zA G 10), (a39, zA G 10), (a40, zA G 10), (a41, zA G 10), (a43, zA G 10), (a44, zA G 10), (a45, zA G 10), (a46, zA G 10), (a48, zA G 10), (a49, zA G 10), (a50, zA G 10), (a51, zA G 10), (a53, zA G 10), (a54, zA G 10), (a55, zA G 10), (a56, zA G 10)] rfl ?_
  refine b_iinc (L' := [(1, .int 7), (0, .ref h0)]) dX4_init_103 0 rfl (by decide) (by decide) rfl ?_
  refine b_goto (tgt := 84) dX4_init_106 (by decide) ?_
  refine b_iload_n dX4_init_84 0 rfl ?_
  refine b_bipush (v := 8) dX4_init_85 (by decide) ?_
  refine b_icmp_ge (tgt := 109) dX4_init_87 (by decide) (fun c => absurd c (by decide)) (fun _ => ?_)
  refine b_aload_n dX4_init_90 1 rfl ?_
  refine b_get2 dX4_init_91 11 3 (by decide) (tbc _ kG_RX4_22) (fun w h => tbc _ (uW2 w h)) rfl rfl rfl ?_
  refine b_iload_n dX4_init_94 0 rfl ?_
  refine b_new0 (fs := df0) dX4_init_95 (tbc _ kL_RX4_7) (tbc _ kV_RX0) (tbc _ kN_RX0) (fun w h => tbc _ (uW0 w h)) df0_ok (Nat.le_of_ble_eq_true rfl) (Nat.le_of_ble_eq_true rfl) (fun a57 => ?_)
  refine b_dup dX4_init_98 rfl ?_
  refine b_callN (host := RX4) dX4_init_99 (s0_init (G := G)) rfl rfl ⟨Nat.le_of_ble_eq_true rfl, Nat.le_of_ble_eq_true rfl⟩ (Nat.le_of_ble_eq_true rfl) ⟨Nat.le_of_ble_eq_true rfl, Nat.le_of_ble_eq_true rfl⟩ (gW tbc kC_X0_init) (fun _ h => h.2.1) (tbc _ kN_RX0) (tbc _ kI_X0_init) (by decide +kernel) (fun w1 hw1 => ?_)
  obtain ⟨a58, a59, a60, a61, rfl⟩ := hw1
  refine b_ws [(a57, .inr (0, [.ref a58, .ref a59, .ref a60, .ref a61, .int 0, .int 0, .int 0, .int 0, .int 0])), (a52, .inr (0, [.ref a53, .ref a54, .ref a55, .ref a56, .int 0, .int 0, .int 0, .int 0, .int 0])), (a47, .inr (0, [.ref a48, .ref a49, .ref a50, .ref a51, .int 0, .int 0, .int 0, .int 0, .int 0])), (a42, .inr (0, [.ref a43, .ref a44, .ref a45, .ref a46, .int 0, .int 0, .int 0, .int 0, .int 0])), (a37, .inr (0, [.ref a38, .ref a39, .ref a40, .ref a41, .int 0, .int 0, .int 0, .int 0, .int 0])), (a32, .inr (0, [.ref a33, .ref a34, .ref a35, .ref a36, .int 0, .int 0, .int 0, .int 0, .int 0])), (a27, .inr (0, [.ref a28, .ref a29, .ref a30, .ref a31, .int 0, .int 0, .int 0, .int 0, .int 0])), (a22, .inr (0, [.ref a23, .ref a24, .ref a25, .ref a26, .int 0, .int 0, .int 0, .int 0, .int 0])), (a17, .inr (1, [.ref a18, .int 0])), (a11, .inr (0, [.ref a12, .ref a13, .ref a14, .ref a15, .int 0, .int 0, .int 0, .int 0, .int 0])), (a6, .inr (0, [.ref a7, .ref a8, .ref a9, .ref a10, .int 0, .int 0, .int 0, .int 0, .int 0])), (a1, .inr (0, [.ref a2, .ref a3, .ref a4, .ref a5, .int 0, .int 0, .int 0, .int 0, .int 0])), (h0, .inr (2, [.ref a1, .ref a6, .ref a11, .ref a16, .ref a17, .ref a19, .ref a20, .ref a21, .int 0, .int 0, .int 0, .int 0])), (a2, zA G 10), (a3, zA G 10), (a4, zA G 10), (a5, zA G 10), (a7, zA G 10), (a8, zA G 10), (a9, zA G 10), (a10, zA G 10), (a12, zA G 10), (a13, zA G 10), (a14, zA G 10), (a15, zA G 10), (a16, .inl (gC G, 8, .inr (.inr (.inr (.inr (va_up (va_up (va_up (va_up (va_up (va_up (va_up (fun _ => none) 0 (some a22)) 1 (some a27)) 2 (some a32)) 3 (some a37)) 4 (some a42)) 5 (some a47)) 6 (some a52))))))), (a18, zA G 96), (a19, zA G 12), (a20, zA G 7), (a21, zA G 2048), (a23, zA G 10), (a24, zA G 10), (a25, zA G 10), (a26, zA G 10), (a28, zA G 10), (a29, zA G 10), (a30, zA G 10), (a31, zA G 10), (a33, zA G 10), (a34, zA G 10), (a35, zA G 10), (a36, zA G 10), (a38, zA G 10), (a39, zA G 10), (a40, zA G 10), (a41, zA G 10), (a43, zA G 10), (a44, zA G 10), (a45, zA G 10), (a46, zA G 10), (a48, zA G 10), (a49, zA G 10), (a50, zA G 10), (a51, zA G 10), (a53, zA G 10), (a54, zA G 10), (a55, zA G 10), (a56, zA G 10), (a58, zA G 10), (a59, zA G 10), (a60, zA G 10), (a61, zA G 10)] rfl ?_
  refine b_aast dX4_init_102 25 0 rfl rfl (by unfold vp_in; decide) ?_
  refine b_ws [(a57, .inr (0, [.ref a58, .ref a59, .ref a60, .ref a61, .int 0, .int 0, .int 0, .int 0, .int 0])), (a52, .inr (0, [.ref a53, .ref a54, .ref a55, .ref a56, .int 0, .int 0, .int 0, .int 0, .int 0])), (a47, .inr (0, [.ref a48, .ref a49, .ref a50, .ref a51, .int 0, .int 0, .int 0, .int 0, .int 0])), (a42, .inr (0, [.ref a43, .ref a44, .ref a45, .ref a46, .int 0, .int 0, .int 0, .int 0, .int 0])), (a37, .inr (0, [.ref a38, .ref a39, .ref a40, .ref a41, .int 0, .int 0, .int 0, .int 0, .int 0])), (a32, .inr (0, [.ref a33, .ref a34, .ref a35, .ref a36, .int 0, .int 0, .int 0, .int 0, .int 0])), (a27, .inr (0, [.ref a28, .ref a29, .ref a30, .ref a31, .int 0, .int 0, .int 0, .int 0, .int 0])), (a22, .inr (0, [.ref a23, .ref a24, .ref a25, .ref a26, .int 0, .int 0, .int 0, .int 0, .int 0])), (a17, .inr (1, [.ref a18, .int 0])), (a11, .inr (0, [.ref a12, .ref a13, .ref a14, .ref a15, .int 0, .int 0, .int 0, .int 0, .int 0])), (a6, .inr (0, [.ref a7, .ref a8, .ref a9, .ref a10, .int 0, .int 0, .int 0, .int 0, .int 0])), (a1, .inr (0, [.ref a2, .ref a3, .ref a4, .ref a5, .int 0, .int 0, .int 0, .int 0, .int 0])), (h0, .inr (2, [.ref a1, .ref a6, .ref a11, .ref a16, .ref a17, .ref a19, .ref a20, .ref a21, .int 0, .int 0, .int 0, .int 0])), (a2, zA G 10), (a3, zA G 10), (a4, zA G 10), (a5, zA G 10), (a7, zA G 10), (a8, zA G 10), (a9, zA G 10), (a10, zA G 10), (a12, zA G 10), (a13, zA G 10), (a14, zA G 10), (a15, zA G 10), (a16, .inl (gC G, 8, .inr (.inr (.inr (.inr (va_up (va_up (va_up (va_up (va_up (va_up (va_up (va_up (fun _ => none) 0 (some a22)) 1 (some a27)) 2 (some a32)) 3 (some a37)) 4 (some a42)) 5 (some a47)) 6 (some a52)) 7 (some a57))))))), (a18, zA G 96), (a19, zA G 12), (a20, zA G 7), (a21, zA G 2048), (a23, zA G 10), (a24, zA G 10), (a25, zA G 10), (a26, zA G 10), (a28, zA G 10), (a29, zA G 10), (a30, zA G 10), (a31, zA G 10), (a33, zA G 10), (a34, zA G 10), (a35, zA G 10), (a36, zA G 10), (a38, zA G 10), (a39, zA G 10), (a40, zA G 10), (a41, zA G 10), (a43, zA G 10), (a44, zA G 10), (a45, zA G 10), (a46, zA G 10), (a48, zA G 10), (a49, zA G 10), (a50, zA G 10), (a51, zA G 10), (a53, zA G 10), (a54, zA G 10), (a55, zA G 10), (a56, zA G 10), (a58, zA G 10), (a59, zA G 10), (a60, zA G 10), (a61, zA G 10)] rfl ?_
  refine b_iinc (L' := [(1, .int 8), (0, .ref h0)]) dX4_init_103 0 rfl (by decide) (by decide) rfl ?_
  refine b_goto (tgt := 84) dX4_init_106 (by decide) ?_
  refine b_iload_n dX4_init_84 0 rfl ?_
  refine b_bipush (v := 8) dX4_init_85 (by decide) ?_
  refine b_icmp_ge (tgt := 109) dX4_init_87 (by decide) (fun _ => ?_) (fun c => absurd (by decide) c)
  exact b_vret dX4_init_109 (Nat.le_of_ble_eq_true rfl) (Nat.le_of_ble_eq_true rfl) ⟨[h0, a1, a2, a3, a4, a5, a6, a7, a8, a9, a10, a11, a12, a13, a14, a15, a22, a23, a24, a25, a26, a27, a28, a29, a30, a31, a32, a33, a34, a35, a36, a37, a38, a39, a40, a41, a42, a43, a44, a45, a46, a47, a48, a49, a50, a51, a52, a53, a54, a55, a56, a57, a58, a59, a60, a61, a16, a17, a18, a19, a20, a21], rfl, rfl, rfl⟩
