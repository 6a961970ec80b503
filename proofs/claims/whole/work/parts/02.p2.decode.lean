theorem dX6_isGood_34 : decode cX6_isGood 34 = .ok (.i2l, 1) := by decide +kernel
theorem dX6_isGood_35 : decode cX6_isGood 35 = .ok (.invokestatic 49, 3) := by decide +kernel
theorem dX6_isGood_38 : decode cX6_isGood 38 = .ok (.ireturn, 1) := by decide +kernel
theorem dX6_isGood_39 : decode cX6_isGood 39 = .ok (.iload_n 2, 1) := by decide +kernel
theorem dX6_isGood_40 : decode cX6_isGood 40 = .ok (.bipush 59, 2) := by decide +kernel
theorem dX6_isGood_42 : decode cX6_isGood 42 = .ok (.if_icmp .ne 16, 3) := by decide +kernel
theorem dX6_isGood_45 : decode cX6_isGood 45 = .ok (.iload_n 1, 1) := by decide +kernel
theorem dX6_isGood_46 : decode cX6_isGood 46 = .ok (.bipush 6, 2) := by decide +kernel
theorem dX6_isGood_48 : decode cX6_isGood 48 = .ok (.if_icmp .le 10, 3) := by decide +kernel
theorem dX6_isGood_51 : decode cX6_isGood 51 = .ok (.aload_n 0, 1) := by decide +kernel
theorem dX6_isGood_52 : decode cX6_isGood 52 = .ok (.iload_n 1, 1) := by decide +kernel
theorem dX6_isGood_53 : decode cX6_isGood 53 = .ok (.putfield 56, 3) := by decide +kernel
theorem dX6_isGood_56 : decode cX6_isGood 56 = .ok (.iconst 1, 1) := by decide +kernel
theorem dX6_isGood_57 : decode cX6_isGood 57 = .ok (.ireturn, 1) := by decide +kernel
theorem dX6_isGood_58 : decode cX6_isGood 58 = .ok (.iload_n 2, 1) := by decide +kernel
theorem dX6_isGood_59 : decode cX6_isGood 59 = .ok (.bipush 44, 2) := by decide +kernel
theorem dX6_isGood_61 : decode cX6_isGood 61 = .ok (.if_icmp .ne 13, 3) := by decide +kernel
theorem dX6_isGood_64 : decode cX6_isGood 64 = .ok (.iload_n 1, 1) := by decide +kernel
theorem dX6_isGood_65 : decode cX6_isGood 65 = .ok (.bipush 19, 2) := by decide +kernel
theorem dX6_isGood_67 : decode cX6_isGood 67 = .ok (.if_icmp .ge 7, 3) := by decide +kernel
theorem dX6_isGood_70 : decode cX6_isGood 70 = .ok (.iconst 1, 1) := by decide +kernel
theorem dX6_isGood_71 : decode cX6_isGood 71 = .ok (.goto 4, 3) := by decide +kernel
theorem dX6_isGood_74 : decode cX6_isGood 74 = .ok (.iconst 0, 1) := by decide +kernel
theorem dX6_isGood_75 : decode cX6_isGood 75 = .ok (.ireturn, 1) := by decide +kernel
theorem dX6_isGood_76 : decode cX6_isGood 76 = .ok (.iload_n 1, 1) := by decide +kernel
theorem dX6_isGood_77 : decode cX6_isGood 77 = .ok (.aload_n 0, 1) := by decide +kernel
theorem dX6_isGood_78 : decode cX6_isGood 78 = .ok (.getfield 56, 3) := by decide +kernel
theorem dX6_isGood_81 : decode cX6_isGood 81 = .ok (.isub, 1) := by decide +kernel
theorem dX6_isGood_82 : decode cX6_isGood 82 = .ok (.iconst 1, 1) := by decide +kernel
theorem dX6_isGood_83 : decode cX6_isGood 83 = .ok (.isub, 1) := by decide +kernel
theorem dX6_isGood_84 : decode cX6_isGood 84 = .ok (.istore_n 3, 1) := by decide +kernel
theorem dX6_isGood_85 : decode cX6_isGood 85 = .ok (.iload_n 3, 1) := by decide +kernel
theorem dX6_isGood_86 : decode cX6_isGood 86 = .ok (.iconst 5, 1) := by decide +kernel
theorem dX6_isGood_87 : decode cX6_isGood 87 = .ok (.irem, 1) := by decide +kernel
theorem dX6_isGood_88 : decode cX6_isGood 88 = .ok (.ifCond .ne 17, 3) := by decide +kernel
theorem dX6_isGood_91 : decode cX6_isGood 91 = .ok (.iload_n 2, 1) := by decide +kernel
theorem dX6_isGood_92 : decode cX6_isGood 92 = .ok (.invokestatic 63, 3) := by decide +kernel
theorem dX6_isGood_95 : decode cX6_isGood 95 = .ok (.iconst (-1), 1) := by decide +kernel
theorem dX6_isGood_96 : decode cX6_isGood 96 = .ok (.if_icmp .eq 7, 3) := by decide +kernel
theorem dX6_isGood_99 : decode cX6_isGood 99 = .ok (.iconst 1, 1) := by decide +kernel
theorem dX6_isGood_100 : decode cX6_isGood 100 = .ok (.goto 4, 3) := by decide +kernel
theorem dX6_isGood_103 : decode cX6_isGood 103 = .ok (.iconst 0, 1) := by decide +kernel
theorem dX6_isGood_104 : decode cX6_isGood 104 = .ok (.ireturn, 1) := by decide +kernel
theorem dX6_isGood_105 : decode cX6_isGood 105 = .ok (.iload_n 3, 1) := by decide +kernel
theorem dX6_isGood_106 : decode cX6_isGood 106 = .ok (.iconst 5, 1) := by decide +kernel
theorem dX6_isGood_107 : decode cX6_isGood 107 = .ok (.irem, 1) := by decide +kernel
theorem dX6_isGood_108 : decode cX6_isGood 108 = .ok (.iconst 4, 1) := by decide +kernel
theorem dX6_isGood_109 : decode cX6_isGood 109 = .ok (.if_icmp .ne 23, 3) := by decide +kernel
theorem dX6_isGood_112 : decode cX6_isGood 112 = .ok (.iload_n 2, 1) := by decide +kernel
theorem dX6_isGood_113 : decode cX6_isGood 113 = .ok (.bipush 44, 2) := by decide +kernel
theorem dX6_isGood_115 : decode cX6_isGood 115 = .ok (.if_icmp .ne 13, 3) := by decide +kernel
theorem dX6_isGood_118 : decode cX6_isGood 118 = .ok (.iload_n 3, 1) := by decide +kernel
theorem dX6_isGood_119 : decode cX6_isGood 119 = .ok (.bipush 14, 2) := by decide +kernel
theorem dX6_isGood_121 : decode cX6_isGood 121 = .ok (.if_icmp .ge 7, 3) := by decide +kernel
theorem dX6_isGood_124 : decode cX6_isGood 124 = .ok (.iconst 1, 1) := by decide +kernel
theorem dX6_isGood_125 : decode cX6_isGood 125 = .ok (.goto 25, 3) := by decide +kernel
theorem dX6_isGood_128 : decode cX6_isGood 128 = .ok (.iconst 0, 1) := by decide +kernel
theorem dX6_isGood_129 : decode cX6_isGood 129 = .ok (.goto 21, 3) := by decide +kernel
theorem dX6_isGood_132 : decode cX6_isGood 132 = .ok (.iload_n 2, 1) := by decide +kernel
theorem dX6_isGood_133 : decode cX6_isGood 133 = .ok (.bipush 48, 2) := by decide +kernel
theorem dX6_isGood_135 : decode cX6_isGood 135 = .ok (.isub, 1) := by decide +kernel
theorem dX6_isGood_136 : decode cX6_isGood 136 = .ok (.i2l, 1) := by decide +kernel
theorem dX6_isGood_137 : decode cX6_isGood 137 = .ok (.lconst 0, 1) := by decide +kernel
theorem dX6_isGood_138 : decode cX6_isGood 138 = .ok (.iload_n 3, 1) := by decide +kernel
theorem dX6_isGood_139 : decode cX6_isGood 139 = .ok (.iconst 5, 1) := by decide +kernel
theorem dX6_isGood_140 : decode cX6_isGood 140 = .ok (.irem, 1) := by decide +kernel
theorem dX6_isGood_141 : decode cX6_isGood 141 = .ok (.iconst 1, 1) := by decide +kernel
theorem dX6_isGood_142 : decode cX6_isGood 142 = .ok (.isub, 1) := by decide +kernel
theorem dX6_isGood_143 : decode cX6_isGood 143 = .ok (.invokestatic 59, 3) := by decide +kernel
theorem dX6_isGood_146 : decode cX6_isGood 146 = .ok (.i2l, 1) := by decide +kernel
theorem dX6_isGood_147 : decode cX6_isGood 147 = .ok (.invokestatic 49, 3) := by decide +kernel
theorem dX6_isGood_150 : decode cX6_isGood 150 = .ok (.ireturn, 1) := by decide +kernel
theorem dX6_faultOf_0 : decode cX6_faultOf 0 = .ok (.aload_n 0, 1) := by decide +kernel
theorem dX6_faultOf_1 : decode cX6_faultOf 1 = .ok (.iconst (-1), 1) := by decide +kernel
theorem dX6_faultOf_2 : decode cX6_faultOf 2 = .ok (.putfield 56, 3) := by decide +kernel
theorem dX6_faultOf_5 : decode cX6_faultOf 5 = .ok (.iconst 0, 1) := by decide +kernel
theorem dX6_faultOf_6 : decode cX6_faultOf 6 = .ok (.istore_n 1, 1) := by decide +kernel
theorem dX6_faultOf_7 : decode cX6_faultOf 7 = .ok (.iload_n 1, 1) := by decide +kernel
theorem dX6_faultOf_8 : decode cX6_faultOf 8 = .ok (.aload_n 0, 1) := by decide +kernel
theorem dX6_faultOf_9 : decode cX6_faultOf 9 = .ok (.getfield 53, 3) := by decide +kernel
theorem dX6_faultOf_12 : decode cX6_faultOf 12 = .ok (.if_icmp .ge 17, 3) := by decide +kernel
theorem dX6_faultOf_15 : decode cX6_faultOf 15 = .ok (.aload_n 0, 1) := by decide +kernel
theorem dX6_faultOf_16 : decode cX6_faultOf 16 = .ok (.iload_n 1, 1) := by decide +kernel
theorem dX6_faultOf_17 : decode cX6_faultOf 17 = .ok (.invokevirtual 66, 3) := by decide +kernel
theorem dX6_faultOf_20 : decode cX6_faultOf 20 = .ok (.ifCond .eq 9, 3) := by decide +kernel
theorem dX6_faultOf_23 : decode cX6_faultOf 23 = .ok (.iinc 1 1, 3) := by decide +kernel
theorem dX6_faultOf_26 : decode cX6_faultOf 26 = .ok (.goto (-19), 3) := by decide +kernel
theorem dX6_faultOf_29 : decode cX6_faultOf 29 = .ok (.iload_n 1, 1) := by decide +kernel
theorem dX6_faultOf_30 : decode cX6_faultOf 30 = .ok (.ireturn, 1) := by decide +kernel
theorem dX6_fault_0 : decode cX6_fault 0 = .ok (.aload_n 0, 1) := by decide +kernel
theorem dX6_fault_1 : decode cX6_fault 1 = .ok (.invokevirtual 70, 3) := by decide +kernel
theorem dX6_fault_4 : decode cX6_fault 4 = .ok (.ireturn, 1) := by decide +kernel
theorem dX6_tent_0 : decode cX6_tent 0 = .ok (.aload_n 0, 1) := by decide +kernel
theorem dX6_tent_1 : decode cX6_tent 1 = .ok (.invokevirtual 70, 3) := by decide +kernel
theorem dX6_tent_4 : decode cX6_tent 4 = .ok (.aload_n 0, 1) := by decide +kernel
theorem dX6_tent_5 : decode cX6_tent 5 = .ok (.getfield 53, 3) := by decide +kernel
theorem dX6_tent_8 : decode cX6_tent 8 = .ok (.if_icmp .lt 25, 3) := by decide +kernel
theorem dX6_tent_11 : decode cX6_tent 11 = .ok (.aload_n 0, 1) := by decide +kernel
theorem dX6_tent_12 : decode cX6_tent 12 = .ok (.getfield 56, 3) := by decide +kernel
theorem dX6_tent_15 : decode cX6_tent 15 = .ok (.iconst (-1), 1) := by decide +kernel
theorem dX6_tent_16 : decode cX6_tent 16 = .ok (.if_icmp .eq 17, 3) := by decide +kernel
theorem dX6_tent_19 : decode cX6_tent 19 = .ok (.aload_n 0, 1) := by decide +kernel
theorem dX6_tent_20 : decode cX6_tent 20 = .ok (.getfield 53, 3) := by decide +kernel
theorem dX6_tent_23 : decode cX6_tent 23 = .ok (.aload_n 0, 1) := by decide +kernel
theorem dX6_tent_24 : decode cX6_tent 24 = .ok (.getfield 56, 3) := by decide +kernel
theorem dX6_tent_27 : decode cX6_tent 27 = .ok (.isub, 1) := by decide +kernel
theorem dX6_tent_28 : decode cX6_tent 28 = .ok (.iconst 5, 1) := by decide +kernel
theorem dX6_tent_29 : decode cX6_tent 29 = .ok (.irem, 1) := by decide +kernel
theorem dX6_tent_30 : decode cX6_tent 30 = .ok (.ifCond .eq 6, 3) := by decide +kernel
theorem dX6_tent_33 : decode cX6_tent 33 = .ok (.bipush (-103), 2) := by decide +kernel
theorem dX6_tent_35 : decode cX6_tent 35 = .ok (.ireturn, 1) := by decide +kernel
theorem dX6_tent_36 : decode cX6_tent 36 = .ok (.aload_n 0, 1) := by decide +kernel
theorem dX6_tent_37 : decode cX6_tent 37 = .ok (.aload_n 0, 1) := by decide +kernel
theorem dX6_tent_38 : decode cX6_tent 38 = .ok (.getfield 56, 3) := by decide +kernel
theorem dX6_tent_41 : decode cX6_tent 41 = .ok (.iconst 1, 1) := by decide +kernel
theorem dX6_tent_42 : decode cX6_tent 42 = .ok (.iadd, 1) := by decide +kernel
theorem dX6_tent_43 : decode cX6_tent 43 = .ok (.iconst 4, 1) := by decide +kernel
theorem dX6_tent_44 : decode cX6_tent 44 = .ok (.idiv, 1) := by decide +kernel
theorem dX6_tent_45 : decode cX6_tent 45 = .ok (.putfield 74, 3) := by decide +kernel
theorem dX6_tent_48 : decode cX6_tent 48 = .ok (.iconst 0, 1) := by decide +kernel
theorem dX6_tent_49 : decode cX6_tent 49 = .ok (.istore_n 1, 1) := by decide +kernel
theorem dX6_tent_50 : decode cX6_tent 50 = .ok (.iload_n 1, 1) := by decide +kernel
theorem dX6_tent_51 : decode cX6_tent 51 = .ok (.aload_n 0, 1) := by decide +kernel
theorem dX6_tent_52 : decode cX6_tent 52 = .ok (.getfield 74, 3) := by decide +kernel
theorem dX6_tent_55 : decode cX6_tent 55 = .ok (.if_icmp .ge 56, 3) := by decide +kernel
theorem dX6_tent_58 : decode cX6_tent 58 = .ok (.iconst 0, 1) := by decide +kernel
theorem dX6_tent_59 : decode cX6_tent 59 = .ok (.istore_n 2, 1) := by decide +kernel
theorem dX6_tent_60 : decode cX6_tent 60 = .ok (.iload_n 2, 1) := by decide +kernel
theorem dX6_tent_61 : decode cX6_tent 61 = .ok (.iconst 3, 1) := by decide +kernel
theorem dX6_tent_62 : decode cX6_tent 62 = .ok (.if_icmp .ge 32, 3) := by decide +kernel
theorem dX6_tent_65 : decode cX6_tent 65 = .ok (.aload_n 0, 1) := by decide +kernel
theorem dX6_tent_66 : decode cX6_tent 66 = .ok (.getfield 13, 3) := by decide +kernel
theorem dX6_tent_69 : decode cX6_tent 69 = .ok (.iconst 4, 1) := by decide +kernel
theorem dX6_tent_70 : decode cX6_tent 70 = .ok (.iload_n 1, 1) := by decide +kernel
theorem dX6_tent_71 : decode cX6_tent 71 = .ok (.imul, 1) := by decide +kernel
theorem dX6_tent_72 : decode cX6_tent 72 = .ok (.iload_n 2, 1) := by decide +kernel
theorem dX6_tent_73 : decode cX6_tent 73 = .ok (.iadd, 1) := by decide +kernel
theorem dX6_tent_74 : decode cX6_tent 74 = .ok (.aload_n 0, 1) := by decide +kernel
theorem dX6_tent_75 : decode cX6_tent 75 = .ok (.getfield 7, 3) := by decide +kernel
theorem dX6_tent_78 : decode cX6_tent 78 = .ok (.iconst 4, 1) := by decide +kernel
theorem dX6_tent_79 : decode cX6_tent 79 = .ok (.iload_n 1, 1) := by decide +kernel
theorem dX6_tent_80 : decode cX6_tent 80 = .ok (.imul, 1) := by decide +kernel
theorem dX6_tent_81 : decode cX6_tent 81 = .ok (.iload_n 2, 1) := by decide +kernel
theorem dX6_tent_82 : decode cX6_tent 82 = .ok (.iadd, 1) := by decide +kernel
theorem dX6_tent_83 : decode cX6_tent 83 = .ok (.iaload, 1) := by decide +kernel
theorem dX6_tent_84 : decode cX6_tent 84 = .ok (.bipush 48, 2) := by decide +kernel
theorem dX6_tent_86 : decode cX6_tent 86 = .ok (.isub, 1) := by decide +kernel
theorem dX6_tent_87 : decode cX6_tent 87 = .ok (.iastore, 1) := by decide +kernel
theorem dX6_tent_88 : decode cX6_tent 88 = .ok (.iinc 2 1, 3) := by decide +kernel
theorem dX6_tent_91 : decode cX6_tent 91 = .ok (.goto (-31), 3) := by decide +kernel
theorem dX6_tent_94 : decode cX6_tent 94 = .ok (.aload_n 0, 1) := by decide +kernel
theorem dX6_tent_95 : decode cX6_tent 95 = .ok (.getfield 13, 3) := by decide +kernel
theorem dX6_tent_98 : decode cX6_tent 98 = .ok (.iconst 4, 1) := by decide +kernel
theorem dX6_tent_99 : decode cX6_tent 99 = .ok (.iload_n 1, 1) := by decide +kernel
theorem dX6_tent_100 : decode cX6_tent 100 = .ok (.imul, 1) := by decide +kernel
theorem dX6_tent_101 : decode cX6_tent 101 = .ok (.iconst 3, 1) := by decide +kernel
theorem dX6_tent_102 : decode cX6_tent 102 = .ok (.iadd, 1) := by decide +kernel
theorem dX6_tent_103 : decode cX6_tent 103 = .ok (.iconst (-1), 1) := by decide +kernel
theorem dX6_tent_104 : decode cX6_tent 104 = .ok (.iastore, 1) := by decide +kernel
theorem dX6_tent_105 : decode cX6_tent 105 = .ok (.iinc 1 1, 3) := by decide +kernel
theorem dX6_tent_108 : decode cX6_tent 108 = .ok (.goto (-58), 3) := by decide +kernel
theorem dX6_tent_111 : decode cX6_tent 111 = .ok (.aload_n 0, 1) := by decide +kernel
theorem dX6_tent_112 : decode cX6_tent 112 = .ok (.aload_n 0, 1) := by decide +kernel
theorem dX6_tent_113 : decode cX6_tent 113 = .ok (.getfield 53, 3) := by decide +kernel
theorem dX6_tent_116 : decode cX6_tent 116 = .ok (.aload_n 0, 1) := by decide +kernel
theorem dX6_tent_117 : decode cX6_tent 117 = .ok (.getfield 56, 3) := by decide +kernel
theorem dX6_tent_120 : decode cX6_tent 120 = .ok (.isub, 1) := by decide +kernel
theorem dX6_tent_121 : decode cX6_tent 121 = .ok (.iconst 5, 1) := by decide +kernel
theorem dX6_tent_122 : decode cX6_tent 122 = .ok (.idiv, 1) := by decide +kernel
theorem dX6_tent_123 : decode cX6_tent 123 = .ok (.putfield 77, 3) := by decide +kernel
theorem dX6_tent_126 : decode cX6_tent 126 = .ok (.iconst 0, 1) := by decide +kernel
theorem dX6_tent_127 : decode cX6_tent 127 = .ok (.istore_n 1, 1) := by decide +kernel
theorem dX6_tent_128 : decode cX6_tent 128 = .ok (.iload_n 1, 1) := by decide +kernel
theorem dX6_tent_129 : decode cX6_tent 129 = .ok (.aload_n 0, 1) := by decide +kernel
theorem dX6_tent_130 : decode cX6_tent 130 = .ok (.getfield 77, 3) := by decide +kernel
theorem dX6_tent_133 : decode cX6_tent 133 = .ok (.if_icmp .ge 86, 3) := by decide +kernel
theorem dX6_tent_136 : decode cX6_tent 136 = .ok (.aload_n 0, 1) := by decide +kernel
theorem dX6_tent_137 : decode cX6_tent 137 = .ok (.getfield 56, 3) := by decide +kernel
theorem dX6_tent_140 : decode cX6_tent 140 = .ok (.iconst 1, 1) := by decide +kernel
theorem dX6_tent_141 : decode cX6_tent 141 = .ok (.iadd, 1) := by decide +kernel
theorem dX6_tent_142 : decode cX6_tent 142 = .ok (.iconst 5, 1) := by decide +kernel
theorem dX6_tent_143 : decode cX6_tent 143 = .ok (.iload_n 1, 1) := by decide +kernel
theorem dX6_tent_144 : decode cX6_tent 144 = .ok (.imul, 1) := by decide +kernel
theorem dX6_tent_145 : decode cX6_tent 145 = .ok (.iadd, 1) := by decide +kernel
theorem dX6_tent_146 : decode cX6_tent 146 = .ok (.istore_n 2, 1) := by decide +kernel
theorem dX6_tent_147 : decode cX6_tent 147 = .ok (.aload_n 0, 1) := by decide +kernel
theorem dX6_tent_148 : decode cX6_tent 148 = .ok (.getfield 16, 3) := by decide +kernel
theorem dX6_tent_151 : decode cX6_tent 151 = .ok (.iconst 5, 1) := by decide +kernel
theorem dX6_tent_152 : decode cX6_tent 152 = .ok (.iload_n 1, 1) := by decide +kernel
theorem dX6_tent_153 : decode cX6_tent 153 = .ok (.imul, 1) := by decide +kernel
theorem dX6_tent_154 : decode cX6_tent 154 = .ok (.iconst 3, 1) := by decide +kernel
theorem dX6_tent_155 : decode cX6_tent 155 = .ok (.iadd, 1) := by decide +kernel
theorem dX6_tent_156 : decode cX6_tent 156 = .ok (.aload_n 0, 1) := by decide +kernel
theorem dX6_tent_157 : decode cX6_tent 157 = .ok (.getfield 7, 3) := by decide +kernel
theorem dX6_tent_160 : decode cX6_tent 160 = .ok (.iload_n 2, 1) := by decide +kernel
theorem dX6_tent_161 : decode cX6_tent 161 = .ok (.iaload, 1) := by decide +kernel
theorem dX6_tent_162 : decode cX6_tent 162 = .ok (.invokestatic 63, 3) := by decide +kernel
theorem dX6_tent_165 : decode cX6_tent 165 = .ok (.iastore, 1) := by decide +kernel
theorem dX6_tent_166 : decode cX6_tent 166 = .ok (.iconst 0, 1) := by decide +kernel
theorem dX6_tent_167 : decode cX6_tent 167 = .ok (.istore_n 3, 1) := by decide +kernel
theorem dX6_tent_168 : decode cX6_tent 168 = .ok (.iload_n 3, 1) := by decide +kernel
theorem dX6_tent_169 : decode cX6_tent 169 = .ok (.iconst 3, 1) := by decide +kernel
theorem dX6_tent_170 : decode cX6_tent 170 = .ok (.if_icmp .ge 32, 3) := by decide +kernel
theorem dX6_tent_173 : decode cX6_tent 173 = .ok (.aload_n 0, 1) := by decide +kernel
theorem dX6_tent_174 : decode cX6_tent 174 = .ok (.getfield 16, 3) := by decide +kernel
theorem dX6_tent_177 : decode cX6_tent 177 = .ok (.iconst 5, 1) := by decide +kernel
theorem dX6_tent_178 : decode cX6_tent 178 = .ok (.iload_n 1, 1) := by decide +kernel
theorem dX6_tent_179 : decode cX6_tent 179 = .ok (.imul, 1) := by decide +kernel
theorem dX6_tent_180 : decode cX6_tent 180 = .ok (.iload_n 3, 1) := by decide +kernel
theorem dX6_tent_181 : decode cX6_tent 181 = .ok (.iadd, 1) := by decide +kernel
theorem dX6_tent_182 : decode cX6_tent 182 = .ok (.aload_n 0, 1) := by decide +kernel
theorem dX6_tent_183 : decode cX6_tent 183 = .ok (.getfield 7, 3) := by decide +kernel
theorem dX6_tent_186 : decode cX6_tent 186 = .ok (.iload_n 2, 1) := by decide +kernel
theorem dX6_tent_187 : decode cX6_tent 187 = .ok (.iconst 1, 1) := by decide +kernel
theorem dX6_tent_188 : decode cX6_tent 188 = .ok (.iadd, 1) := by decide +kernel
theorem dX6_tent_189 : decode cX6_tent 189 = .ok (.iload_n 3, 1) := by decide +kernel
theorem dX6_tent_190 : decode cX6_tent 190 = .ok (.iadd, 1) := by decide +kernel
theorem dX6_tent_191 : decode cX6_tent 191 = .ok (.iaload, 1) := by decide +kernel
theorem dX6_tent_192 : decode cX6_tent 192 = .ok (.bipush 48, 2) := by decide +kernel
theorem dX6_tent_194 : decode cX6_tent 194 = .ok (.isub, 1) := by decide +kernel
theorem dX6_tent_195 : decode cX6_tent 195 = .ok (.iastore, 1) := by decide +kernel
theorem dX6_tent_196 : decode cX6_tent 196 = .ok (.iinc 3 1, 3) := by decide +kernel
theorem dX6_tent_199 : decode cX6_tent 199 = .ok (.goto (-31), 3) := by decide +kernel
theorem dX6_tent_202 : decode cX6_tent 202 = .ok (.aload_n 0, 1) := by decide +kernel
theorem dX6_tent_203 : decode cX6_tent 203 = .ok (.getfield 16, 3) := by decide +kernel
theorem dX6_tent_206 : decode cX6_tent 206 = .ok (.iconst 5, 1) := by decide +kernel
theorem dX6_tent_207 : decode cX6_tent 207 = .ok (.iload_n 1, 1) := by decide +kernel
theorem dX6_tent_208 : decode cX6_tent 208 = .ok (.imul, 1) := by decide +kernel
theorem dX6_tent_209 : decode cX6_tent 209 = .ok (.iconst 4, 1) := by decide +kernel
theorem dX6_tent_210 : decode cX6_tent 210 = .ok (.iadd, 1) := by decide +kernel
theorem dX6_tent_211 : decode cX6_tent 211 = .ok (.iconst (-1), 1) := by decide +kernel
theorem dX6_tent_212 : decode cX6_tent 212 = .ok (.iastore, 1) := by decide +kernel
theorem dX6_tent_213 : decode cX6_tent 213 = .ok (.iinc 1 1, 3) := by decide +kernel
theorem dX6_tent_216 : decode cX6_tent 216 = .ok (.goto (-88), 3) := by decide +kernel
theorem dX6_tent_219 : decode cX6_tent 219 = .ok (.aload_n 0, 1) := by decide +kernel
theorem dX6_tent_220 : decode cX6_tent 220 = .ok (.iconst 0, 1) := by decide +kernel
theorem dX6_tent_221 : decode cX6_tent 221 = .ok (.putfield 80, 3) := by decide +kernel
theorem dX6_tent_224 : decode cX6_tent 224 = .ok (.aload_n 0, 1) := by decide +kernel
theorem dX6_tent_225 : decode cX6_tent 225 = .ok (.iconst 0, 1) := by decide +kernel
theorem dX6_tent_226 : decode cX6_tent 226 = .ok (.putfield 83, 3) := by decide +kernel
theorem dX6_tent_229 : decode cX6_tent 229 = .ok (.aload_n 0, 1) := by decide +kernel
theorem dX6_tent_230 : decode cX6_tent 230 = .ok (.iconst 0, 1) := by decide +kernel
theorem dX6_tent_231 : decode cX6_tent 231 = .ok (.putfield 86, 3) := by decide +kernel
theorem dX6_tent_234 : decode cX6_tent 234 = .ok (.aload_n 0, 1) := by decide +kernel
theorem dX6_tent_235 : decode cX6_tent 235 = .ok (.iconst 0, 1) := by decide +kernel
theorem dX6_tent_236 : decode cX6_tent 236 = .ok (.putfield 89, 3) := by decide +kernel
theorem dX6_tent_239 : decode cX6_tent 239 = .ok (.aload_n 0, 1) := by decide +kernel
theorem dX6_tent_240 : decode cX6_tent 240 = .ok (.dup, 1) := by decide +kernel
theorem dX6_tent_241 : decode cX6_tent 241 = .ok (.getfield 92, 3) := by decide +kernel
theorem dX6_tent_244 : decode cX6_tent 244 = .ok (.iconst 1, 1) := by decide +kernel
theorem dX6_tent_245 : decode cX6_tent 245 = .ok (.iadd, 1) := by decide +kernel
theorem dX6_tent_246 : decode cX6_tent 246 = .ok (.putfield 92, 3) := by decide +kernel
theorem dX6_tent_249 : decode cX6_tent 249 = .ok (.aload_n 0, 1) := by decide +kernel
theorem dX6_tent_250 : decode cX6_tent 250 = .ok (.iconst 0, 1) := by decide +kernel
theorem dX6_tent_251 : decode cX6_tent 251 = .ok (.putfield 53, 3) := by decide +kernel
theorem dX6_tent_254 : decode cX6_tent 254 = .ok (.aload_n 0, 1) := by decide +kernel
theorem dX6_tent_255 : decode cX6_tent 255 = .ok (.getfield 74, 3) := by decide +kernel
theorem dX6_tent_258 : decode cX6_tent 258 = .ok (.ireturn, 1) := by decide +kernel
theorem dX6_lacks_0 : decode cX6_lacks 0 = .ok (.aload_n 0, 1) := by decide +kernel
theorem dX6_lacks_1 : decode cX6_lacks 1 = .ok (.getfield 74, 3) := by decide +kernel
theorem dX6_lacks_4 : decode cX6_lacks 4 = .ok (.ifCond .ne 7, 3) := by decide +kernel
theorem dX6_lacks_7 : decode cX6_lacks 7 = .ok (.iconst 1, 1) := by decide +kernel
theorem dX6_lacks_8 : decode cX6_lacks 8 = .ok (.goto 4, 3) := by decide +kernel
theorem dX6_lacks_11 : decode cX6_lacks 11 = .ok (.iconst 0, 1) := by decide +kernel
theorem dX6_lacks_12 : decode cX6_lacks 12 = .ok (.ireturn, 1) := by decide +kernel
theorem dX6_isThing_0 : decode cX6_isThing 0 = .ok (.iload_n 1, 1) := by decide +kernel
theorem dX6_isThing_1 : decode cX6_isThing 1 = .ok (.i2l, 1) := by decide +kernel
theorem dX6_isThing_2 : decode cX6_isThing 2 = .ok (.lconst 0, 1) := by decide +kernel
theorem dX6_isThing_3 : decode cX6_isThing 3 = .ok (.aload_n 0, 1) := by decide +kernel
theorem dX6_isThing_4 : decode cX6_isThing 4 = .ok (.getfield 74, 3) := by decide +kernel
theorem dX6_isThing_7 : decode cX6_isThing 7 = .ok (.iconst 1, 1) := by decide +kernel
theorem dX6_isThing_8 : decode cX6_isThing 8 = .ok (.isub, 1) := by decide +kernel
theorem dX6_isThing_9 : decode cX6_isThing 9 = .ok (.i2l, 1) := by decide +kernel
theorem dX6_isThing_10 : decode cX6_isThing 10 = .ok (.invokestatic 49, 3) := by decide +kernel
theorem dX6_isThing_13 : decode cX6_isThing 13 = .ok (.ireturn, 1) := by decide +kernel
theorem dX6_isClaimer_0 : decode cX6_isClaimer 0 = .ok (.iload_n 1, 1) := by decide +kernel
theorem dX6_isClaimer_1 : decode cX6_isClaimer 1 = .ok (.i2l, 1) := by decide +kernel
theorem dX6_isClaimer_2 : decode cX6_isClaimer 2 = .ok (.lconst 0, 1) := by decide +kernel
theorem dX6_isClaimer_3 : decode cX6_isClaimer 3 = .ok (.aload_n 0, 1) := by decide +kernel
theorem dX6_isClaimer_4 : decode cX6_isClaimer 4 = .ok (.getfield 77, 3) := by decide +kernel
theorem dX6_isClaimer_7 : decode cX6_isClaimer 7 = .ok (.iconst 1, 1) := by decide +kernel
theorem dX6_isClaimer_8 : decode cX6_isClaimer 8 = .ok (.isub, 1) := by decide +kernel
theorem dX6_isClaimer_9 : decode cX6_isClaimer 9 = .ok (.i2l, 1) := by decide +kernel
theorem dX6_isClaimer_10 : decode cX6_isClaimer 10 = .ok (.invokestatic 49, 3) := by decide +kernel
theorem dX6_isClaimer_13 : decode cX6_isClaimer 13 = .ok (.ireturn, 1) := by decide +kernel
theorem dX6_wrongIn_0 : decode cX6_wrongIn 0 = .ok (.aload_n 0, 1) := by decide +kernel
theorem dX6_wrongIn_1 : decode cX6_wrongIn 1 = .ok (.getfield 16, 3) := by decide +kernel
theorem dX6_wrongIn_4 : decode cX6_wrongIn 4 = .ok (.iconst 5, 1) := by decide +kernel
theorem dX6_wrongIn_5 : decode cX6_wrongIn 5 = .ok (.iload_n 2, 1) := by decide +kernel
theorem dX6_wrongIn_6 : decode cX6_wrongIn 6 = .ok (.imul, 1) := by decide +kernel
theorem dX6_wrongIn_7 : decode cX6_wrongIn 7 = .ok (.iconst 3, 1) := by decide +kernel
theorem dX6_wrongIn_8 : decode cX6_wrongIn 8 = .ok (.iadd, 1) := by decide +kernel
theorem dX6_wrongIn_9 : decode cX6_wrongIn 9 = .ok (.iaload, 1) := by decide +kernel
theorem dX6_wrongIn_10 : decode cX6_wrongIn 10 = .ok (.istore 4, 2) := by decide +kernel
theorem dX6_wrongIn_12 : decode cX6_wrongIn 12 = .ok (.aload_n 0, 1) := by decide +kernel
theorem dX6_wrongIn_13 : decode cX6_wrongIn 13 = .ok (.getfield 13, 3) := by decide +kernel
theorem dX6_wrongIn_16 : decode cX6_wrongIn 16 = .ok (.iconst 4, 1) := by decide +kernel
theorem dX6_wrongIn_17 : decode cX6_wrongIn 17 = .ok (.iload_n 1, 1) := by decide +kernel
theorem dX6_wrongIn_18 : decode cX6_wrongIn 18 = .ok (.imul, 1) := by decide +kernel
theorem dX6_wrongIn_19 : decode cX6_wrongIn 19 = .ok (.iconst 2, 1) := by decide +kernel
theorem dX6_wrongIn_20 : decode cX6_wrongIn 20 = .ok (.iadd, 1) := by decide +kernel
theorem dX6_wrongIn_21 : decode cX6_wrongIn 21 = .ok (.iaload, 1) := by decide +kernel
theorem dX6_wrongIn_22 : decode cX6_wrongIn 22 = .ok (.aload_n 0, 1) := by decide +kernel
theorem dX6_wrongIn_23 : decode cX6_wrongIn 23 = .ok (.getfield 16, 3) := by decide +kernel
theorem dX6_wrongIn_26 : decode cX6_wrongIn 26 = .ok (.iconst 5, 1) := by decide +kernel
theorem dX6_wrongIn_27 : decode cX6_wrongIn 27 = .ok (.iload_n 2, 1) := by decide +kernel
theorem dX6_wrongIn_28 : decode cX6_wrongIn 28 = .ok (.imul, 1) := by decide +kernel
theorem dX6_wrongIn_29 : decode cX6_wrongIn 29 = .ok (.iconst 2, 1) := by decide +kernel
theorem dX6_wrongIn_30 : decode cX6_wrongIn 30 = .ok (.iadd, 1) := by decide +kernel
theorem dX6_wrongIn_31 : decode cX6_wrongIn 31 = .ok (.iaload, 1) := by decide +kernel
theorem dX6_wrongIn_32 : decode cX6_wrongIn 32 = .ok (.if_icmp .ne 7, 3) := by decide +kernel
theorem dX6_wrongIn_35 : decode cX6_wrongIn 35 = .ok (.iconst 0, 1) := by decide +kernel
theorem dX6_wrongIn_36 : decode cX6_wrongIn 36 = .ok (.goto 4, 3) := by decide +kernel
theorem dX6_wrongIn_39 : decode cX6_wrongIn 39 = .ok (.iconst 1, 1) := by decide +kernel
theorem dX6_wrongIn_40 : decode cX6_wrongIn 40 = .ok (.istore 5, 2) := by decide +kernel
theorem dX6_wrongIn_42 : decode cX6_wrongIn 42 = .ok (.iload 4, 2) := by decide +kernel
theorem dX6_wrongIn_44 : decode cX6_wrongIn 44 = .ok (.iconst 3, 1) := by decide +kernel
theorem dX6_wrongIn_45 : decode cX6_wrongIn 45 = .ok (.if_icmp .ne 8, 3) := by decide +kernel
theorem dX6_wrongIn_48 : decode cX6_wrongIn 48 = .ok (.iconst 3, 1) := by decide +kernel
theorem dX6_wrongIn_49 : decode cX6_wrongIn 49 = .ok (.iload 5, 2) := by decide +kernel
theorem dX6_wrongIn_51 : decode cX6_wrongIn 51 = .ok (.imul, 1) := by decide +kernel
theorem dX6_wrongIn_52 : decode cX6_wrongIn 52 = .ok (.ireturn, 1) := by decide +kernel
theorem dX6_wrongIn_53 : decode cX6_wrongIn 53 = .ok (.iload_n 3, 1) := by decide +kernel
theorem dX6_wrongIn_54 : decode cX6_wrongIn 54 = .ok (.aload_n 0, 1) := by decide +kernel
theorem dX6_wrongIn_55 : decode cX6_wrongIn 55 = .ok (.getfield 16, 3) := by decide +kernel
theorem dX6_wrongIn_58 : decode cX6_wrongIn 58 = .ok (.iconst 5, 1) := by decide +kernel
theorem dX6_wrongIn_59 : decode cX6_wrongIn 59 = .ok (.iload_n 2, 1) := by decide +kernel
theorem dX6_wrongIn_60 : decode cX6_wrongIn 60 = .ok (.imul, 1) := by decide +kernel
theorem dX6_wrongIn_61 : decode cX6_wrongIn 61 = .ok (.iaload, 1) := by decide +kernel
theorem dX6_wrongIn_62 : decode cX6_wrongIn 62 = .ok (.isub, 1) := by decide +kernel
theorem dX6_wrongIn_63 : decode cX6_wrongIn 63 = .ok (.istore 6, 2) := by decide +kernel
theorem dX6_wrongIn_65 : decode cX6_wrongIn 65 = .ok (.iload 6, 2) := by decide +kernel
theorem dX6_wrongIn_67 : decode cX6_wrongIn 67 = .ok (.ifCond .ge 9, 3) := by decide +kernel
theorem dX6_wrongIn_70 : decode cX6_wrongIn 70 = .ok (.iload 6, 2) := by decide +kernel
theorem dX6_wrongIn_72 : decode cX6_wrongIn 72 = .ok (.ineg, 1) := by decide +kernel
theorem dX6_wrongIn_73 : decode cX6_wrongIn 73 = .ok (.goto 5, 3) := by decide +kernel
theorem dX6_wrongIn_76 : decode cX6_wrongIn 76 = .ok (.iload 6, 2) := by decide +kernel
theorem dX6_wrongIn_78 : decode cX6_wrongIn 78 = .ok (.istore 7, 2) := by decide +kernel
theorem dX6_wrongIn_80 : decode cX6_wrongIn 80 = .ok (.aload_n 0, 1) := by decide +kernel
theorem dX6_wrongIn_81 : decode cX6_wrongIn 81 = .ok (.getfield 13, 3) := by decide +kernel
theorem dX6_wrongIn_84 : decode cX6_wrongIn 84 = .ok (.iconst 4, 1) := by decide +kernel
theorem dX6_wrongIn_85 : decode cX6_wrongIn 85 = .ok (.iload_n 1, 1) := by decide +kernel
theorem dX6_wrongIn_86 : decode cX6_wrongIn 86 = .ok (.imul, 1) := by decide +kernel
theorem dX6_wrongIn_87 : decode cX6_wrongIn 87 = .ok (.iconst 1, 1) := by decide +kernel
theorem dX6_wrongIn_88 : decode cX6_wrongIn 88 = .ok (.iadd, 1) := by decide +kernel
theorem dX6_wrongIn_89 : decode cX6_wrongIn 89 = .ok (.iaload, 1) := by decide +kernel
theorem dX6_wrongIn_90 : decode cX6_wrongIn 90 = .ok (.aload_n 0, 1) := by decide +kernel
theorem dX6_wrongIn_91 : decode cX6_wrongIn 91 = .ok (.getfield 16, 3) := by decide +kernel
theorem dX6_wrongIn_94 : decode cX6_wrongIn 94 = .ok (.iconst 5, 1) := by decide +kernel
theorem dX6_wrongIn_95 : decode cX6_wrongIn 95 = .ok (.iload_n 2, 1) := by decide +kernel
theorem dX6_wrongIn_96 : decode cX6_wrongIn 96 = .ok (.imul, 1) := by decide +kernel
theorem dX6_wrongIn_97 : decode cX6_wrongIn 97 = .ok (.iconst 1, 1) := by decide +kernel
theorem dX6_wrongIn_98 : decode cX6_wrongIn 98 = .ok (.iadd, 1) := by decide +kernel
theorem dX6_wrongIn_99 : decode cX6_wrongIn 99 = .ok (.iaload, 1) := by decide +kernel
theorem dX6_wrongIn_100 : decode cX6_wrongIn 100 = .ok (.if_icmp .eq 15, 3) := by decide +kernel
theorem dX6_wrongIn_103 : decode cX6_wrongIn 103 = .ok (.iload 4, 2) := by decide +kernel
theorem dX6_wrongIn_105 : decode cX6_wrongIn 105 = .ok (.iconst 1, 1) := by decide +kernel
theorem dX6_wrongIn_106 : decode cX6_wrongIn 106 = .ok (.if_icmp .eq 9, 3) := by decide +kernel
theorem dX6_wrongIn_109 : decode cX6_wrongIn 109 = .ok (.iload 4, 2) := by decide +kernel
theorem dX6_wrongIn_111 : decode cX6_wrongIn 111 = .ok (.iconst 4, 1) := by decide +kernel
theorem dX6_wrongIn_112 : decode cX6_wrongIn 112 = .ok (.if_icmp .ne 7, 3) := by decide +kernel
theorem dX6_wrongIn_115 : decode cX6_wrongIn 115 = .ok (.iconst 0, 1) := by decide +kernel
theorem dX6_wrongIn_116 : decode cX6_wrongIn 116 = .ok (.goto 4, 3) := by decide +kernel
theorem dX6_wrongIn_119 : decode cX6_wrongIn 119 = .ok (.iconst 2, 1) := by decide +kernel
theorem dX6_wrongIn_120 : decode cX6_wrongIn 120 = .ok (.istore 8, 2) := by decide +kernel
theorem dX6_wrongIn_122 : decode cX6_wrongIn 122 = .ok (.iload 4, 2) := by decide +kernel
theorem dX6_wrongIn_124 : decode cX6_wrongIn 124 = .ok (.iconst 2, 1) := by decide +kernel
theorem dX6_wrongIn_125 : decode cX6_wrongIn 125 = .ok (.if_icmp .ne 10, 3) := by decide +kernel
theorem dX6_wrongIn_128 : decode cX6_wrongIn 128 = .ok (.iconst 3, 1) := by decide +kernel
theorem dX6_wrongIn_129 : decode cX6_wrongIn 129 = .ok (.iload 7, 2) := by decide +kernel
theorem dX6_wrongIn_131 : decode cX6_wrongIn 131 = .ok (.imul, 1) := by decide +kernel
theorem dX6_wrongIn_132 : decode cX6_wrongIn 132 = .ok (.goto 5, 3) := by decide +kernel
theorem dX6_wrongIn_135 : decode cX6_wrongIn 135 = .ok (.iload 7, 2) := by decide +kernel
theorem dX6_wrongIn_137 : decode cX6_wrongIn 137 = .ok (.iload 8, 2) := by decide +kernel
theorem dX6_wrongIn_139 : decode cX6_wrongIn 139 = .ok (.iadd, 1) := by decide +kernel
theorem dX6_wrongIn_140 : decode cX6_wrongIn 140 = .ok (.iconst 2, 1) := by decide +kernel
theorem dX6_wrongIn_141 : decode cX6_wrongIn 141 = .ok (.iload 5, 2) := by decide +kernel
theorem dX6_wrongIn_143 : decode cX6_wrongIn 143 = .ok (.imul, 1) := by decide +kernel
theorem dX6_wrongIn_144 : decode cX6_wrongIn 144 = .ok (.iadd, 1) := by decide +kernel
theorem dX6_wrongIn_145 : decode cX6_wrongIn 145 = .ok (.ireturn, 1) := by decide +kernel
theorem dX6_wrongOf_0 : decode cX6_wrongOf 0 = .ok (.aload_n 0, 1) := by decide +kernel
theorem dX6_wrongOf_1 : decode cX6_wrongOf 1 = .ok (.iload_n 1, 1) := by decide +kernel
theorem dX6_wrongOf_2 : decode cX6_wrongOf 2 = .ok (.iload_n 2, 1) := by decide +kernel
theorem dX6_wrongOf_3 : decode cX6_wrongOf 3 = .ok (.aload_n 0, 1) := by decide +kernel
theorem dX6_wrongOf_4 : decode cX6_wrongOf 4 = .ok (.getfield 13, 3) := by decide +kernel
theorem dX6_wrongOf_7 : decode cX6_wrongOf 7 = .ok (.iconst 4, 1) := by decide +kernel
theorem dX6_wrongOf_8 : decode cX6_wrongOf 8 = .ok (.iload_n 1, 1) := by decide +kernel
theorem dX6_wrongOf_9 : decode cX6_wrongOf 9 = .ok (.imul, 1) := by decide +kernel
theorem dX6_wrongOf_10 : decode cX6_wrongOf 10 = .ok (.iaload, 1) := by decide +kernel
theorem dX6_wrongOf_11 : decode cX6_wrongOf 11 = .ok (.invokevirtual 95, 3) := by decide +kernel
theorem dX6_wrongOf_14 : decode cX6_wrongOf 14 = .ok (.ireturn, 1) := by decide +kernel
theorem dX6_fitsBy_0 : decode cX6_fitsBy 0 = .ok (.iload_n 2, 1) := by decide +kernel
theorem dX6_fitsBy_1 : decode cX6_fitsBy 1 = .ok (.aload_n 0, 1) := by decide +kernel
theorem dX6_fitsBy_2 : decode cX6_fitsBy 2 = .ok (.getfield 16, 3) := by decide +kernel
theorem dX6_fitsBy_5 : decode cX6_fitsBy 5 = .ok (.iconst 5, 1) := by decide +kernel
theorem dX6_fitsBy_6 : decode cX6_fitsBy 6 = .ok (.iload_n 1, 1) := by decide +kernel
theorem dX6_fitsBy_7 : decode cX6_fitsBy 7 = .ok (.imul, 1) := by decide +kernel
theorem dX6_fitsBy_8 : decode cX6_fitsBy 8 = .ok (.iconst 3, 1) := by decide +kernel
theorem dX6_fitsBy_9 : decode cX6_fitsBy 9 = .ok (.iadd, 1) := by decide +kernel
theorem dX6_fitsBy_10 : decode cX6_fitsBy 10 = .ok (.iaload, 1) := by decide +kernel
theorem dX6_fitsBy_11 : decode cX6_fitsBy 11 = .ok (.iconst 4, 1) := by decide +kernel
theorem dX6_fitsBy_12 : decode cX6_fitsBy 12 = .ok (.if_icmp .ne 7, 3) := by decide +kernel
theorem dX6_fitsBy_15 : decode cX6_fitsBy 15 = .ok (.iconst 4, 1) := by decide +kernel
theorem dX6_fitsBy_16 : decode cX6_fitsBy 16 = .ok (.goto 4, 3) := by decide +kernel
theorem dX6_fitsBy_19 : decode cX6_fitsBy 19 = .ok (.iconst 2, 1) := by decide +kernel
theorem dX6_fitsBy_20 : decode cX6_fitsBy 20 = .ok (.if_icmp .gt 7, 3) := by decide +kernel
theorem dX6_fitsBy_23 : decode cX6_fitsBy 23 = .ok (.iconst 1, 1) := by decide +kernel
theorem dX6_fitsBy_24 : decode cX6_fitsBy 24 = .ok (.goto 4, 3) := by decide +kernel
theorem dX6_fitsBy_27 : decode cX6_fitsBy 27 = .ok (.iconst 0, 1) := by decide +kernel
theorem dX6_fitsBy_28 : decode cX6_fitsBy 28 = .ok (.ireturn, 1) := by decide +kernel
theorem dX6_fits_0 : decode cX6_fits 0 = .ok (.aload_n 0, 1) := by decide +kernel
theorem dX6_fits_1 : decode cX6_fits 1 = .ok (.iload_n 2, 1) := by decide +kernel
theorem dX6_fits_2 : decode cX6_fits 2 = .ok (.aload_n 0, 1) := by decide +kernel
theorem dX6_fits_3 : decode cX6_fits 3 = .ok (.iload_n 1, 1) := by decide +kernel
theorem dX6_fits_4 : decode cX6_fits 4 = .ok (.iload_n 2, 1) := by decide +kernel
theorem dX6_fits_5 : decode cX6_fits 5 = .ok (.invokevirtual 99, 3) := by decide +kernel
theorem dX6_fits_8 : decode cX6_fits 8 = .ok (.invokevirtual 103, 3) := by decide +kernel
theorem dX6_fits_11 : decode cX6_fits 11 = .ok (.ireturn, 1) := by decide +kernel
theorem dX6_claimersOf_0 : decode cX6_claimersOf 0 = .ok (.iconst 0, 1) := by decide +kernel
theorem dX6_claimersOf_1 : decode cX6_claimersOf 1 = .ok (.istore_n 2, 1) := by decide +kernel
theorem dX6_claimersOf_2 : decode cX6_claimersOf 2 = .ok (.iconst 0, 1) := by decide +kernel
theorem dX6_claimersOf_3 : decode cX6_claimersOf 3 = .ok (.istore_n 3, 1) := by decide +kernel
theorem dX6_claimersOf_4 : decode cX6_claimersOf 4 = .ok (.iload_n 3, 1) := by decide +kernel
theorem dX6_claimersOf_5 : decode cX6_claimersOf 5 = .ok (.aload_n 0, 1) := by decide +kernel
theorem dX6_claimersOf_6 : decode cX6_claimersOf 6 = .ok (.getfield 77, 3) := by decide +kernel
theorem dX6_claimersOf_9 : decode cX6_claimersOf 9 = .ok (.if_icmp .ge 28, 3) := by decide +kernel
theorem dX6_claimersOf_12 : decode cX6_claimersOf 12 = .ok (.iload_n 2, 1) := by decide +kernel
theorem dX6_claimersOf_13 : decode cX6_claimersOf 13 = .ok (.aload_n 0, 1) := by decide +kernel
theorem dX6_claimersOf_14 : decode cX6_claimersOf 14 = .ok (.iload_n 1, 1) := by decide +kernel
theorem dX6_claimersOf_15 : decode cX6_claimersOf 15 = .ok (.iload_n 3, 1) := by decide +kernel
theorem dX6_claimersOf_16 : decode cX6_claimersOf 16 = .ok (.invokevirtual 107, 3) := by decide +kernel
theorem dX6_claimersOf_19 : decode cX6_claimersOf 19 = .ok (.ifCond .eq 9, 3) := by decide +kernel
theorem dX6_claimersOf_22 : decode cX6_claimersOf 22 = .ok (.iconst 1, 1) := by decide +kernel
theorem dX6_claimersOf_23 : decode cX6_claimersOf 23 = .ok (.iload_n 3, 1) := by decide +kernel
theorem dX6_claimersOf_24 : decode cX6_claimersOf 24 = .ok (.ishl, 1) := by decide +kernel
theorem dX6_claimersOf_25 : decode cX6_claimersOf 25 = .ok (.goto 4, 3) := by decide +kernel
theorem dX6_claimersOf_28 : decode cX6_claimersOf 28 = .ok (.iconst 0, 1) := by decide +kernel
theorem dX6_claimersOf_29 : decode cX6_claimersOf 29 = .ok (.ior, 1) := by decide +kernel
theorem dX6_claimersOf_30 : decode cX6_claimersOf 30 = .ok (.istore_n 2, 1) := by decide +kernel
theorem dX6_claimersOf_31 : decode cX6_claimersOf 31 = .ok (.iinc 3 1, 3) := by decide +kernel
theorem dX6_claimersOf_34 : decode cX6_claimersOf 34 = .ok (.goto (-30), 3) := by decide +kernel
theorem dX6_claimersOf_37 : decode cX6_claimersOf 37 = .ok (.iload_n 2, 1) := by decide +kernel
theorem dX6_claimersOf_38 : decode cX6_claimersOf 38 = .ok (.ireturn, 1) := by decide +kernel
theorem dX6_thingsOf_0 : decode cX6_thingsOf 0 = .ok (.iconst 0, 1) := by decide +kernel
theorem dX6_thingsOf_1 : decode cX6_thingsOf 1 = .ok (.istore_n 2, 1) := by decide +kernel
theorem dX6_thingsOf_2 : decode cX6_thingsOf 2 = .ok (.iconst 0, 1) := by decide +kernel
theorem dX6_thingsOf_3 : decode cX6_thingsOf 3 = .ok (.istore_n 3, 1) := by decide +kernel
theorem dX6_thingsOf_4 : decode cX6_thingsOf 4 = .ok (.iload_n 3, 1) := by decide +kernel
theorem dX6_thingsOf_5 : decode cX6_thingsOf 5 = .ok (.aload_n 0, 1) := by decide +kernel
theorem dX6_thingsOf_6 : decode cX6_thingsOf 6 = .ok (.getfield 74, 3) := by decide +kernel
theorem dX6_thingsOf_9 : decode cX6_thingsOf 9 = .ok (.if_icmp .ge 28, 3) := by decide +kernel
theorem dX6_thingsOf_12 : decode cX6_thingsOf 12 = .ok (.iload_n 2, 1) := by decide +kernel
theorem dX6_thingsOf_13 : decode cX6_thingsOf 13 = .ok (.aload_n 0, 1) := by decide +kernel
theorem dX6_thingsOf_14 : decode cX6_thingsOf 14 = .ok (.iload_n 3, 1) := by decide +kernel
theorem dX6_thingsOf_15 : decode cX6_thingsOf 15 = .ok (.iload_n 1, 1) := by decide +kernel
theorem dX6_thingsOf_16 : decode cX6_thingsOf 16 = .ok (.invokevirtual 107, 3) := by decide +kernel
theorem dX6_thingsOf_19 : decode cX6_thingsOf 19 = .ok (.ifCond .eq 9, 3) := by decide +kernel
theorem dX6_thingsOf_22 : decode cX6_thingsOf 22 = .ok (.iconst 1, 1) := by decide +kernel
theorem dX6_thingsOf_23 : decode cX6_thingsOf 23 = .ok (.iload_n 3, 1) := by decide +kernel
theorem dX6_thingsOf_24 : decode cX6_thingsOf 24 = .ok (.ishl, 1) := by decide +kernel
theorem dX6_thingsOf_25 : decode cX6_thingsOf 25 = .ok (.goto 4, 3) := by decide +kernel
theorem dX6_thingsOf_28 : decode cX6_thingsOf 28 = .ok (.iconst 0, 1) := by decide +kernel
theorem dX6_thingsOf_29 : decode cX6_thingsOf 29 = .ok (.ior, 1) := by decide +kernel
theorem dX6_thingsOf_30 : decode cX6_thingsOf 30 = .ok (.istore_n 2, 1) := by decide +kernel
theorem dX6_thingsOf_31 : decode cX6_thingsOf 31 = .ok (.iinc 3 1, 3) := by decide +kernel
theorem dX6_thingsOf_34 : decode cX6_thingsOf 34 = .ok (.goto (-30), 3) := by decide +kernel
theorem dX6_thingsOf_37 : decode cX6_thingsOf 37 = .ok (.iload_n 2, 1) := by decide +kernel
theorem dX6_thingsOf_38 : decode cX6_thingsOf 38 = .ok (.ireturn, 1) := by decide +kernel
theorem dX6_signOf_0 : decode cX6_signOf 0 = .ok (.iconst (-1), 1) := by decide +kernel
theorem dX6_signOf_1 : decode cX6_signOf 1 = .ok (.istore_n 2, 1) := by decide +kernel
theorem dX6_signOf_2 : decode cX6_signOf 2 = .ok (.bipush 99, 2) := by decide +kernel
theorem dX6_signOf_4 : decode cX6_signOf 4 = .ok (.istore_n 3, 1) := by decide +kernel
theorem dX6_signOf_5 : decode cX6_signOf 5 = .ok (.iconst 0, 1) := by decide +kernel
theorem dX6_signOf_6 : decode cX6_signOf 6 = .ok (.istore 4, 2) := by decide +kernel
theorem dX6_signOf_8 : decode cX6_signOf 8 = .ok (.iload 4, 2) := by decide +kernel
theorem dX6_signOf_10 : decode cX6_signOf 10 = .ok (.iconst 3, 1) := by decide +kernel
theorem dX6_signOf_11 : decode cX6_signOf 11 = .ok (.if_icmp .ge 170, 3) := by decide +kernel
theorem dX6_signOf_14 : decode cX6_signOf 14 = .ok (.iconst 0, 1) := by decide +kernel
theorem dX6_signOf_15 : decode cX6_signOf 15 = .ok (.istore 5, 2) := by decide +kernel
theorem dX6_signOf_17 : decode cX6_signOf 17 = .ok (.iload 5, 2) := by decide +kernel
theorem dX6_signOf_19 : decode cX6_signOf 19 = .ok (.bipush 10, 2) := by decide +kernel
theorem dX6_signOf_21 : decode cX6_signOf 21 = .ok (.if_icmp .ge 17, 3) := by decide +kernel
theorem dX6_signOf_24 : decode cX6_signOf 24 = .ok (.aload_n 0, 1) := by decide +kernel
theorem dX6_signOf_25 : decode cX6_signOf 25 = .ok (.getfield 19, 3) := by decide +kernel
theorem dX6_signOf_28 : decode cX6_signOf 28 = .ok (.iload 5, 2) := by decide +kernel
theorem dX6_signOf_30 : decode cX6_signOf 30 = .ok (.iconst 0, 1) := by decide +kernel
theorem dX6_signOf_31 : decode cX6_signOf 31 = .ok (.iastore, 1) := by decide +kernel
theorem dX6_signOf_32 : decode cX6_signOf 32 = .ok (.iinc 5 1, 3) := by decide +kernel
theorem dX6_signOf_35 : decode cX6_signOf 35 = .ok (.goto (-18), 3) := by decide +kernel
theorem dX6_signOf_38 : decode cX6_signOf 38 = .ok (.iconst 0, 1) := by decide +kernel
theorem dX6_signOf_39 : decode cX6_signOf 39 = .ok (.istore 5, 2) := by decide +kernel
theorem dX6_signOf_41 : decode cX6_signOf 41 = .ok (.iconst 0, 1) := by decide +kernel
theorem dX6_signOf_42 : decode cX6_signOf 42 = .ok (.istore 6, 2) := by decide +kernel
theorem dX6_signOf_44 : decode cX6_signOf 44 = .ok (.iload 6, 2) := by decide +kernel
theorem dX6_signOf_46 : decode cX6_signOf 46 = .ok (.aload_n 0, 1) := by decide +kernel
theorem dX6_signOf_47 : decode cX6_signOf 47 = .ok (.getfield 74, 3) := by decide +kernel
theorem dX6_signOf_50 : decode cX6_signOf 50 = .ok (.if_icmp .ge 89, 3) := by decide +kernel
theorem dX6_signOf_53 : decode cX6_signOf 53 = .ok (.aload_n 0, 1) := by decide +kernel
theorem dX6_signOf_54 : decode cX6_signOf 54 = .ok (.getfield 13, 3) := by decide +kernel
theorem dX6_signOf_57 : decode cX6_signOf 57 = .ok (.iconst 4, 1) := by decide +kernel
theorem dX6_signOf_58 : decode cX6_signOf 58 = .ok (.iload 6, 2) := by decide +kernel
theorem dX6_signOf_60 : decode cX6_signOf 60 = .ok (.imul, 1) := by decide +kernel
theorem dX6_signOf_61 : decode cX6_signOf 61 = .ok (.iload 4, 2) := by decide +kernel
theorem dX6_signOf_63 : decode cX6_signOf 63 = .ok (.iadd, 1) := by decide +kernel
theorem dX6_signOf_64 : decode cX6_signOf 64 = .ok (.iaload, 1) := by decide +kernel
theorem dX6_signOf_65 : decode cX6_signOf 65 = .ok (.istore 7, 2) := by decide +kernel
theorem dX6_signOf_67 : decode cX6_signOf 67 = .ok (.aload_n 0, 1) := by decide +kernel
theorem dX6_signOf_68 : decode cX6_signOf 68 = .ok (.getfield 19, 3) := by decide +kernel
theorem dX6_signOf_71 : decode cX6_signOf 71 = .ok (.iload 7, 2) := by decide +kernel
theorem dX6_signOf_73 : decode cX6_signOf 73 = .ok (.dup2, 1) := by decide +kernel
theorem dX6_signOf_74 : decode cX6_signOf 74 = .ok (.iaload, 1) := by decide +kernel
theorem dX6_signOf_75 : decode cX6_signOf 75 = .ok (.aload_n 0, 1) := by decide +kernel
theorem dX6_signOf_76 : decode cX6_signOf 76 = .ok (.getfield 13, 3) := by decide +kernel
theorem dX6_signOf_79 : decode cX6_signOf 79 = .ok (.iconst 4, 1) := by decide +kernel
theorem dX6_signOf_80 : decode cX6_signOf 80 = .ok (.iload 6, 2) := by decide +kernel
theorem dX6_signOf_82 : decode cX6_signOf 82 = .ok (.imul, 1) := by decide +kernel
theorem dX6_signOf_83 : decode cX6_signOf 83 = .ok (.iconst 3, 1) := by decide +kernel
theorem dX6_signOf_84 : decode cX6_signOf 84 = .ok (.iadd, 1) := by decide +kernel
theorem dX6_signOf_85 : decode cX6_signOf 85 = .ok (.iaload, 1) := by decide +kernel
theorem dX6_signOf_86 : decode cX6_signOf 86 = .ok (.iconst (-1), 1) := by decide +kernel
theorem dX6_signOf_87 : decode cX6_signOf 87 = .ok (.if_icmp .ne 17, 3) := by decide +kernel
theorem dX6_signOf_90 : decode cX6_signOf 90 = .ok (.aload_n 0, 1) := by decide +kernel
theorem dX6_signOf_91 : decode cX6_signOf 91 = .ok (.iload 6, 2) := by decide +kernel
theorem dX6_signOf_93 : decode cX6_signOf 93 = .ok (.iload_n 1, 1) := by decide +kernel
theorem dX6_signOf_94 : decode cX6_signOf 94 = .ok (.invokevirtual 107, 3) := by decide +kernel
theorem dX6_signOf_97 : decode cX6_signOf 97 = .ok (.ifCond .eq 7, 3) := by decide +kernel
theorem dX6_signOf_100 : decode cX6_signOf 100 = .ok (.iconst 1, 1) := by decide +kernel
theorem dX6_signOf_101 : decode cX6_signOf 101 = .ok (.goto 4, 3) := by decide +kernel
theorem dX6_signOf_104 : decode cX6_signOf 104 = .ok (.iconst 0, 1) := by decide +kernel
theorem dX6_signOf_105 : decode cX6_signOf 105 = .ok (.iadd, 1) := by decide +kernel
theorem dX6_signOf_106 : decode cX6_signOf 106 = .ok (.iastore, 1) := by decide +kernel
theorem dX6_signOf_107 : decode cX6_signOf 107 = .ok (.aload_n 0, 1) := by decide +kernel
theorem dX6_signOf_108 : decode cX6_signOf 108 = .ok (.getfield 19, 3) := by decide +kernel
theorem dX6_signOf_111 : decode cX6_signOf 111 = .ok (.iload 7, 2) := by decide +kernel
theorem dX6_signOf_113 : decode cX6_signOf 113 = .ok (.iaload, 1) := by decide +kernel
theorem dX6_signOf_114 : decode cX6_signOf 114 = .ok (.iload 5, 2) := by decide +kernel
theorem dX6_signOf_116 : decode cX6_signOf 116 = .ok (.if_icmp .le 13, 3) := by decide +kernel
theorem dX6_signOf_119 : decode cX6_signOf 119 = .ok (.aload_n 0, 1) := by decide +kernel
theorem dX6_signOf_120 : decode cX6_signOf 120 = .ok (.getfield 19, 3) := by decide +kernel
theorem dX6_signOf_123 : decode cX6_signOf 123 = .ok (.iload 7, 2) := by decide +kernel
theorem dX6_signOf_125 : decode cX6_signOf 125 = .ok (.iaload, 1) := by decide +kernel
theorem dX6_signOf_126 : decode cX6_signOf 126 = .ok (.goto 5, 3) := by decide +kernel
theorem dX6_signOf_129 : decode cX6_signOf 129 = .ok (.iload 5, 2) := by decide +kernel
theorem dX6_signOf_131 : decode cX6_signOf 131 = .ok (.istore 5, 2) := by decide +kernel
theorem dX6_signOf_133 : decode cX6_signOf 133 = .ok (.iinc 6 1, 3) := by decide +kernel
theorem dX6_signOf_136 : decode cX6_signOf 136 = .ok (.goto (-92), 3) := by decide +kernel
theorem dX6_signOf_139 : decode cX6_signOf 139 = .ok (.iload 5, 2) := by decide +kernel
theorem dX6_signOf_141 : decode cX6_signOf 141 = .ok (.ifCond .le 14, 3) := by decide +kernel
theorem dX6_signOf_144 : decode cX6_signOf 144 = .ok (.iload 5, 2) := by decide +kernel
theorem dX6_signOf_146 : decode cX6_signOf 146 = .ok (.iload_n 3, 1) := by decide +kernel
theorem dX6_signOf_147 : decode cX6_signOf 147 = .ok (.if_icmp .ge 8, 3) := by decide +kernel
theorem dX6_signOf_150 : decode cX6_signOf 150 = .ok (.iload 4, 2) := by decide +kernel
theorem dX6_signOf_152 : decode cX6_signOf 152 = .ok (.goto 4, 3) := by decide +kernel
theorem dX6_signOf_155 : decode cX6_signOf 155 = .ok (.iload_n 2, 1) := by decide +kernel
theorem dX6_signOf_156 : decode cX6_signOf 156 = .ok (.istore_n 2, 1) := by decide +kernel
theorem dX6_signOf_157 : decode cX6_signOf 157 = .ok (.iload 5, 2) := by decide +kernel
theorem dX6_signOf_159 : decode cX6_signOf 159 = .ok (.ifCond .le 14, 3) := by decide +kernel
theorem dX6_signOf_162 : decode cX6_signOf 162 = .ok (.iload 5, 2) := by decide +kernel
theorem dX6_signOf_164 : decode cX6_signOf 164 = .ok (.iload_n 3, 1) := by decide +kernel
theorem dX6_signOf_165 : decode cX6_signOf 165 = .ok (.if_icmp .ge 8, 3) := by decide +kernel
theorem dX6_signOf_168 : decode cX6_signOf 168 = .ok (.iload 5, 2) := by decide +kernel
theorem dX6_signOf_170 : decode cX6_signOf 170 = .ok (.goto 4, 3) := by decide +kernel
theorem dX6_signOf_173 : decode cX6_signOf 173 = .ok (.iload_n 3, 1) := by decide +kernel
theorem dX6_signOf_174 : decode cX6_signOf 174 = .ok (.istore_n 3, 1) := by decide +kernel
theorem dX6_signOf_175 : decode cX6_signOf 175 = .ok (.iinc 4 1, 3) := by decide +kernel
theorem dX6_signOf_178 : decode cX6_signOf 178 = .ok (.goto (-170), 3) := by decide +kernel
theorem dX6_signOf_181 : decode cX6_signOf 181 = .ok (.iload_n 2, 1) := by decide +kernel
theorem dX6_signOf_182 : decode cX6_signOf 182 = .ok (.ireturn, 1) := by decide +kernel
theorem dX6_tellThing_0 : decode cX6_tellThing 0 = .ok (.iload_n 2, 1) := by decide +kernel
theorem dX6_tellThing_1 : decode cX6_tellThing 1 = .ok (.tableswitch 72 0 6 #[43, 43, 43, 43, 54, 60, 66], 43) := by decide +kernel
theorem dX6_tellThing_44 : decode cX6_tellThing 44 = .ok (.aload_n 0, 1) := by decide +kernel
theorem dX6_tellThing_45 : decode cX6_tellThing 45 = .ok (.getfield 13, 3) := by decide +kernel
theorem dX6_tellThing_48 : decode cX6_tellThing 48 = .ok (.iconst 4, 1) := by decide +kernel
theorem dX6_tellThing_49 : decode cX6_tellThing 49 = .ok (.iload_n 1, 1) := by decide +kernel
theorem dX6_tellThing_50 : decode cX6_tellThing 50 = .ok (.imul, 1) := by decide +kernel
theorem dX6_tellThing_51 : decode cX6_tellThing 51 = .ok (.iload_n 2, 1) := by decide +kernel
theorem dX6_tellThing_52 : decode cX6_tellThing 52 = .ok (.iadd, 1) := by decide +kernel
theorem dX6_tellThing_53 : decode cX6_tellThing 53 = .ok (.iaload, 1) := by decide +kernel
theorem dX6_tellThing_54 : decode cX6_tellThing 54 = .ok (.ireturn, 1) := by decide +kernel
theorem dX6_tellThing_55 : decode cX6_tellThing 55 = .ok (.aload_n 0, 1) := by decide +kernel
theorem dX6_tellThing_56 : decode cX6_tellThing 56 = .ok (.iload_n 1, 1) := by decide +kernel
theorem dX6_tellThing_57 : decode cX6_tellThing 57 = .ok (.invokevirtual 110, 3) := by decide +kernel
theorem dX6_tellThing_60 : decode cX6_tellThing 60 = .ok (.ireturn, 1) := by decide +kernel
theorem dX6_tellThing_61 : decode cX6_tellThing 61 = .ok (.aload_n 0, 1) := by decide +kernel
theorem dX6_tellThing_62 : decode cX6_tellThing 62 = .ok (.iload_n 1, 1) := by decide +kernel
theorem dX6_tellThing_63 : decode cX6_tellThing 63 = .ok (.invokevirtual 113, 3) := by decide +kernel
theorem dX6_tellThing_66 : decode cX6_tellThing 66 = .ok (.ireturn, 1) := by decide +kernel
theorem dX6_tellThing_67 : decode cX6_tellThing 67 = .ok (.aload_n 0, 1) := by decide +kernel
theorem dX6_tellThing_68 : decode cX6_tellThing 68 = .ok (.iload_n 1, 1) := by decide +kernel
theorem dX6_tellThing_69 : decode cX6_tellThing 69 = .ok (.invokevirtual 116, 3) := by decide +kernel
theorem dX6_tellThing_72 : decode cX6_tellThing 72 = .ok (.ireturn, 1) := by decide +kernel
theorem dX6_tellThing_73 : decode cX6_tellThing 73 = .ok (.bipush (-102), 2) := by decide +kernel
theorem dX6_tellThing_75 : decode cX6_tellThing 75 = .ok (.ireturn, 1) := by decide +kernel
theorem dX6_thing_0 : decode cX6_thing 0 = .ok (.aload_n 0, 1) := by decide +kernel
theorem dX6_thing_1 : decode cX6_thing 1 = .ok (.iload_n 1, 1) := by decide +kernel
theorem dX6_thing_2 : decode cX6_thing 2 = .ok (.invokevirtual 119, 3) := by decide +kernel
theorem dX6_thing_5 : decode cX6_thing 5 = .ok (.ifCond .eq 12, 3) := by decide +kernel
theorem dX6_thing_8 : decode cX6_thing 8 = .ok (.aload_n 0, 1) := by decide +kernel
theorem dX6_thing_9 : decode cX6_thing 9 = .ok (.iload_n 1, 1) := by decide +kernel
theorem dX6_thing_10 : decode cX6_thing 10 = .ok (.iload_n 2, 1) := by decide +kernel
theorem dX6_thing_11 : decode cX6_thing 11 = .ok (.invokevirtual 122, 3) := by decide +kernel
theorem dX6_thing_14 : decode cX6_thing 14 = .ok (.goto 5, 3) := by decide +kernel
theorem dX6_thing_17 : decode cX6_thing 17 = .ok (.bipush (-101), 2) := by decide +kernel
theorem dX6_thing_19 : decode cX6_thing 19 = .ok (.ireturn, 1) := by decide +kernel
theorem dX6_tellClaimer_0 : decode cX6_tellClaimer 0 = .ok (.iload_n 2, 1) := by decide +kernel
theorem dX6_tellClaimer_1 : decode cX6_tellClaimer 1 = .ok (.tableswitch 66 0 6 #[43, 43, 43, 43, 43, 54, 60], 43) := by decide +kernel
theorem dX6_tellClaimer_44 : decode cX6_tellClaimer 44 = .ok (.aload_n 0, 1) := by decide +kernel
theorem dX6_tellClaimer_45 : decode cX6_tellClaimer 45 = .ok (.getfield 16, 3) := by decide +kernel
theorem dX6_tellClaimer_48 : decode cX6_tellClaimer 48 = .ok (.iconst 5, 1) := by decide +kernel
theorem dX6_tellClaimer_49 : decode cX6_tellClaimer 49 = .ok (.iload_n 1, 1) := by decide +kernel
theorem dX6_tellClaimer_50 : decode cX6_tellClaimer 50 = .ok (.imul, 1) := by decide +kernel
theorem dX6_tellClaimer_51 : decode cX6_tellClaimer 51 = .ok (.iload_n 2, 1) := by decide +kernel
theorem dX6_tellClaimer_52 : decode cX6_tellClaimer 52 = .ok (.iadd, 1) := by decide +kernel
theorem dX6_tellClaimer_53 : decode cX6_tellClaimer 53 = .ok (.iaload, 1) := by decide +kernel
theorem dX6_tellClaimer_54 : decode cX6_tellClaimer 54 = .ok (.ireturn, 1) := by decide +kernel
theorem dX6_tellClaimer_55 : decode cX6_tellClaimer 55 = .ok (.aload_n 0, 1) := by decide +kernel
theorem dX6_tellClaimer_56 : decode cX6_tellClaimer 56 = .ok (.iload_n 1, 1) := by decide +kernel
theorem dX6_tellClaimer_57 : decode cX6_tellClaimer 57 = .ok (.invokevirtual 125, 3) := by decide +kernel
theorem dX6_tellClaimer_60 : decode cX6_tellClaimer 60 = .ok (.ireturn, 1) := by decide +kernel
theorem dX6_tellClaimer_61 : decode cX6_tellClaimer 61 = .ok (.aload_n 0, 1) := by decide +kernel
theorem dX6_tellClaimer_62 : decode cX6_tellClaimer 62 = .ok (.iload_n 1, 1) := by decide +kernel
theorem dX6_tellClaimer_63 : decode cX6_tellClaimer 63 = .ok (.invokevirtual 128, 3) := by decide +kernel
theorem dX6_tellClaimer_66 : decode cX6_tellClaimer 66 = .ok (.ireturn, 1) := by decide +kernel
theorem dX6_tellClaimer_67 : decode cX6_tellClaimer 67 = .ok (.bipush (-102), 2) := by decide +kernel
theorem dX6_tellClaimer_69 : decode cX6_tellClaimer 69 = .ok (.ireturn, 1) := by decide +kernel
theorem dX6_claimer_0 : decode cX6_claimer 0 = .ok (.aload_n 0, 1) := by decide +kernel
theorem dX6_claimer_1 : decode cX6_claimer 1 = .ok (.iload_n 1, 1) := by decide +kernel
theorem dX6_claimer_2 : decode cX6_claimer 2 = .ok (.invokevirtual 131, 3) := by decide +kernel
theorem dX6_claimer_5 : decode cX6_claimer 5 = .ok (.ifCond .eq 12, 3) := by decide +kernel
theorem dX6_claimer_8 : decode cX6_claimer 8 = .ok (.aload_n 0, 1) := by decide +kernel
theorem dX6_claimer_9 : decode cX6_claimer 9 = .ok (.iload_n 1, 1) := by decide +kernel
theorem dX6_claimer_10 : decode cX6_claimer 10 = .ok (.iload_n 2, 1) := by decide +kernel
theorem dX6_claimer_11 : decode cX6_claimer 11 = .ok (.invokevirtual 134, 3) := by decide +kernel
theorem dX6_claimer_14 : decode cX6_claimer 14 = .ok (.goto 5, 3) := by decide +kernel
theorem dX6_claimer_17 : decode cX6_claimer 17 = .ok (.bipush (-101), 2) := by decide +kernel
theorem dX6_claimer_19 : decode cX6_claimer 19 = .ok (.ireturn, 1) := by decide +kernel
theorem dX6_as_0 : decode cX6_as 0 = .ok (.aload_n 0, 1) := by decide +kernel
theorem dX6_as_1 : decode cX6_as 1 = .ok (.iload_n 1, 1) := by decide +kernel
theorem dX6_as_2 : decode cX6_as 2 = .ok (.invokevirtual 131, 3) := by decide +kernel
theorem dX6_as_5 : decode cX6_as 5 = .ok (.ifCond .ne 6, 3) := by decide +kernel
theorem dX6_as_8 : decode cX6_as 8 = .ok (.bipush (-101), 2) := by decide +kernel
theorem dX6_as_10 : decode cX6_as 10 = .ok (.ireturn, 1) := by decide +kernel
theorem dX6_as_11 : decode cX6_as 11 = .ok (.iload_n 2, 1) := by decide +kernel
theorem dX6_as_12 : decode cX6_as 12 = .ok (.i2l, 1) := by decide +kernel
theorem dX6_as_13 : decode cX6_as 13 = .ok (.lconst 0, 1) := by decide +kernel
theorem dX6_as_14 : decode cX6_as 14 = .ok (.ldc2_w 137, 3) := by decide +kernel
theorem dX6_as_17 : decode cX6_as 17 = .ok (.invokestatic 49, 3) := by decide +kernel
theorem dX6_as_20 : decode cX6_as 20 = .ok (.ifCond .ne 6, 3) := by decide +kernel
theorem dX6_as_23 : decode cX6_as 23 = .ok (.bipush (-102), 2) := by decide +kernel
theorem dX6_as_25 : decode cX6_as 25 = .ok (.ireturn, 1) := by decide +kernel
theorem dX6_as_26 : decode cX6_as 26 = .ok (.aload_n 0, 1) := by decide +kernel
theorem dX6_as_27 : decode cX6_as 27 = .ok (.getfield 16, 3) := by decide +kernel
theorem dX6_as_30 : decode cX6_as 30 = .ok (.iconst 5, 1) := by decide +kernel
theorem dX6_as_31 : decode cX6_as 31 = .ok (.iload_n 1, 1) := by decide +kernel
theorem dX6_as_32 : decode cX6_as 32 = .ok (.imul, 1) := by decide +kernel
theorem dX6_as_33 : decode cX6_as 33 = .ok (.iconst 3, 1) := by decide +kernel
theorem dX6_as_34 : decode cX6_as 34 = .ok (.iadd, 1) := by decide +kernel
theorem dX6_as_35 : decode cX6_as 35 = .ok (.iaload, 1) := by decide +kernel
theorem dX6_as_36 : decode cX6_as 36 = .ok (.istore_n 3, 1) := by decide +kernel
theorem dX6_as_37 : decode cX6_as 37 = .ok (.iload_n 2, 1) := by decide +kernel
theorem dX6_as_38 : decode cX6_as 38 = .ok (.ifCond .eq 18, 3) := by decide +kernel
theorem dX6_as_41 : decode cX6_as 41 = .ok (.iload_n 2, 1) := by decide +kernel
theorem dX6_as_42 : decode cX6_as 42 = .ok (.iload_n 3, 1) := by decide +kernel
theorem dX6_as_43 : decode cX6_as 43 = .ok (.if_icmp .eq 13, 3) := by decide +kernel
theorem dX6_as_46 : decode cX6_as 46 = .ok (.iload_n 2, 1) := by decide +kernel
theorem dX6_as_47 : decode cX6_as 47 = .ok (.iconst 1, 1) := by decide +kernel
theorem dX6_as_48 : decode cX6_as 48 = .ok (.if_icmp .ne 12, 3) := by decide +kernel
theorem dX6_as_51 : decode cX6_as 51 = .ok (.iload_n 3, 1) := by decide +kernel
theorem dX6_as_52 : decode cX6_as 52 = .ok (.iconst 4, 1) := by decide +kernel
theorem dX6_as_53 : decode cX6_as 53 = .ok (.if_icmp .ne 7, 3) := by decide +kernel
theorem dX6_as_56 : decode cX6_as 56 = .ok (.iconst 1, 1) := by decide +kernel
theorem dX6_as_57 : decode cX6_as 57 = .ok (.goto 4, 3) := by decide +kernel
theorem dX6_as_60 : decode cX6_as 60 = .ok (.iconst 0, 1) := by decide +kernel
theorem dX6_as_61 : decode cX6_as 61 = .ok (.istore 4, 2) := by decide +kernel
theorem dX6_as_63 : decode cX6_as 63 = .ok (.iload 4, 2) := by decide +kernel
theorem dX6_as_65 : decode cX6_as 65 = .ok (.ifCond .eq 7, 3) := by decide +kernel
theorem dX6_as_68 : decode cX6_as 68 = .ok (.iload_n 1, 1) := by decide +kernel
theorem dX6_as_69 : decode cX6_as 69 = .ok (.goto 4, 3) := by decide +kernel
theorem dX6_as_72 : decode cX6_as 72 = .ok (.iconst (-1), 1) := by decide +kernel
theorem dX6_as_73 : decode cX6_as 73 = .ok (.ireturn, 1) := by decide +kernel
theorem dX6_wrong_0 : decode cX6_wrong 0 = .ok (.aload_n 0, 1) := by decide +kernel
theorem dX6_wrong_1 : decode cX6_wrong 1 = .ok (.iload_n 1, 1) := by decide +kernel
theorem dX6_wrong_2 : decode cX6_wrong 2 = .ok (.invokevirtual 119, 3) := by decide +kernel
theorem dX6_wrong_5 : decode cX6_wrong 5 = .ok (.ifCond .eq 20, 3) := by decide +kernel
theorem dX6_wrong_8 : decode cX6_wrong 8 = .ok (.aload_n 0, 1) := by decide +kernel
theorem dX6_wrong_9 : decode cX6_wrong 9 = .ok (.iload_n 2, 1) := by decide +kernel
theorem dX6_wrong_10 : decode cX6_wrong 10 = .ok (.invokevirtual 131, 3) := by decide +kernel
theorem dX6_wrong_13 : decode cX6_wrong 13 = .ok (.ifCond .eq 12, 3) := by decide +kernel
theorem dX6_wrong_16 : decode cX6_wrong 16 = .ok (.aload_n 0, 1) := by decide +kernel
theorem dX6_wrong_17 : decode cX6_wrong 17 = .ok (.iload_n 1, 1) := by decide +kernel
theorem dX6_wrong_18 : decode cX6_wrong 18 = .ok (.iload_n 2, 1) := by decide +kernel
theorem dX6_wrong_19 : decode cX6_wrong 19 = .ok (.invokevirtual 99, 3) := by decide +kernel
theorem dX6_wrong_22 : decode cX6_wrong 22 = .ok (.goto 5, 3) := by decide +kernel
theorem dX6_wrong_25 : decode cX6_wrong 25 = .ok (.bipush (-101), 2) := by decide +kernel
theorem dX6_wrong_27 : decode cX6_wrong 27 = .ok (.ireturn, 1) := by decide +kernel
theorem dX6_give_0 : decode cX6_give 0 = .ok (.aload_n 0, 1) := by decide +kernel
theorem dX6_give_1 : decode cX6_give 1 = .ok (.iload_n 1, 1) := by decide +kernel
theorem dX6_give_2 : decode cX6_give 2 = .ok (.invokevirtual 119, 3) := by decide +kernel
theorem dX6_give_5 : decode cX6_give 5 = .ok (.ifCond .eq 11, 3) := by decide +kernel
theorem dX6_give_8 : decode cX6_give 8 = .ok (.aload_n 0, 1) := by decide +kernel
theorem dX6_give_9 : decode cX6_give 9 = .ok (.iload_n 2, 1) := by decide +kernel
theorem dX6_give_10 : decode cX6_give 10 = .ok (.invokevirtual 131, 3) := by decide +kernel
theorem dX6_give_13 : decode cX6_give 13 = .ok (.ifCond .ne 6, 3) := by decide +kernel
theorem dX6_give_16 : decode cX6_give 16 = .ok (.bipush (-101), 2) := by decide +kernel
theorem dX6_give_18 : decode cX6_give 18 = .ok (.ireturn, 1) := by decide +kernel
theorem dX6_give_19 : decode cX6_give 19 = .ok (.aload_n 0, 1) := by decide +kernel
theorem dX6_give_20 : decode cX6_give 20 = .ok (.getfield 13, 3) := by decide +kernel
theorem dX6_give_23 : decode cX6_give 23 = .ok (.iconst 4, 1) := by decide +kernel
theorem dX6_give_24 : decode cX6_give 24 = .ok (.iload_n 1, 1) := by decide +kernel
theorem dX6_give_25 : decode cX6_give 25 = .ok (.imul, 1) := by decide +kernel
theorem dX6_give_26 : decode cX6_give 26 = .ok (.iconst 3, 1) := by decide +kernel
theorem dX6_give_27 : decode cX6_give 27 = .ok (.iadd, 1) := by decide +kernel
theorem dX6_give_28 : decode cX6_give 28 = .ok (.iaload, 1) := by decide +kernel
theorem dX6_give_29 : decode cX6_give 29 = .ok (.iconst (-1), 1) := by decide +kernel
theorem dX6_give_30 : decode cX6_give 30 = .ok (.if_icmp .ne 17, 3) := by decide +kernel
theorem dX6_give_33 : decode cX6_give 33 = .ok (.aload_n 0, 1) := by decide +kernel
theorem dX6_give_34 : decode cX6_give 34 = .ok (.getfield 16, 3) := by decide +kernel
theorem dX6_give_37 : decode cX6_give 37 = .ok (.iconst 5, 1) := by decide +kernel
theorem dX6_give_38 : decode cX6_give 38 = .ok (.iload_n 2, 1) := by decide +kernel
theorem dX6_give_39 : decode cX6_give 39 = .ok (.imul, 1) := by decide +kernel
theorem dX6_give_40 : decode cX6_give 40 = .ok (.iconst 4, 1) := by decide +kernel
theorem dX6_give_41 : decode cX6_give 41 = .ok (.iadd, 1) := by decide +kernel
theorem dX6_give_42 : decode cX6_give 42 = .ok (.iaload, 1) := by decide +kernel
theorem dX6_give_43 : decode cX6_give 43 = .ok (.iconst (-1), 1) := by decide +kernel
theorem dX6_give_44 : decode cX6_give 44 = .ok (.if_icmp .eq 6, 3) := by decide +kernel
theorem dX6_give_47 : decode cX6_give 47 = .ok (.bipush (-103), 2) := by decide +kernel
theorem dX6_give_49 : decode cX6_give 49 = .ok (.ireturn, 1) := by decide +kernel
theorem dX6_give_50 : decode cX6_give 50 = .ok (.aload_n 0, 1) := by decide +kernel
theorem dX6_give_51 : decode cX6_give 51 = .ok (.getfield 13, 3) := by decide +kernel
theorem dX6_give_54 : decode cX6_give 54 = .ok (.iconst 4, 1) := by decide +kernel
theorem dX6_give_55 : decode cX6_give 55 = .ok (.iload_n 1, 1) := by decide +kernel
theorem dX6_give_56 : decode cX6_give 56 = .ok (.imul, 1) := by decide +kernel
theorem dX6_give_57 : decode cX6_give 57 = .ok (.iconst 3, 1) := by decide +kernel
theorem dX6_give_58 : decode cX6_give 58 = .ok (.iadd, 1) := by decide +kernel
theorem dX6_give_59 : decode cX6_give 59 = .ok (.iload_n 2, 1) := by decide +kernel
theorem dX6_give_60 : decode cX6_give 60 = .ok (.iastore, 1) := by decide +kernel
theorem dX6_give_61 : decode cX6_give 61 = .ok (.aload_n 0, 1) := by decide +kernel
theorem dX6_give_62 : decode cX6_give 62 = .ok (.getfield 16, 3) := by decide +kernel
theorem dX6_give_65 : decode cX6_give 65 = .ok (.iconst 5, 1) := by decide +kernel
theorem dX6_give_66 : decode cX6_give 66 = .ok (.iload_n 2, 1) := by decide +kernel
theorem dX6_give_67 : decode cX6_give 67 = .ok (.imul, 1) := by decide +kernel
theorem dX6_give_68 : decode cX6_give 68 = .ok (.iconst 4, 1) := by decide +kernel
theorem dX6_give_69 : decode cX6_give 69 = .ok (.iadd, 1) := by decide +kernel
theorem dX6_give_70 : decode cX6_give 70 = .ok (.iload_n 1, 1) := by decide +kernel
theorem dX6_give_71 : decode cX6_give 71 = .ok (.iastore, 1) := by decide +kernel
theorem dX6_give_72 : decode cX6_give 72 = .ok (.aload_n 0, 1) := by decide +kernel
theorem dX6_give_73 : decode cX6_give 73 = .ok (.iload_n 1, 1) := by decide +kernel
theorem dX6_give_74 : decode cX6_give 74 = .ok (.iload_n 2, 1) := by decide +kernel
theorem dX6_give_75 : decode cX6_give 75 = .ok (.invokevirtual 99, 3) := by decide +kernel
theorem dX6_give_78 : decode cX6_give 78 = .ok (.ireturn, 1) := by decide +kernel
theorem dX6_back_0 : decode cX6_back 0 = .ok (.aload_n 0, 1) := by decide +kernel
theorem dX6_back_1 : decode cX6_back 1 = .ok (.iload_n 1, 1) := by decide +kernel
theorem dX6_back_2 : decode cX6_back 2 = .ok (.invokevirtual 119, 3) := by decide +kernel
theorem dX6_back_5 : decode cX6_back 5 = .ok (.ifCond .ne 6, 3) := by decide +kernel
theorem dX6_back_8 : decode cX6_back 8 = .ok (.bipush (-101), 2) := by decide +kernel
theorem dX6_back_10 : decode cX6_back 10 = .ok (.ireturn, 1) := by decide +kernel
theorem dX6_back_11 : decode cX6_back 11 = .ok (.aload_n 0, 1) := by decide +kernel
theorem dX6_back_12 : decode cX6_back 12 = .ok (.getfield 13, 3) := by decide +kernel
theorem dX6_back_15 : decode cX6_back 15 = .ok (.iconst 4, 1) := by decide +kernel
theorem dX6_back_16 : decode cX6_back 16 = .ok (.iload_n 1, 1) := by decide +kernel
theorem dX6_back_17 : decode cX6_back 17 = .ok (.imul, 1) := by decide +kernel
theorem dX6_back_18 : decode cX6_back 18 = .ok (.iconst 3, 1) := by decide +kernel
theorem dX6_back_19 : decode cX6_back 19 = .ok (.iadd, 1) := by decide +kernel
theorem dX6_back_20 : decode cX6_back 20 = .ok (.iaload, 1) := by decide +kernel
theorem dX6_back_21 : decode cX6_back 21 = .ok (.istore_n 2, 1) := by decide +kernel
theorem dX6_back_22 : decode cX6_back 22 = .ok (.iload_n 2, 1) := by decide +kernel
theorem dX6_back_23 : decode cX6_back 23 = .ok (.iconst (-1), 1) := by decide +kernel
theorem dX6_back_24 : decode cX6_back 24 = .ok (.if_icmp .ne 6, 3) := by decide +kernel
theorem dX6_back_27 : decode cX6_back 27 = .ok (.bipush (-103), 2) := by decide +kernel
theorem dX6_back_29 : decode cX6_back 29 = .ok (.ireturn, 1) := by decide +kernel
theorem dX6_back_30 : decode cX6_back 30 = .ok (.aload_n 0, 1) := by decide +kernel
theorem dX6_back_31 : decode cX6_back 31 = .ok (.getfield 13, 3) := by decide +kernel
theorem dX6_back_34 : decode cX6_back 34 = .ok (.iconst 4, 1) := by decide +kernel
theorem dX6_back_35 : decode cX6_back 35 = .ok (.iload_n 1, 1) := by decide +kernel
theorem dX6_back_36 : decode cX6_back 36 = .ok (.imul, 1) := by decide +kernel
theorem dX6_back_37 : decode cX6_back 37 = .ok (.iconst 3, 1) := by decide +kernel
theorem dX6_back_38 : decode cX6_back 38 = .ok (.iadd, 1) := by decide +kernel
theorem dX6_back_39 : decode cX6_back 39 = .ok (.iconst (-1), 1) := by decide +kernel
theorem dX6_back_40 : decode cX6_back 40 = .ok (.iastore, 1) := by decide +kernel
theorem dX6_back_41 : decode cX6_back 41 = .ok (.aload_n 0, 1) := by decide +kernel
theorem dX6_back_42 : decode cX6_back 42 = .ok (.getfield 16, 3) := by decide +kernel
theorem dX6_back_45 : decode cX6_back 45 = .ok (.iconst 5, 1) := by decide +kernel
theorem dX6_back_46 : decode cX6_back 46 = .ok (.iload_n 2, 1) := by decide +kernel
theorem dX6_back_47 : decode cX6_back 47 = .ok (.imul, 1) := by decide +kernel
theorem dX6_back_48 : decode cX6_back 48 = .ok (.iconst 4, 1) := by decide +kernel
theorem dX6_back_49 : decode cX6_back 49 = .ok (.iadd, 1) := by decide +kernel
theorem dX6_back_50 : decode cX6_back 50 = .ok (.iconst (-1), 1) := by decide +kernel
theorem dX6_back_51 : decode cX6_back 51 = .ok (.iastore, 1) := by decide +kernel
theorem dX6_back_52 : decode cX6_back 52 = .ok (.iload_n 2, 1) := by decide +kernel
theorem dX6_back_53 : decode cX6_back 53 = .ok (.ireturn, 1) := by decide +kernel
theorem dX6_remember_0 : decode cX6_remember 0 = .ok (.aload_n 0, 1) := by decide +kernel
theorem dX6_remember_1 : decode cX6_remember 1 = .ok (.iload_n 1, 1) := by decide +kernel
theorem dX6_remember_2 : decode cX6_remember 2 = .ok (.invokevirtual 131, 3) := by decide +kernel
theorem dX6_remember_5 : decode cX6_remember 5 = .ok (.ifCond .ne 6, 3) := by decide +kernel
theorem dX6_remember_8 : decode cX6_remember 8 = .ok (.bipush (-101), 2) := by decide +kernel
theorem dX6_remember_10 : decode cX6_remember 10 = .ok (.ireturn, 1) := by decide +kernel
theorem dX6_remember_11 : decode cX6_remember 11 = .ok (.iload_n 2, 1) := by decide +kernel
theorem dX6_remember_12 : decode cX6_remember 12 = .ok (.i2l, 1) := by decide +kernel
theorem dX6_remember_13 : decode cX6_remember 13 = .ok (.lconst 0, 1) := by decide +kernel
theorem dX6_remember_14 : decode cX6_remember 14 = .ok (.ldc2_w 139, 3) := by decide +kernel
theorem dX6_remember_17 : decode cX6_remember 17 = .ok (.invokestatic 49, 3) := by decide +kernel
theorem dX6_remember_20 : decode cX6_remember 20 = .ok (.ifCond .eq 17, 3) := by decide +kernel
theorem dX6_remember_23 : decode cX6_remember 23 = .ok (.iload_n 3, 1) := by decide +kernel
theorem dX6_remember_24 : decode cX6_remember 24 = .ok (.i2l, 1) := by decide +kernel
theorem dX6_remember_25 : decode cX6_remember 25 = .ok (.lconst 0, 1) := by decide +kernel
theorem dX6_remember_26 : decode cX6_remember 26 = .ok (.iload_n 2, 1) := by decide +kernel
theorem dX6_remember_27 : decode cX6_remember 27 = .ok (.invokestatic 59, 3) := by decide +kernel
theorem dX6_remember_30 : decode cX6_remember 30 = .ok (.i2l, 1) := by decide +kernel
theorem dX6_remember_31 : decode cX6_remember 31 = .ok (.invokestatic 49, 3) := by decide +kernel
theorem dX6_remember_34 : decode cX6_remember 34 = .ok (.ifCond .ne 6, 3) := by decide +kernel
theorem dX6_remember_37 : decode cX6_remember 37 = .ok (.bipush (-102), 2) := by decide +kernel
theorem dX6_remember_39 : decode cX6_remember 39 = .ok (.ireturn, 1) := by decide +kernel
theorem dX6_remember_40 : decode cX6_remember 40 = .ok (.aload_n 0, 1) := by decide +kernel
theorem dX6_remember_41 : decode cX6_remember 41 = .ok (.getfield 16, 3) := by decide +kernel
theorem dX6_remember_44 : decode cX6_remember 44 = .ok (.iconst 5, 1) := by decide +kernel
theorem dX6_remember_45 : decode cX6_remember 45 = .ok (.iload_n 1, 1) := by decide +kernel
theorem dX6_remember_46 : decode cX6_remember 46 = .ok (.imul, 1) := by decide +kernel
theorem dX6_remember_47 : decode cX6_remember 47 = .ok (.iload_n 2, 1) := by decide +kernel
theorem dX6_remember_48 : decode cX6_remember 48 = .ok (.iadd, 1) := by decide +kernel
theorem dX6_remember_49 : decode cX6_remember 49 = .ok (.iaload, 1) := by decide +kernel
theorem dX6_remember_50 : decode cX6_remember 50 = .ok (.istore 4, 2) := by decide +kernel
theorem dX6_remember_52 : decode cX6_remember 52 = .ok (.aload_n 0, 1) := by decide +kernel
theorem dX6_remember_53 : decode cX6_remember 53 = .ok (.getfield 16, 3) := by decide +kernel
theorem dX6_remember_56 : decode cX6_remember 56 = .ok (.iconst 5, 1) := by decide +kernel
theorem dX6_remember_57 : decode cX6_remember 57 = .ok (.iload_n 1, 1) := by decide +kernel
theorem dX6_remember_58 : decode cX6_remember 58 = .ok (.imul, 1) := by decide +kernel
theorem dX6_remember_59 : decode cX6_remember 59 = .ok (.iload_n 2, 1) := by decide +kernel
theorem dX6_remember_60 : decode cX6_remember 60 = .ok (.iadd, 1) := by decide +kernel
theorem dX6_remember_61 : decode cX6_remember 61 = .ok (.iload_n 3, 1) := by decide +kernel
theorem dX6_remember_62 : decode cX6_remember 62 = .ok (.iastore, 1) := by decide +kernel
theorem dX6_remember_63 : decode cX6_remember 63 = .ok (.iload 4, 2) := by decide +kernel
theorem dX6_remember_65 : decode cX6_remember 65 = .ok (.ireturn, 1) := by decide +kernel
theorem dX6_givenMany_0 : decode cX6_givenMany 0 = .ok (.iconst 0, 1) := by decide +kernel
theorem dX6_givenMany_1 : decode cX6_givenMany 1 = .ok (.istore_n 1, 1) := by decide +kernel
theorem dX6_givenMany_2 : decode cX6_givenMany 2 = .ok (.iconst 0, 1) := by decide +kernel
theorem dX6_givenMany_3 : decode cX6_givenMany 3 = .ok (.istore_n 2, 1) := by decide +kernel
theorem dX6_givenMany_4 : decode cX6_givenMany 4 = .ok (.iload_n 2, 1) := by decide +kernel
theorem dX6_givenMany_5 : decode cX6_givenMany 5 = .ok (.aload_n 0, 1) := by decide +kernel
theorem dX6_givenMany_6 : decode cX6_givenMany 6 = .ok (.getfield 74, 3) := by decide +kernel
theorem dX6_givenMany_9 : decode cX6_givenMany 9 = .ok (.if_icmp .ge 31, 3) := by decide +kernel
theorem dX6_givenMany_12 : decode cX6_givenMany 12 = .ok (.iload_n 1, 1) := by decide +kernel
theorem dX6_givenMany_13 : decode cX6_givenMany 13 = .ok (.aload_n 0, 1) := by decide +kernel
theorem dX6_givenMany_14 : decode cX6_givenMany 14 = .ok (.getfield 13, 3) := by decide +kernel
theorem dX6_givenMany_17 : decode cX6_givenMany 17 = .ok (.iconst 4, 1) := by decide +kernel
theorem dX6_givenMany_18 : decode cX6_givenMany 18 = .ok (.iload_n 2, 1) := by decide +kernel
theorem dX6_givenMany_19 : decode cX6_givenMany 19 = .ok (.imul, 1) := by decide +kernel
theorem dX6_givenMany_20 : decode cX6_givenMany 20 = .ok (.iconst 3, 1) := by decide +kernel
theorem dX6_givenMany_21 : decode cX6_givenMany 21 = .ok (.iadd, 1) := by decide +kernel
theorem dX6_givenMany_22 : decode cX6_givenMany 22 = .ok (.iaload, 1) := by decide +kernel
theorem dX6_givenMany_23 : decode cX6_givenMany 23 = .ok (.iconst (-1), 1) := by decide +kernel
theorem dX6_givenMany_24 : decode cX6_givenMany 24 = .ok (.if_icmp .ne 7, 3) := by decide +kernel
theorem dX6_givenMany_27 : decode cX6_givenMany 27 = .ok (.iconst 0, 1) := by decide +kernel
theorem dX6_givenMany_28 : decode cX6_givenMany 28 = .ok (.goto 4, 3) := by decide +kernel
theorem dX6_givenMany_31 : decode cX6_givenMany 31 = .ok (.iconst 1, 1) := by decide +kernel
theorem dX6_givenMany_32 : decode cX6_givenMany 32 = .ok (.iadd, 1) := by decide +kernel
theorem dX6_givenMany_33 : decode cX6_givenMany 33 = .ok (.istore_n 1, 1) := by decide +kernel
theorem dX6_givenMany_34 : decode cX6_givenMany 34 = .ok (.iinc 2 1, 3) := by decide +kernel
theorem dX6_givenMany_37 : decode cX6_givenMany 37 = .ok (.goto (-33), 3) := by decide +kernel
theorem dX6_givenMany_40 : decode cX6_givenMany 40 = .ok (.iload_n 1, 1) := by decide +kernel
theorem dX6_givenMany_41 : decode cX6_givenMany 41 = .ok (.ireturn, 1) := by decide +kernel
theorem dX6_six_0 : decode cX6_six 0 = .ok (.aload_n 0, 1) := by decide +kernel
theorem dX6_six_1 : decode cX6_six 1 = .ok (.invokevirtual 141, 3) := by decide +kernel
theorem dX6_six_4 : decode cX6_six 4 = .ok (.ifCond .eq 6, 3) := by decide +kernel
theorem dX6_six_7 : decode cX6_six 7 = .ok (.bipush (-103), 2) := by decide +kernel
theorem dX6_six_9 : decode cX6_six 9 = .ok (.ireturn, 1) := by decide +kernel
theorem dX6_six_10 : decode cX6_six 10 = .ok (.aload_n 0, 1) := by decide +kernel
theorem dX6_six_11 : decode cX6_six 11 = .ok (.getfield 80, 3) := by decide +kernel
theorem dX6_six_14 : decode cX6_six 14 = .ok (.bipush 99, 2) := by decide +kernel
theorem dX6_six_16 : decode cX6_six 16 = .ok (.if_icmp .ne 6, 3) := by decide +kernel
theorem dX6_six_19 : decode cX6_six 19 = .ok (.bipush (-104), 2) := by decide +kernel
theorem dX6_six_21 : decode cX6_six 21 = .ok (.ireturn, 1) := by decide +kernel
theorem dX6_six_22 : decode cX6_six 22 = .ok (.aload_n 0, 1) := by decide +kernel
theorem dX6_six_23 : decode cX6_six 23 = .ok (.invokevirtual 145, 3) := by decide +kernel
theorem dX6_six_26 : decode cX6_six 26 = .ok (.istore_n 1, 1) := by decide +kernel
theorem dX6_six_27 : decode cX6_six 27 = .ok (.aload_n 0, 1) := by decide +kernel
theorem dX6_six_28 : decode cX6_six 28 = .ok (.dup, 1) := by decide +kernel
theorem dX6_six_29 : decode cX6_six 29 = .ok (.getfield 80, 3) := by decide +kernel
theorem dX6_six_32 : decode cX6_six 32 = .ok (.iconst 1, 1) := by decide +kernel
theorem dX6_six_33 : decode cX6_six 33 = .ok (.iadd, 1) := by decide +kernel
theorem dX6_six_34 : decode cX6_six 34 = .ok (.putfield 80, 3) := by decide +kernel
theorem dX6_six_37 : decode cX6_six 37 = .ok (.aload_n 0, 1) := by decide +kernel
theorem dX6_six_38 : decode cX6_six 38 = .ok (.dup, 1) := by decide +kernel
theorem dX6_six_39 : decode cX6_six 39 = .ok (.getfield 83, 3) := by decide +kernel
theorem dX6_six_42 : decode cX6_six 42 = .ok (.aload_n 0, 1) := by decide +kernel
theorem dX6_six_43 : decode cX6_six 43 = .ok (.getfield 74, 3) := by decide +kernel
theorem dX6_six_46 : decode cX6_six 46 = .ok (.iload_n 1, 1) := by decide +kernel
theorem dX6_six_47 : decode cX6_six 47 = .ok (.isub, 1) := by decide +kernel
theorem dX6_six_48 : decode cX6_six 48 = .ok (.iadd, 1) := by decide +kernel
theorem dX6_six_49 : decode cX6_six 49 = .ok (.putfield 83, 3) := by decide +kernel
theorem dX6_six_52 : decode cX6_six 52 = .ok (.aload_n 0, 1) := by decide +kernel
theorem dX6_six_53 : decode cX6_six 53 = .ok (.dup, 1) := by decide +kernel
theorem dX6_six_54 : decode cX6_six 54 = .ok (.getfield 86, 3) := by decide +kernel
theorem dX6_six_57 : decode cX6_six 57 = .ok (.aload_n 0, 1) := by decide +kernel
theorem dX6_six_58 : decode cX6_six 58 = .ok (.getfield 77, 3) := by decide +kernel
theorem dX6_six_61 : decode cX6_six 61 = .ok (.iload_n 1, 1) := by decide +kernel
theorem dX6_six_62 : decode cX6_six 62 = .ok (.isub, 1) := by decide +kernel
theorem dX6_six_63 : decode cX6_six 63 = .ok (.iadd, 1) := by decide +kernel
theorem dX6_six_64 : decode cX6_six 64 = .ok (.putfield 86, 3) := by decide +kernel
theorem dX6_six_67 : decode cX6_six 67 = .ok (.iconst 0, 1) := by decide +kernel
theorem dX6_six_68 : decode cX6_six 68 = .ok (.istore_n 2, 1) := by decide +kernel
theorem dX6_six_69 : decode cX6_six 69 = .ok (.iload_n 2, 1) := by decide +kernel
theorem dX6_six_70 : decode cX6_six 70 = .ok (.aload_n 0, 1) := by decide +kernel
theorem dX6_six_71 : decode cX6_six 71 = .ok (.getfield 74, 3) := by decide +kernel
theorem dX6_six_74 : decode cX6_six 74 = .ok (.if_icmp .ge 20, 3) := by decide +kernel
theorem dX6_six_77 : decode cX6_six 77 = .ok (.aload_n 0, 1) := by decide +kernel
theorem dX6_six_78 : decode cX6_six 78 = .ok (.getfield 13, 3) := by decide +kernel
theorem dX6_six_81 : decode cX6_six 81 = .ok (.iconst 4, 1) := by decide +kernel
theorem dX6_six_82 : decode cX6_six 82 = .ok (.iload_n 2, 1) := by decide +kernel
theorem dX6_six_83 : decode cX6_six 83 = .ok (.imul, 1) := by decide +kernel
theorem dX6_six_84 : decode cX6_six 84 = .ok (.iconst 3, 1) := by decide +kernel
theorem dX6_six_85 : decode cX6_six 85 = .ok (.iadd, 1) := by decide +kernel
theorem dX6_six_86 : decode cX6_six 86 = .ok (.iconst (-1), 1) := by decide +kernel
theorem dX6_six_87 : decode cX6_six 87 = .ok (.iastore, 1) := by decide +kernel
theorem dX6_six_88 : decode cX6_six 88 = .ok (.iinc 2 1, 3) := by decide +kernel
theorem dX6_six_91 : decode cX6_six 91 = .ok (.goto (-22), 3) := by decide +kernel
theorem dX6_six_94 : decode cX6_six 94 = .ok (.iconst 0, 1) := by decide +kernel
theorem dX6_six_95 : decode cX6_six 95 = .ok (.istore_n 2, 1) := by decide +kernel
theorem dX6_six_96 : decode cX6_six 96 = .ok (.iload_n 2, 1) := by decide +kernel
theorem dX6_six_97 : decode cX6_six 97 = .ok (.aload_n 0, 1) := by decide +kernel
theorem dX6_six_98 : decode cX6_six 98 = .ok (.getfield 77, 3) := by decide +kernel
theorem dX6_six_101 : decode cX6_six 101 = .ok (.if_icmp .ge 20, 3) := by decide +kernel
theorem dX6_six_104 : decode cX6_six 104 = .ok (.aload_n 0, 1) := by decide +kernel
theorem dX6_six_105 : decode cX6_six 105 = .ok (.getfield 16, 3) := by decide +kernel
theorem dX6_six_108 : decode cX6_six 108 = .ok (.iconst 5, 1) := by decide +kernel
theorem dX6_six_109 : decode cX6_six 109 = .ok (.iload_n 2, 1) := by decide +kernel
theorem dX6_six_110 : decode cX6_six 110 = .ok (.imul, 1) := by decide +kernel
theorem dX6_six_111 : decode cX6_six 111 = .ok (.iconst 4, 1) := by decide +kernel
theorem dX6_six_112 : decode cX6_six 112 = .ok (.iadd, 1) := by decide +kernel
theorem dX6_six_113 : decode cX6_six 113 = .ok (.iconst (-1), 1) := by decide +kernel
theorem dX6_six_114 : decode cX6_six 114 = .ok (.iastore, 1) := by decide +kernel
theorem dX6_six_115 : decode cX6_six 115 = .ok (.iinc 2 1, 3) := by decide +kernel
theorem dX6_six_118 : decode cX6_six 118 = .ok (.goto (-22), 3) := by decide +kernel
theorem dX6_six_121 : decode cX6_six 121 = .ok (.aload_n 0, 1) := by decide +kernel
theorem dX6_six_122 : decode cX6_six 122 = .ok (.getfield 74, 3) := by decide +kernel
theorem dX6_six_125 : decode cX6_six 125 = .ok (.iload_n 1, 1) := by decide +kernel
theorem dX6_six_126 : decode cX6_six 126 = .ok (.isub, 1) := by decide +kernel
theorem dX6_six_127 : decode cX6_six 127 = .ok (.ireturn, 1) := by decide +kernel
theorem dX6_layRow_0 : decode cX6_layRow 0 = .ok (.iload_n 1, 1) := by decide +kernel
theorem dX6_layRow_1 : decode cX6_layRow 1 = .ok (.istore_n 2, 1) := by decide +kernel
theorem dX6_layRow_2 : decode cX6_layRow 2 = .ok (.iconst 0, 1) := by decide +kernel
theorem dX6_layRow_3 : decode cX6_layRow 3 = .ok (.istore_n 3, 1) := by decide +kernel
theorem dX6_layRow_4 : decode cX6_layRow 4 = .ok (.iconst 1, 1) := by decide +kernel
theorem dX6_layRow_5 : decode cX6_layRow 5 = .ok (.istore 4, 2) := by decide +kernel
theorem dX6_layRow_7 : decode cX6_layRow 7 = .ok (.aload_n 0, 1) := by decide +kernel
theorem dX6_layRow_8 : decode cX6_layRow 8 = .ok (.getfield 77, 3) := by decide +kernel
theorem dX6_layRow_11 : decode cX6_layRow 11 = .ok (.iconst 1, 1) := by decide +kernel
theorem dX6_layRow_12 : decode cX6_layRow 12 = .ok (.isub, 1) := by decide +kernel
theorem dX6_layRow_13 : decode cX6_layRow 13 = .ok (.istore 5, 2) := by decide +kernel
theorem dX6_layRow_15 : decode cX6_layRow 15 = .ok (.iload 5, 2) := by decide +kernel
theorem dX6_layRow_17 : decode cX6_layRow 17 = .ok (.ifCond .lt 147, 3) := by decide +kernel
theorem dX6_layRow_20 : decode cX6_layRow 20 = .ok (.aload_n 0, 1) := by decide +kernel
theorem dX6_layRow_21 : decode cX6_layRow 21 = .ok (.getfield 22, 3) := by decide +kernel
theorem dX6_layRow_24 : decode cX6_layRow 24 = .ok (.iload 5, 2) := by decide +kernel
theorem dX6_layRow_26 : decode cX6_layRow 26 = .ok (.iload_n 2, 1) := by decide +kernel
theorem dX6_layRow_27 : decode cX6_layRow 27 = .ok (.aload_n 0, 1) := by decide +kernel
theorem dX6_layRow_28 : decode cX6_layRow 28 = .ok (.getfield 74, 3) := by decide +kernel
theorem dX6_layRow_31 : decode cX6_layRow 31 = .ok (.iconst 1, 1) := by decide +kernel
theorem dX6_layRow_32 : decode cX6_layRow 32 = .ok (.iadd, 1) := by decide +kernel
theorem dX6_layRow_33 : decode cX6_layRow 33 = .ok (.irem, 1) := by decide +kernel
theorem dX6_layRow_34 : decode cX6_layRow 34 = .ok (.iconst 1, 1) := by decide +kernel
theorem dX6_layRow_35 : decode cX6_layRow 35 = .ok (.isub, 1) := by decide +kernel
theorem dX6_layRow_36 : decode cX6_layRow 36 = .ok (.iastore, 1) := by decide +kernel
theorem dX6_layRow_37 : decode cX6_layRow 37 = .ok (.iload_n 2, 1) := by decide +kernel
theorem dX6_layRow_38 : decode cX6_layRow 38 = .ok (.aload_n 0, 1) := by decide +kernel
theorem dX6_layRow_39 : decode cX6_layRow 39 = .ok (.getfield 74, 3) := by decide +kernel
theorem dX6_layRow_42 : decode cX6_layRow 42 = .ok (.iconst 1, 1) := by decide +kernel
theorem dX6_layRow_43 : decode cX6_layRow 43 = .ok (.iadd, 1) := by decide +kernel
theorem dX6_layRow_44 : decode cX6_layRow 44 = .ok (.idiv, 1) := by decide +kernel
theorem dX6_layRow_45 : decode cX6_layRow 45 = .ok (.istore_n 2, 1) := by decide +kernel
theorem dX6_layRow_46 : decode cX6_layRow 46 = .ok (.aload_n 0, 1) := by decide +kernel
theorem dX6_layRow_47 : decode cX6_layRow 47 = .ok (.getfield 22, 3) := by decide +kernel
theorem dX6_layRow_50 : decode cX6_layRow 50 = .ok (.iload 5, 2) := by decide +kernel
theorem dX6_layRow_52 : decode cX6_layRow 52 = .ok (.iaload, 1) := by decide +kernel
theorem dX6_layRow_53 : decode cX6_layRow 53 = .ok (.iconst (-1), 1) := by decide +kernel
theorem dX6_layRow_54 : decode cX6_layRow 54 = .ok (.if_icmp .eq 104, 3) := by decide +kernel
theorem dX6_layRow_57 : decode cX6_layRow 57 = .ok (.aload_n 0, 1) := by decide +kernel
theorem dX6_layRow_58 : decode cX6_layRow 58 = .ok (.getfield 13, 3) := by decide +kernel
theorem dX6_layRow_61 : decode cX6_layRow 61 = .ok (.iconst 4, 1) := by decide +kernel
theorem dX6_layRow_62 : decode cX6_layRow 62 = .ok (.aload_n 0, 1) := by decide +kernel
theorem dX6_layRow_63 : decode cX6_layRow 63 = .ok (.getfield 22, 3) := by decide +kernel
theorem dX6_layRow_66 : decode cX6_layRow 66 = .ok (.iload 5, 2) := by decide +kernel
theorem dX6_layRow_68 : decode cX6_layRow 68 = .ok (.iaload, 1) := by decide +kernel
theorem dX6_layRow_69 : decode cX6_layRow 69 = .ok (.imul, 1) := by decide +kernel
theorem dX6_layRow_70 : decode cX6_layRow 70 = .ok (.iconst 3, 1) := by decide +kernel
theorem dX6_layRow_71 : decode cX6_layRow 71 = .ok (.iadd, 1) := by decide +kernel
theorem dX6_layRow_72 : decode cX6_layRow 72 = .ok (.iaload, 1) := by decide +kernel
theorem dX6_layRow_73 : decode cX6_layRow 73 = .ok (.iconst (-1), 1) := by decide +kernel
theorem dX6_layRow_74 : decode cX6_layRow 74 = .ok (.if_icmp .ne 22, 3) := by decide +kernel
theorem dX6_layRow_77 : decode cX6_layRow 77 = .ok (.aload_n 0, 1) := by decide +kernel
theorem dX6_layRow_78 : decode cX6_layRow 78 = .ok (.getfield 16, 3) := by decide +kernel
theorem dX6_layRow_81 : decode cX6_layRow 81 = .ok (.iconst 5, 1) := by decide +kernel
theorem dX6_layRow_82 : decode cX6_layRow 82 = .ok (.iload 5, 2) := by decide +kernel
theorem dX6_layRow_84 : decode cX6_layRow 84 = .ok (.imul, 1) := by decide +kernel
theorem dX6_layRow_85 : decode cX6_layRow 85 = .ok (.iconst 4, 1) := by decide +kernel
theorem dX6_layRow_86 : decode cX6_layRow 86 = .ok (.iadd, 1) := by decide +kernel
theorem dX6_layRow_87 : decode cX6_layRow 87 = .ok (.iaload, 1) := by decide +kernel
theorem dX6_layRow_88 : decode cX6_layRow 88 = .ok (.iconst (-1), 1) := by decide +kernel
theorem dX6_layRow_89 : decode cX6_layRow 89 = .ok (.if_icmp .ne 7, 3) := by decide +kernel
theorem dX6_layRow_92 : decode cX6_layRow 92 = .ok (.iconst 1, 1) := by decide +kernel
theorem dX6_layRow_93 : decode cX6_layRow 93 = .ok (.goto 4, 3) := by decide +kernel
theorem dX6_layRow_96 : decode cX6_layRow 96 = .ok (.iconst 0, 1) := by decide +kernel
theorem dX6_layRow_97 : decode cX6_layRow 97 = .ok (.istore 6, 2) := by decide +kernel
theorem dX6_layRow_99 : decode cX6_layRow 99 = .ok (.iload 4, 2) := by decide +kernel
theorem dX6_layRow_101 : decode cX6_layRow 101 = .ok (.ifCond .eq 42, 3) := by decide +kernel
theorem dX6_layRow_104 : decode cX6_layRow 104 = .ok (.iload 6, 2) := by decide +kernel
theorem dX6_layRow_106 : decode cX6_layRow 106 = .ok (.ifCond .eq 37, 3) := by decide +kernel
theorem dX6_layRow_109 : decode cX6_layRow 109 = .ok (.aload_n 0, 1) := by decide +kernel
theorem dX6_layRow_110 : decode cX6_layRow 110 = .ok (.aload_n 0, 1) := by decide +kernel
theorem dX6_layRow_111 : decode cX6_layRow 111 = .ok (.getfield 22, 3) := by decide +kernel
theorem dX6_layRow_114 : decode cX6_layRow 114 = .ok (.iload 5, 2) := by decide +kernel
theorem dX6_layRow_116 : decode cX6_layRow 116 = .ok (.iaload, 1) := by decide +kernel
theorem dX6_layRow_117 : decode cX6_layRow 117 = .ok (.iload 5, 2) := by decide +kernel
theorem dX6_layRow_119 : decode cX6_layRow 119 = .ok (.invokevirtual 107, 3) := by decide +kernel
theorem dX6_layRow_122 : decode cX6_layRow 122 = .ok (.ifCond .eq 21, 3) := by decide +kernel
theorem dX6_layRow_125 : decode cX6_layRow 125 = .ok (.iload_n 3, 1) := by decide +kernel
theorem dX6_layRow_126 : decode cX6_layRow 126 = .ok (.aload_n 0, 1) := by decide +kernel
theorem dX6_layRow_127 : decode cX6_layRow 127 = .ok (.getfield 22, 3) := by decide +kernel
theorem dX6_layRow_130 : decode cX6_layRow 130 = .ok (.iload 5, 2) := by decide +kernel
theorem dX6_layRow_132 : decode cX6_layRow 132 = .ok (.iaload, 1) := by decide +kernel
theorem dX6_layRow_133 : decode cX6_layRow 133 = .ok (.ishr, 1) := by decide +kernel
theorem dX6_layRow_134 : decode cX6_layRow 134 = .ok (.iconst 1, 1) := by decide +kernel
theorem dX6_layRow_135 : decode cX6_layRow 135 = .ok (.iand, 1) := by decide +kernel
theorem dX6_layRow_136 : decode cX6_layRow 136 = .ok (.ifCond .ne 7, 3) := by decide +kernel
theorem dX6_layRow_139 : decode cX6_layRow 139 = .ok (.iconst 1, 1) := by decide +kernel
theorem dX6_layRow_140 : decode cX6_layRow 140 = .ok (.goto 4, 3) := by decide +kernel
theorem dX6_layRow_143 : decode cX6_layRow 143 = .ok (.iconst 0, 1) := by decide +kernel
theorem dX6_layRow_144 : decode cX6_layRow 144 = .ok (.istore 4, 2) := by decide +kernel
theorem dX6_layRow_146 : decode cX6_layRow 146 = .ok (.iload_n 3, 1) := by decide +kernel
theorem dX6_layRow_147 : decode cX6_layRow 147 = .ok (.iconst 1, 1) := by decide +kernel
theorem dX6_layRow_148 : decode cX6_layRow 148 = .ok (.aload_n 0, 1) := by decide +kernel
theorem dX6_layRow_149 : decode cX6_layRow 149 = .ok (.getfield 22, 3) := by decide +kernel
theorem dX6_layRow_152 : decode cX6_layRow 152 = .ok (.iload 5, 2) := by decide +kernel
theorem dX6_layRow_154 : decode cX6_layRow 154 = .ok (.iaload, 1) := by decide +kernel
theorem dX6_layRow_155 : decode cX6_layRow 155 = .ok (.ishl, 1) := by decide +kernel
theorem dX6_layRow_156 : decode cX6_layRow 156 = .ok (.ior, 1) := by decide +kernel
theorem dX6_layRow_157 : decode cX6_layRow 157 = .ok (.istore_n 3, 1) := by decide +kernel
theorem dX6_layRow_158 : decode cX6_layRow 158 = .ok (.iinc 5 (-1), 3) := by decide +kernel
theorem dX6_layRow_161 : decode cX6_layRow 161 = .ok (.goto (-146), 3) := by decide +kernel
theorem dX6_layRow_164 : decode cX6_layRow 164 = .ok (.iload 4, 2) := by decide +kernel
theorem dX6_layRow_166 : decode cX6_layRow 166 = .ok (.ireturn, 1) := by decide +kernel
theorem dX6_matchOf_0 : decode cX6_matchOf 0 = .ok (.iconst 1, 1) := by decide +kernel
theorem dX6_matchOf_1 : decode cX6_matchOf 1 = .ok (.istore_n 2, 1) := by decide +kernel
theorem dX6_matchOf_2 : decode cX6_matchOf 2 = .ok (.iconst 0, 1) := by decide +kernel
theorem dX6_matchOf_3 : decode cX6_matchOf 3 = .ok (.istore_n 3, 1) := by decide +kernel
theorem dX6_matchOf_4 : decode cX6_matchOf 4 = .ok (.iload_n 3, 1) := by decide +kernel
theorem dX6_matchOf_5 : decode cX6_matchOf 5 = .ok (.aload_n 0, 1) := by decide +kernel
theorem dX6_matchOf_6 : decode cX6_matchOf 6 = .ok (.getfield 77, 3) := by decide +kernel
theorem dX6_matchOf_9 : decode cX6_matchOf 9 = .ok (.if_icmp .ge 18, 3) := by decide +kernel
theorem dX6_matchOf_12 : decode cX6_matchOf 12 = .ok (.iload_n 2, 1) := by decide +kernel
theorem dX6_matchOf_13 : decode cX6_matchOf 13 = .ok (.aload_n 0, 1) := by decide +kernel
theorem dX6_matchOf_14 : decode cX6_matchOf 14 = .ok (.getfield 74, 3) := by decide +kernel
theorem dX6_matchOf_17 : decode cX6_matchOf 17 = .ok (.iconst 1, 1) := by decide +kernel
theorem dX6_matchOf_18 : decode cX6_matchOf 18 = .ok (.iadd, 1) := by decide +kernel
theorem dX6_matchOf_19 : decode cX6_matchOf 19 = .ok (.imul, 1) := by decide +kernel
theorem dX6_matchOf_20 : decode cX6_matchOf 20 = .ok (.istore_n 2, 1) := by decide +kernel
theorem dX6_matchOf_21 : decode cX6_matchOf 21 = .ok (.iinc 3 1, 3) := by decide +kernel
theorem dX6_matchOf_24 : decode cX6_matchOf 24 = .ok (.goto (-20), 3) := by decide +kernel
theorem dX6_matchOf_27 : decode cX6_matchOf 27 = .ok (.iconst (-1), 1) := by decide +kernel
theorem dX6_matchOf_28 : decode cX6_matchOf 28 = .ok (.istore_n 3, 1) := by decide +kernel
theorem dX6_matchOf_29 : decode cX6_matchOf 29 = .ok (.iconst 0, 1) := by decide +kernel
theorem dX6_matchOf_30 : decode cX6_matchOf 30 = .ok (.istore 4, 2) := by decide +kernel
theorem dX6_matchOf_32 : decode cX6_matchOf 32 = .ok (.iconst 0, 1) := by decide +kernel
theorem dX6_matchOf_33 : decode cX6_matchOf 33 = .ok (.istore 5, 2) := by decide +kernel
theorem dX6_matchOf_35 : decode cX6_matchOf 35 = .ok (.iload 5, 2) := by decide +kernel
theorem dX6_matchOf_37 : decode cX6_matchOf 37 = .ok (.iload_n 2, 1) := by decide +kernel
theorem dX6_matchOf_38 : decode cX6_matchOf 38 = .ok (.if_icmp .ge 133, 3) := by decide +kernel
theorem dX6_matchOf_41 : decode cX6_matchOf 41 = .ok (.aload_n 0, 1) := by decide +kernel
theorem dX6_matchOf_42 : decode cX6_matchOf 42 = .ok (.iload 5, 2) := by decide +kernel
theorem dX6_matchOf_44 : decode cX6_matchOf 44 = .ok (.invokevirtual 148, 3) := by decide +kernel
theorem dX6_matchOf_47 : decode cX6_matchOf 47 = .ok (.ifCond .eq 118, 3) := by decide +kernel
theorem dX6_matchOf_50 : decode cX6_matchOf 50 = .ok (.iconst 0, 1) := by decide +kernel
theorem dX6_matchOf_51 : decode cX6_matchOf 51 = .ok (.istore 6, 2) := by decide +kernel
theorem dX6_matchOf_53 : decode cX6_matchOf 53 = .ok (.iconst 0, 1) := by decide +kernel
theorem dX6_matchOf_54 : decode cX6_matchOf 54 = .ok (.istore 7, 2) := by decide +kernel
theorem dX6_matchOf_56 : decode cX6_matchOf 56 = .ok (.iconst 0, 1) := by decide +kernel
theorem dX6_matchOf_57 : decode cX6_matchOf 57 = .ok (.istore 8, 2) := by decide +kernel
theorem dX6_matchOf_59 : decode cX6_matchOf 59 = .ok (.iload 8, 2) := by decide +kernel
theorem dX6_matchOf_61 : decode cX6_matchOf 61 = .ok (.aload_n 0, 1) := by decide +kernel
theorem dX6_matchOf_62 : decode cX6_matchOf 62 = .ok (.getfield 77, 3) := by decide +kernel
theorem dX6_matchOf_65 : decode cX6_matchOf 65 = .ok (.if_icmp .ge 63, 3) := by decide +kernel
theorem dX6_matchOf_68 : decode cX6_matchOf 68 = .ok (.iload 6, 2) := by decide +kernel
theorem dX6_matchOf_70 : decode cX6_matchOf 70 = .ok (.aload_n 0, 1) := by decide +kernel
theorem dX6_matchOf_71 : decode cX6_matchOf 71 = .ok (.getfield 22, 3) := by decide +kernel
theorem dX6_matchOf_74 : decode cX6_matchOf 74 = .ok (.iload 8, 2) := by decide +kernel
theorem dX6_matchOf_76 : decode cX6_matchOf 76 = .ok (.iaload, 1) := by decide +kernel
theorem dX6_matchOf_77 : decode cX6_matchOf 77 = .ok (.iconst (-1), 1) := by decide +kernel
theorem dX6_matchOf_78 : decode cX6_matchOf 78 = .ok (.if_icmp .ne 7, 3) := by decide +kernel
theorem dX6_matchOf_81 : decode cX6_matchOf 81 = .ok (.iconst 0, 1) := by decide +kernel
theorem dX6_matchOf_82 : decode cX6_matchOf 82 = .ok (.goto 4, 3) := by decide +kernel
theorem dX6_matchOf_85 : decode cX6_matchOf 85 = .ok (.iconst 1, 1) := by decide +kernel
theorem dX6_matchOf_86 : decode cX6_matchOf 86 = .ok (.iadd, 1) := by decide +kernel
theorem dX6_matchOf_87 : decode cX6_matchOf 87 = .ok (.istore 6, 2) := by decide +kernel
theorem dX6_matchOf_89 : decode cX6_matchOf 89 = .ok (.iload 7, 2) := by decide +kernel
theorem dX6_matchOf_91 : decode cX6_matchOf 91 = .ok (.aload_n 0, 1) := by decide +kernel
theorem dX6_matchOf_92 : decode cX6_matchOf 92 = .ok (.getfield 22, 3) := by decide +kernel
theorem dX6_matchOf_95 : decode cX6_matchOf 95 = .ok (.iload 8, 2) := by decide +kernel
theorem dX6_matchOf_97 : decode cX6_matchOf 97 = .ok (.iaload, 1) := by decide +kernel
theorem dX6_matchOf_98 : decode cX6_matchOf 98 = .ok (.iconst (-1), 1) := by decide +kernel
theorem dX6_matchOf_99 : decode cX6_matchOf 99 = .ok (.if_icmp .ne 7, 3) := by decide +kernel
theorem dX6_matchOf_102 : decode cX6_matchOf 102 = .ok (.iconst 0, 1) := by decide +kernel
theorem dX6_matchOf_103 : decode cX6_matchOf 103 = .ok (.goto 16, 3) := by decide +kernel
theorem dX6_matchOf_106 : decode cX6_matchOf 106 = .ok (.aload_n 0, 1) := by decide +kernel
theorem dX6_matchOf_107 : decode cX6_matchOf 107 = .ok (.aload_n 0, 1) := by decide +kernel
theorem dX6_matchOf_108 : decode cX6_matchOf 108 = .ok (.getfield 22, 3) := by decide +kernel
theorem dX6_matchOf_111 : decode cX6_matchOf 111 = .ok (.iload 8, 2) := by decide +kernel
theorem dX6_matchOf_113 : decode cX6_matchOf 113 = .ok (.iaload, 1) := by decide +kernel
theorem dX6_matchOf_114 : decode cX6_matchOf 114 = .ok (.iload 8, 2) := by decide +kernel
theorem dX6_matchOf_116 : decode cX6_matchOf 116 = .ok (.invokevirtual 99, 3) := by decide +kernel
theorem dX6_matchOf_119 : decode cX6_matchOf 119 = .ok (.iadd, 1) := by decide +kernel
theorem dX6_matchOf_120 : decode cX6_matchOf 120 = .ok (.istore 7, 2) := by decide +kernel
theorem dX6_matchOf_122 : decode cX6_matchOf 122 = .ok (.iinc 8 1, 3) := by decide +kernel
theorem dX6_matchOf_125 : decode cX6_matchOf 125 = .ok (.goto (-66), 3) := by decide +kernel
theorem dX6_matchOf_128 : decode cX6_matchOf 128 = .ok (.iload 6, 2) := by decide +kernel
theorem dX6_matchOf_130 : decode cX6_matchOf 130 = .ok (.iload_n 3, 1) := by decide +kernel
theorem dX6_matchOf_131 : decode cX6_matchOf 131 = .ok (.if_icmp .gt 16, 3) := by decide +kernel
theorem dX6_matchOf_134 : decode cX6_matchOf 134 = .ok (.iload 6, 2) := by decide +kernel
theorem dX6_matchOf_136 : decode cX6_matchOf 136 = .ok (.iload_n 3, 1) := by decide +kernel
theorem dX6_matchOf_137 : decode cX6_matchOf 137 = .ok (.if_icmp .ne 28, 3) := by decide +kernel
theorem dX6_matchOf_140 : decode cX6_matchOf 140 = .ok (.iload 7, 2) := by decide +kernel
theorem dX6_matchOf_142 : decode cX6_matchOf 142 = .ok (.iload 4, 2) := by decide +kernel
theorem dX6_matchOf_144 : decode cX6_matchOf 144 = .ok (.if_icmp .ge 21, 3) := by decide +kernel
theorem dX6_matchOf_147 : decode cX6_matchOf 147 = .ok (.iload 6, 2) := by decide +kernel
theorem dX6_matchOf_149 : decode cX6_matchOf 149 = .ok (.istore_n 3, 1) := by decide +kernel
theorem dX6_matchOf_150 : decode cX6_matchOf 150 = .ok (.iload 7, 2) := by decide +kernel
theorem dX6_matchOf_152 : decode cX6_matchOf 152 = .ok (.istore 4, 2) := by decide +kernel
theorem dX6_matchOf_154 : decode cX6_matchOf 154 = .ok (.aload_n 0, 1) := by decide +kernel
theorem dX6_matchOf_155 : decode cX6_matchOf 155 = .ok (.getfield 22, 3) := by decide +kernel
theorem dX6_matchOf_158 : decode cX6_matchOf 158 = .ok (.aload_n 0, 1) := by decide +kernel
theorem dX6_matchOf_159 : decode cX6_matchOf 159 = .ok (.getfield 25, 3) := by decide +kernel
theorem dX6_matchOf_162 : decode cX6_matchOf 162 = .ok (.invokestatic 151, 3) := by decide +kernel
theorem dX6_matchOf_165 : decode cX6_matchOf 165 = .ok (.iinc 5 1, 3) := by decide +kernel
theorem dX6_matchOf_168 : decode cX6_matchOf 168 = .ok (.goto (-133), 3) := by decide +kernel
theorem dX6_matchOf_171 : decode cX6_matchOf 171 = .ok (.iload_n 1, 1) := by decide +kernel
theorem dX6_matchOf_172 : decode cX6_matchOf 172 = .ok (.ifCond .ne 7, 3) := by decide +kernel
theorem dX6_matchOf_175 : decode cX6_matchOf 175 = .ok (.iload_n 3, 1) := by decide +kernel
theorem dX6_matchOf_176 : decode cX6_matchOf 176 = .ok (.goto 37, 3) := by decide +kernel
theorem dX6_matchOf_179 : decode cX6_matchOf 179 = .ok (.iload_n 1, 1) := by decide +kernel
theorem dX6_matchOf_180 : decode cX6_matchOf 180 = .ok (.iconst 1, 1) := by decide +kernel
theorem dX6_matchOf_181 : decode cX6_matchOf 181 = .ok (.if_icmp .ne 8, 3) := by decide +kernel
theorem dX6_matchOf_184 : decode cX6_matchOf 184 = .ok (.iload 4, 2) := by decide +kernel
theorem dX6_matchOf_186 : decode cX6_matchOf 186 = .ok (.goto 27, 3) := by decide +kernel
theorem dX6_matchOf_189 : decode cX6_matchOf 189 = .ok (.iload_n 1, 1) := by decide +kernel
theorem dX6_matchOf_190 : decode cX6_matchOf 190 = .ok (.bipush 10, 2) := by decide +kernel
theorem dX6_matchOf_192 : decode cX6_matchOf 192 = .ok (.isub, 1) := by decide +kernel
theorem dX6_matchOf_193 : decode cX6_matchOf 193 = .ok (.aload_n 0, 1) := by decide +kernel
theorem dX6_matchOf_194 : decode cX6_matchOf 194 = .ok (.getfield 77, 3) := by decide +kernel
theorem dX6_matchOf_197 : decode cX6_matchOf 197 = .ok (.if_icmp .ge 15, 3) := by decide +kernel
theorem dX6_matchOf_200 : decode cX6_matchOf 200 = .ok (.aload_n 0, 1) := by decide +kernel
theorem dX6_matchOf_201 : decode cX6_matchOf 201 = .ok (.getfield 25, 3) := by decide +kernel
theorem dX6_matchOf_204 : decode cX6_matchOf 204 = .ok (.iload_n 1, 1) := by decide +kernel
theorem dX6_matchOf_205 : decode cX6_matchOf 205 = .ok (.bipush 10, 2) := by decide +kernel
theorem dX6_matchOf_207 : decode cX6_matchOf 207 = .ok (.isub, 1) := by decide +kernel
theorem dX6_matchOf_208 : decode cX6_matchOf 208 = .ok (.iaload, 1) := by decide +kernel
theorem dX6_matchOf_209 : decode cX6_matchOf 209 = .ok (.goto 4, 3) := by decide +kernel
theorem dX6_matchOf_212 : decode cX6_matchOf 212 = .ok (.iconst (-1), 1) := by decide +kernel
theorem dX6_matchOf_213 : decode cX6_matchOf 213 = .ok (.ireturn, 1) := by decide +kernel
theorem dX6_match_0 : decode cX6_match 0 = .ok (.iload_n 1, 1) := by decide +kernel
theorem dX6_match_1 : decode cX6_match 1 = .ok (.i2l, 1) := by decide +kernel
theorem dX6_match_2 : decode cX6_match 2 = .ok (.lconst 0, 1) := by decide +kernel
theorem dX6_match_3 : decode cX6_match 3 = .ok (.lconst 1, 1) := by decide +kernel
theorem dX6_match_4 : decode cX6_match 4 = .ok (.invokestatic 49, 3) := by decide +kernel
theorem dX6_match_7 : decode cX6_match 7 = .ok (.ifCond .ne 20, 3) := by decide +kernel
theorem dX6_match_10 : decode cX6_match 10 = .ok (.iload_n 1, 1) := by decide +kernel
theorem dX6_match_11 : decode cX6_match 11 = .ok (.i2l, 1) := by decide +kernel
theorem dX6_match_12 : decode cX6_match 12 = .ok (.ldc2_w 155, 3) := by decide +kernel
theorem dX6_match_15 : decode cX6_match 15 = .ok (.ldc2_w 157, 3) := by decide +kernel
theorem dX6_match_18 : decode cX6_match 18 = .ok (.invokestatic 49, 3) := by decide +kernel
theorem dX6_match_21 : decode cX6_match 21 = .ok (.ifCond .ne 6, 3) := by decide +kernel
theorem dX6_match_24 : decode cX6_match 24 = .ok (.bipush (-102), 2) := by decide +kernel
theorem dX6_match_26 : decode cX6_match 26 = .ok (.ireturn, 1) := by decide +kernel
theorem dX6_match_27 : decode cX6_match 27 = .ok (.aload_n 0, 1) := by decide +kernel
theorem dX6_match_28 : decode cX6_match 28 = .ok (.invokevirtual 141, 3) := by decide +kernel
theorem dX6_match_31 : decode cX6_match 31 = .ok (.ifCond .eq 8, 3) := by decide +kernel
theorem dX6_match_34 : decode cX6_match 34 = .ok (.bipush (-103), 2) := by decide +kernel
theorem dX6_match_36 : decode cX6_match 36 = .ok (.goto 8, 3) := by decide +kernel
theorem dX6_match_39 : decode cX6_match 39 = .ok (.aload_n 0, 1) := by decide +kernel
theorem dX6_match_40 : decode cX6_match 40 = .ok (.iload_n 1, 1) := by decide +kernel
theorem dX6_match_41 : decode cX6_match 41 = .ok (.invokevirtual 159, 3) := by decide +kernel
theorem dX6_match_44 : decode cX6_match 44 = .ok (.ireturn, 1) := by decide +kernel
theorem dX6_see_0 : decode cX6_see 0 = .ok (.aload_n 0, 1) := by decide +kernel
theorem dX6_see_1 : decode cX6_see 1 = .ok (.iload_n 1, 1) := by decide +kernel
theorem dX6_see_2 : decode cX6_see 2 = .ok (.invokevirtual 119, 3) := by decide +kernel
theorem dX6_see_5 : decode cX6_see 5 = .ok (.ifCond .eq 11, 3) := by decide +kernel
theorem dX6_see_8 : decode cX6_see 8 = .ok (.aload_n 0, 1) := by decide +kernel
theorem dX6_see_9 : decode cX6_see 9 = .ok (.iload_n 2, 1) := by decide +kernel
theorem dX6_see_10 : decode cX6_see 10 = .ok (.invokevirtual 131, 3) := by decide +kernel
theorem dX6_see_13 : decode cX6_see 13 = .ok (.ifCond .ne 6, 3) := by decide +kernel
theorem dX6_see_16 : decode cX6_see 16 = .ok (.bipush (-101), 2) := by decide +kernel
theorem dX6_see_18 : decode cX6_see 18 = .ok (.ireturn, 1) := by decide +kernel
theorem dX6_see_19 : decode cX6_see 19 = .ok (.aload_n 0, 1) := by decide +kernel
theorem dX6_see_20 : decode cX6_see 20 = .ok (.getfield 89, 3) := by decide +kernel
theorem dX6_see_23 : decode cX6_see 23 = .ok (.bipush 8, 2) := by decide +kernel
theorem dX6_see_25 : decode cX6_see 25 = .ok (.if_icmp .ne 6, 3) := by decide +kernel
theorem dX6_see_28 : decode cX6_see 28 = .ok (.bipush (-104), 2) := by decide +kernel
theorem dX6_see_30 : decode cX6_see 30 = .ok (.ireturn, 1) := by decide +kernel
theorem dX6_see_31 : decode cX6_see 31 = .ok (.aload_n 0, 1) := by decide +kernel
theorem dX6_see_32 : decode cX6_see 32 = .ok (.getfield 28, 3) := by decide +kernel
theorem dX6_see_35 : decode cX6_see 35 = .ok (.iconst 3, 1) := by decide +kernel
theorem dX6_see_36 : decode cX6_see 36 = .ok (.aload_n 0, 1) := by decide +kernel
theorem dX6_see_37 : decode cX6_see 37 = .ok (.getfield 89, 3) := by decide +kernel
theorem dX6_see_40 : decode cX6_see 40 = .ok (.imul, 1) := by decide +kernel
theorem dX6_see_41 : decode cX6_see 41 = .ok (.iload_n 1, 1) := by decide +kernel
theorem dX6_see_42 : decode cX6_see 42 = .ok (.iastore, 1) := by decide +kernel
theorem dX6_see_43 : decode cX6_see 43 = .ok (.aload_n 0, 1) := by decide +kernel
theorem dX6_see_44 : decode cX6_see 44 = .ok (.getfield 28, 3) := by decide +kernel
theorem dX6_see_47 : decode cX6_see 47 = .ok (.iconst 3, 1) := by decide +kernel
theorem dX6_see_48 : decode cX6_see 48 = .ok (.aload_n 0, 1) := by decide +kernel
theorem dX6_see_49 : decode cX6_see 49 = .ok (.getfield 89, 3) := by decide +kernel
theorem dX6_see_52 : decode cX6_see 52 = .ok (.imul, 1) := by decide +kernel
theorem dX6_see_53 : decode cX6_see 53 = .ok (.iconst 1, 1) := by decide +kernel
theorem dX6_see_54 : decode cX6_see 54 = .ok (.iadd, 1) := by decide +kernel
theorem dX6_see_55 : decode cX6_see 55 = .ok (.iload_n 2, 1) := by decide +kernel
theorem dX6_see_56 : decode cX6_see 56 = .ok (.iastore, 1) := by decide +kernel
theorem dX6_see_57 : decode cX6_see 57 = .ok (.aload_n 0, 1) := by decide +kernel
theorem dX6_see_58 : decode cX6_see 58 = .ok (.getfield 28, 3) := by decide +kernel
theorem dX6_see_61 : decode cX6_see 61 = .ok (.iconst 3, 1) := by decide +kernel
theorem dX6_see_62 : decode cX6_see 62 = .ok (.aload_n 0, 1) := by decide +kernel
theorem dX6_see_63 : decode cX6_see 63 = .ok (.getfield 89, 3) := by decide +kernel
theorem dX6_see_66 : decode cX6_see 66 = .ok (.imul, 1) := by decide +kernel
theorem dX6_see_67 : decode cX6_see 67 = .ok (.iconst 2, 1) := by decide +kernel
theorem dX6_see_68 : decode cX6_see 68 = .ok (.iadd, 1) := by decide +kernel
theorem dX6_see_69 : decode cX6_see 69 = .ok (.iload_n 3, 1) := by decide +kernel
theorem dX6_see_70 : decode cX6_see 70 = .ok (.ifCond .eq 7, 3) := by decide +kernel
theorem dX6_see_73 : decode cX6_see 73 = .ok (.iconst 1, 1) := by decide +kernel
theorem dX6_see_74 : decode cX6_see 74 = .ok (.goto 4, 3) := by decide +kernel
theorem dX6_see_77 : decode cX6_see 77 = .ok (.iconst 0, 1) := by decide +kernel
theorem dX6_see_78 : decode cX6_see 78 = .ok (.iastore, 1) := by decide +kernel
theorem dX6_see_79 : decode cX6_see 79 = .ok (.aload_n 0, 1) := by decide +kernel
theorem dX6_see_80 : decode cX6_see 80 = .ok (.dup, 1) := by decide +kernel
theorem dX6_see_81 : decode cX6_see 81 = .ok (.getfield 89, 3) := by decide +kernel
theorem dX6_see_84 : decode cX6_see 84 = .ok (.iconst 1, 1) := by decide +kernel
theorem dX6_see_85 : decode cX6_see 85 = .ok (.iadd, 1) := by decide +kernel
theorem dX6_see_86 : decode cX6_see 86 = .ok (.putfield 89, 3) := by decide +kernel
theorem dX6_see_89 : decode cX6_see 89 = .ok (.aload_n 0, 1) := by decide +kernel
theorem dX6_see_90 : decode cX6_see 90 = .ok (.getfield 89, 3) := by decide +kernel
theorem dX6_see_93 : decode cX6_see 93 = .ok (.ireturn, 1) := by decide +kernel
theorem dX6_forget_0 : decode cX6_forget 0 = .ok (.aload_n 0, 1) := by decide +kernel
theorem dX6_forget_1 : decode cX6_forget 1 = .ok (.getfield 89, 3) := by decide +kernel
theorem dX6_forget_4 : decode cX6_forget 4 = .ok (.istore_n 1, 1) := by decide +kernel
theorem dX6_forget_5 : decode cX6_forget 5 = .ok (.aload_n 0, 1) := by decide +kernel
theorem dX6_forget_6 : decode cX6_forget 6 = .ok (.iconst 0, 1) := by decide +kernel
theorem dX6_forget_7 : decode cX6_forget 7 = .ok (.putfield 89, 3) := by decide +kernel
theorem dX6_forget_10 : decode cX6_forget 10 = .ok (.iload_n 1, 1) := by decide +kernel
theorem dX6_forget_11 : decode cX6_forget 11 = .ok (.ireturn, 1) := by decide +kernel
theorem dX6_yearsOf_0 : decode cX6_yearsOf 0 = .ok (.iconst 0, 1) := by decide +kernel
theorem dX6_yearsOf_1 : decode cX6_yearsOf 1 = .ok (.istore_n 2, 1) := by decide +kernel
theorem dX6_yearsOf_2 : decode cX6_yearsOf 2 = .ok (.iconst 0, 1) := by decide +kernel
theorem dX6_yearsOf_3 : decode cX6_yearsOf 3 = .ok (.istore_n 3, 1) := by decide +kernel
theorem dX6_yearsOf_4 : decode cX6_yearsOf 4 = .ok (.iload_n 3, 1) := by decide +kernel
theorem dX6_yearsOf_5 : decode cX6_yearsOf 5 = .ok (.bipush 10, 2) := by decide +kernel
theorem dX6_yearsOf_7 : decode cX6_yearsOf 7 = .ok (.if_icmp .ge 123, 3) := by decide +kernel
theorem dX6_yearsOf_10 : decode cX6_yearsOf 10 = .ok (.iconst 1, 1) := by decide +kernel
theorem dX6_yearsOf_11 : decode cX6_yearsOf 11 = .ok (.istore 4, 2) := by decide +kernel
theorem dX6_yearsOf_13 : decode cX6_yearsOf 13 = .ok (.iconst 0, 1) := by decide +kernel
theorem dX6_yearsOf_14 : decode cX6_yearsOf 14 = .ok (.istore 5, 2) := by decide +kernel
theorem dX6_yearsOf_16 : decode cX6_yearsOf 16 = .ok (.iload 5, 2) := by decide +kernel
theorem dX6_yearsOf_18 : decode cX6_yearsOf 18 = .ok (.aload_n 0, 1) := by decide +kernel
theorem dX6_yearsOf_19 : decode cX6_yearsOf 19 = .ok (.getfield 89, 3) := by decide +kernel
theorem dX6_yearsOf_22 : decode cX6_yearsOf 22 = .ok (.if_icmp .ge 87, 3) := by decide +kernel
theorem dX6_yearsOf_25 : decode cX6_yearsOf 25 = .ok (.aload_n 0, 1) := by decide +kernel
theorem dX6_yearsOf_26 : decode cX6_yearsOf 26 = .ok (.getfield 28, 3) := by decide +kernel
theorem dX6_yearsOf_29 : decode cX6_yearsOf 29 = .ok (.iconst 3, 1) := by decide +kernel
theorem dX6_yearsOf_30 : decode cX6_yearsOf 30 = .ok (.iload 5, 2) := by decide +kernel
theorem dX6_yearsOf_32 : decode cX6_yearsOf 32 = .ok (.imul, 1) := by decide +kernel
theorem dX6_yearsOf_33 : decode cX6_yearsOf 33 = .ok (.iconst 1, 1) := by decide +kernel
theorem dX6_yearsOf_34 : decode cX6_yearsOf 34 = .ok (.iadd, 1) := by decide +kernel
theorem dX6_yearsOf_35 : decode cX6_yearsOf 35 = .ok (.iaload, 1) := by decide +kernel
theorem dX6_yearsOf_36 : decode cX6_yearsOf 36 = .ok (.istore 6, 2) := by decide +kernel
theorem dX6_yearsOf_38 : decode cX6_yearsOf 38 = .ok (.aload_n 0, 1) := by decide +kernel
theorem dX6_yearsOf_39 : decode cX6_yearsOf 39 = .ok (.iload 6, 2) := by decide +kernel
theorem dX6_yearsOf_41 : decode cX6_yearsOf 41 = .ok (.aload_n 0, 1) := by decide +kernel
theorem dX6_yearsOf_42 : decode cX6_yearsOf 42 = .ok (.iload_n 1, 1) := by decide +kernel
theorem dX6_yearsOf_43 : decode cX6_yearsOf 43 = .ok (.iload 6, 2) := by decide +kernel
theorem dX6_yearsOf_45 : decode cX6_yearsOf 45 = .ok (.iload_n 3, 1) := by decide +kernel
theorem dX6_yearsOf_46 : decode cX6_yearsOf 46 = .ok (.invokevirtual 95, 3) := by decide +kernel
theorem dX6_yearsOf_49 : decode cX6_yearsOf 49 = .ok (.invokevirtual 103, 3) := by decide +kernel
theorem dX6_yearsOf_52 : decode cX6_yearsOf 52 = .ok (.ifCond .eq 7, 3) := by decide +kernel
theorem dX6_yearsOf_55 : decode cX6_yearsOf 55 = .ok (.iconst 1, 1) := by decide +kernel
theorem dX6_yearsOf_56 : decode cX6_yearsOf 56 = .ok (.goto 4, 3) := by decide +kernel
theorem dX6_yearsOf_59 : decode cX6_yearsOf 59 = .ok (.iconst 0, 1) := by decide +kernel
theorem dX6_yearsOf_60 : decode cX6_yearsOf 60 = .ok (.istore 7, 2) := by decide +kernel
theorem dX6_yearsOf_62 : decode cX6_yearsOf 62 = .ok (.iload 4, 2) := by decide +kernel
theorem dX6_yearsOf_64 : decode cX6_yearsOf 64 = .ok (.ifCond .eq 36, 3) := by decide +kernel
theorem dX6_yearsOf_67 : decode cX6_yearsOf 67 = .ok (.aload_n 0, 1) := by decide +kernel
theorem dX6_yearsOf_68 : decode cX6_yearsOf 68 = .ok (.getfield 28, 3) := by decide +kernel
theorem dX6_yearsOf_71 : decode cX6_yearsOf 71 = .ok (.iconst 3, 1) := by decide +kernel
theorem dX6_yearsOf_72 : decode cX6_yearsOf 72 = .ok (.iload 5, 2) := by decide +kernel
theorem dX6_yearsOf_74 : decode cX6_yearsOf 74 = .ok (.imul, 1) := by decide +kernel
theorem dX6_yearsOf_75 : decode cX6_yearsOf 75 = .ok (.iaload, 1) := by decide +kernel
theorem dX6_yearsOf_76 : decode cX6_yearsOf 76 = .ok (.iload_n 1, 1) := by decide +kernel
theorem dX6_yearsOf_77 : decode cX6_yearsOf 77 = .ok (.if_icmp .ne 19, 3) := by decide +kernel
theorem dX6_yearsOf_80 : decode cX6_yearsOf 80 = .ok (.iload 7, 2) := by decide +kernel
theorem dX6_yearsOf_82 : decode cX6_yearsOf 82 = .ok (.aload_n 0, 1) := by decide +kernel
theorem dX6_yearsOf_83 : decode cX6_yearsOf 83 = .ok (.getfield 28, 3) := by decide +kernel
theorem dX6_yearsOf_86 : decode cX6_yearsOf 86 = .ok (.iconst 3, 1) := by decide +kernel
theorem dX6_yearsOf_87 : decode cX6_yearsOf 87 = .ok (.iload 5, 2) := by decide +kernel
theorem dX6_yearsOf_89 : decode cX6_yearsOf 89 = .ok (.imul, 1) := by decide +kernel
theorem dX6_yearsOf_90 : decode cX6_yearsOf 90 = .ok (.iconst 2, 1) := by decide +kernel
theorem dX6_yearsOf_91 : decode cX6_yearsOf 91 = .ok (.iadd, 1) := by decide +kernel
theorem dX6_yearsOf_92 : decode cX6_yearsOf 92 = .ok (.iaload, 1) := by decide +kernel
theorem dX6_yearsOf_93 : decode cX6_yearsOf 93 = .ok (.if_icmp .ne 7, 3) := by decide +kernel
theorem dX6_yearsOf_96 : decode cX6_yearsOf 96 = .ok (.iconst 1, 1) := by decide +kernel
theorem dX6_yearsOf_97 : decode cX6_yearsOf 97 = .ok (.goto 4, 3) := by decide +kernel
theorem dX6_yearsOf_100 : decode cX6_yearsOf 100 = .ok (.iconst 0, 1) := by decide +kernel
theorem dX6_yearsOf_101 : decode cX6_yearsOf 101 = .ok (.istore 4, 2) := by decide +kernel
theorem dX6_yearsOf_103 : decode cX6_yearsOf 103 = .ok (.iinc 5 1, 3) := by decide +kernel
theorem dX6_yearsOf_106 : decode cX6_yearsOf 106 = .ok (.goto (-90), 3) := by decide +kernel
theorem dX6_yearsOf_109 : decode cX6_yearsOf 109 = .ok (.iload_n 2, 1) := by decide +kernel
theorem dX6_yearsOf_110 : decode cX6_yearsOf 110 = .ok (.iload 4, 2) := by decide +kernel
theorem dX6_yearsOf_112 : decode cX6_yearsOf 112 = .ok (.ifCond .eq 9, 3) := by decide +kernel
theorem dX6_yearsOf_115 : decode cX6_yearsOf 115 = .ok (.iconst 1, 1) := by decide +kernel
theorem dX6_yearsOf_116 : decode cX6_yearsOf 116 = .ok (.iload_n 3, 1) := by decide +kernel
theorem dX6_yearsOf_117 : decode cX6_yearsOf 117 = .ok (.ishl, 1) := by decide +kernel
theorem dX6_yearsOf_118 : decode cX6_yearsOf 118 = .ok (.goto 4, 3) := by decide +kernel
theorem dX6_yearsOf_121 : decode cX6_yearsOf 121 = .ok (.iconst 0, 1) := by decide +kernel
theorem dX6_yearsOf_122 : decode cX6_yearsOf 122 = .ok (.ior, 1) := by decide +kernel
theorem dX6_yearsOf_123 : decode cX6_yearsOf 123 = .ok (.istore_n 2, 1) := by decide +kernel
theorem dX6_yearsOf_124 : decode cX6_yearsOf 124 = .ok (.iinc 3 1, 3) := by decide +kernel
theorem dX6_yearsOf_127 : decode cX6_yearsOf 127 = .ok (.goto (-123), 3) := by decide +kernel
theorem dX6_yearsOf_130 : decode cX6_yearsOf 130 = .ok (.iload_n 2, 1) := by decide +kernel
theorem dX6_yearsOf_131 : decode cX6_yearsOf 131 = .ok (.ireturn, 1) := by decide +kernel
theorem dX6_showOf_0 : decode cX6_showOf 0 = .ok (.aload_n 0, 1) := by decide +kernel
theorem dX6_showOf_1 : decode cX6_showOf 1 = .ok (.iload_n 1, 1) := by decide +kernel
theorem dX6_showOf_2 : decode cX6_showOf 2 = .ok (.invokevirtual 113, 3) := by decide +kernel
theorem dX6_showOf_5 : decode cX6_showOf 5 = .ok (.istore_n 2, 1) := by decide +kernel
theorem dX6_showOf_6 : decode cX6_showOf 6 = .ok (.iconst (-1), 1) := by decide +kernel
theorem dX6_showOf_7 : decode cX6_showOf 7 = .ok (.istore_n 3, 1) := by decide +kernel
theorem dX6_showOf_8 : decode cX6_showOf 8 = .ok (.bipush 11, 2) := by decide +kernel
theorem dX6_showOf_10 : decode cX6_showOf 10 = .ok (.istore 4, 2) := by decide +kernel
theorem dX6_showOf_12 : decode cX6_showOf 12 = .ok (.iconst 0, 1) := by decide +kernel
theorem dX6_showOf_13 : decode cX6_showOf 13 = .ok (.istore 5, 2) := by decide +kernel
theorem dX6_showOf_15 : decode cX6_showOf 15 = .ok (.iload 5, 2) := by decide +kernel
theorem dX6_showOf_17 : decode cX6_showOf 17 = .ok (.aload_n 0, 1) := by decide +kernel
theorem dX6_showOf_18 : decode cX6_showOf 18 = .ok (.getfield 77, 3) := by decide +kernel
theorem dX6_showOf_21 : decode cX6_showOf 21 = .ok (.if_icmp .ge 131, 3) := by decide +kernel
theorem dX6_showOf_24 : decode cX6_showOf 24 = .ok (.iload_n 2, 1) := by decide +kernel
theorem dX6_showOf_25 : decode cX6_showOf 25 = .ok (.ifCond .eq 127, 3) := by decide +kernel
theorem dX6_showOf_28 : decode cX6_showOf 28 = .ok (.iconst 0, 1) := by decide +kernel
theorem dX6_showOf_29 : decode cX6_showOf 29 = .ok (.istore 6, 2) := by decide +kernel
theorem dX6_showOf_31 : decode cX6_showOf 31 = .ok (.iconst 0, 1) := by decide +kernel
theorem dX6_showOf_32 : decode cX6_showOf 32 = .ok (.istore 7, 2) := by decide +kernel
theorem dX6_showOf_34 : decode cX6_showOf 34 = .ok (.iconst 0, 1) := by decide +kernel
theorem dX6_showOf_35 : decode cX6_showOf 35 = .ok (.istore 8, 2) := by decide +kernel
theorem dX6_showOf_37 : decode cX6_showOf 37 = .ok (.iload 8, 2) := by decide +kernel
theorem dX6_showOf_39 : decode cX6_showOf 39 = .ok (.bipush 10, 2) := by decide +kernel
theorem dX6_showOf_41 : decode cX6_showOf 41 = .ok (.if_icmp .ge 53, 3) := by decide +kernel
theorem dX6_showOf_44 : decode cX6_showOf 44 = .ok (.iload 7, 2) := by decide +kernel
theorem dX6_showOf_46 : decode cX6_showOf 46 = .ok (.iload_n 2, 1) := by decide +kernel
theorem dX6_showOf_47 : decode cX6_showOf 47 = .ok (.iload 8, 2) := by decide +kernel
theorem dX6_showOf_49 : decode cX6_showOf 49 = .ok (.ishr, 1) := by decide +kernel
theorem dX6_showOf_50 : decode cX6_showOf 50 = .ok (.iconst 1, 1) := by decide +kernel
theorem dX6_showOf_51 : decode cX6_showOf 51 = .ok (.iand, 1) := by decide +kernel
theorem dX6_showOf_52 : decode cX6_showOf 52 = .ok (.iadd, 1) := by decide +kernel
theorem dX6_showOf_53 : decode cX6_showOf 53 = .ok (.istore 7, 2) := by decide +kernel
theorem dX6_showOf_55 : decode cX6_showOf 55 = .ok (.iload 6, 2) := by decide +kernel
theorem dX6_showOf_57 : decode cX6_showOf 57 = .ok (.aload_n 0, 1) := by decide +kernel
theorem dX6_showOf_58 : decode cX6_showOf 58 = .ok (.iload 5, 2) := by decide +kernel
theorem dX6_showOf_60 : decode cX6_showOf 60 = .ok (.aload_n 0, 1) := by decide +kernel
theorem dX6_showOf_61 : decode cX6_showOf 61 = .ok (.iload_n 1, 1) := by decide +kernel
theorem dX6_showOf_62 : decode cX6_showOf 62 = .ok (.iload 5, 2) := by decide +kernel
theorem dX6_showOf_64 : decode cX6_showOf 64 = .ok (.iload 8, 2) := by decide +kernel
theorem dX6_showOf_66 : decode cX6_showOf 66 = .ok (.invokevirtual 95, 3) := by decide +kernel
theorem dX6_showOf_69 : decode cX6_showOf 69 = .ok (.invokevirtual 103, 3) := by decide +kernel
theorem dX6_showOf_72 : decode cX6_showOf 72 = .ok (.ifCond .eq 12, 3) := by decide +kernel
theorem dX6_showOf_75 : decode cX6_showOf 75 = .ok (.iload_n 2, 1) := by decide +kernel
theorem dX6_showOf_76 : decode cX6_showOf 76 = .ok (.iload 8, 2) := by decide +kernel
theorem dX6_showOf_78 : decode cX6_showOf 78 = .ok (.ishr, 1) := by decide +kernel
theorem dX6_showOf_79 : decode cX6_showOf 79 = .ok (.iconst 1, 1) := by decide +kernel
theorem dX6_showOf_80 : decode cX6_showOf 80 = .ok (.iand, 1) := by decide +kernel
theorem dX6_showOf_81 : decode cX6_showOf 81 = .ok (.goto 4, 3) := by decide +kernel
theorem dX6_showOf_84 : decode cX6_showOf 84 = .ok (.iconst 0, 1) := by decide +kernel
theorem dX6_showOf_85 : decode cX6_showOf 85 = .ok (.iadd, 1) := by decide +kernel
theorem dX6_showOf_86 : decode cX6_showOf 86 = .ok (.istore 6, 2) := by decide +kernel
theorem dX6_showOf_88 : decode cX6_showOf 88 = .ok (.iinc 8 1, 3) := by decide +kernel
theorem dX6_showOf_91 : decode cX6_showOf 91 = .ok (.goto (-54), 3) := by decide +kernel
theorem dX6_showOf_94 : decode cX6_showOf 94 = .ok (.iload 6, 2) := by decide +kernel
theorem dX6_showOf_96 : decode cX6_showOf 96 = .ok (.iload 7, 2) := by decide +kernel
theorem dX6_showOf_98 : decode cX6_showOf 98 = .ok (.iload 6, 2) := by decide +kernel
theorem dX6_showOf_100 : decode cX6_showOf 100 = .ok (.isub, 1) := by decide +kernel
theorem dX6_showOf_101 : decode cX6_showOf 101 = .ok (.if_icmp .le 8, 3) := by decide +kernel
theorem dX6_showOf_104 : decode cX6_showOf 104 = .ok (.iload 6, 2) := by decide +kernel
theorem dX6_showOf_106 : decode cX6_showOf 106 = .ok (.goto 8, 3) := by decide +kernel
theorem dX6_showOf_109 : decode cX6_showOf 109 = .ok (.iload 7, 2) := by decide +kernel
theorem dX6_showOf_111 : decode cX6_showOf 111 = .ok (.iload 6, 2) := by decide +kernel
theorem dX6_showOf_113 : decode cX6_showOf 113 = .ok (.isub, 1) := by decide +kernel
theorem dX6_showOf_114 : decode cX6_showOf 114 = .ok (.istore 8, 2) := by decide +kernel
theorem dX6_showOf_116 : decode cX6_showOf 116 = .ok (.iload 8, 2) := by decide +kernel
theorem dX6_showOf_118 : decode cX6_showOf 118 = .ok (.iload 4, 2) := by decide +kernel
theorem dX6_showOf_120 : decode cX6_showOf 120 = .ok (.if_icmp .ge 8, 3) := by decide +kernel
theorem dX6_showOf_123 : decode cX6_showOf 123 = .ok (.iload 5, 2) := by decide +kernel
theorem dX6_showOf_125 : decode cX6_showOf 125 = .ok (.goto 4, 3) := by decide +kernel
theorem dX6_showOf_128 : decode cX6_showOf 128 = .ok (.iload_n 3, 1) := by decide +kernel
theorem dX6_showOf_129 : decode cX6_showOf 129 = .ok (.istore_n 3, 1) := by decide +kernel
theorem dX6_showOf_130 : decode cX6_showOf 130 = .ok (.iload 8, 2) := by decide +kernel
theorem dX6_showOf_132 : decode cX6_showOf 132 = .ok (.iload 4, 2) := by decide +kernel
theorem dX6_showOf_134 : decode cX6_showOf 134 = .ok (.if_icmp .ge 8, 3) := by decide +kernel
theorem dX6_showOf_137 : decode cX6_showOf 137 = .ok (.iload 8, 2) := by decide +kernel
theorem dX6_showOf_139 : decode cX6_showOf 139 = .ok (.goto 5, 3) := by decide +kernel
theorem dX6_showOf_142 : decode cX6_showOf 142 = .ok (.iload 4, 2) := by decide +kernel
theorem dX6_showOf_144 : decode cX6_showOf 144 = .ok (.istore 4, 2) := by decide +kernel
theorem dX6_showOf_146 : decode cX6_showOf 146 = .ok (.iinc 5 1, 3) := by decide +kernel
theorem dX6_showOf_149 : decode cX6_showOf 149 = .ok (.goto (-134), 3) := by decide +kernel
theorem dX6_showOf_152 : decode cX6_showOf 152 = .ok (.iload_n 3, 1) := by decide +kernel
theorem dX6_showOf_153 : decode cX6_showOf 153 = .ok (.ireturn, 1) := by decide +kernel
theorem dX6_draw_0 : decode cX6_draw 0 = .ok (.aload_n 0, 1) := by decide +kernel
theorem dX6_draw_1 : decode cX6_draw 1 = .ok (.ldc2_w 162, 3) := by decide +kernel
theorem dX6_draw_4 : decode cX6_draw 4 = .ok (.aload_n 0, 1) := by decide +kernel
theorem dX6_draw_5 : decode cX6_draw 5 = .ok (.getfield 164, 3) := by decide +kernel
theorem dX6_draw_8 : decode cX6_draw 8 = .ok (.i2l, 1) := by decide +kernel
theorem dX6_draw_9 : decode cX6_draw 9 = .ok (.lmul, 1) := by decide +kernel
theorem dX6_draw_10 : decode cX6_draw 10 = .ok (.ldc2_w 167, 3) := by decide +kernel
theorem dX6_draw_13 : decode cX6_draw 13 = .ok (.ladd, 1) := by decide +kernel
theorem dX6_draw_14 : decode cX6_draw 14 = .ok (.ldc2_w 169, 3) := by decide +kernel
theorem dX6_draw_17 : decode cX6_draw 17 = .ok (.land, 1) := by decide +kernel
theorem dX6_draw_18 : decode cX6_draw 18 = .ok (.l2i, 1) := by decide +kernel
theorem dX6_draw_19 : decode cX6_draw 19 = .ok (.putfield 164, 3) := by decide +kernel
theorem dX6_draw_22 : decode cX6_draw 22 = .ok (.aload_n 0, 1) := by decide +kernel
theorem dX6_draw_23 : decode cX6_draw 23 = .ok (.getfield 164, 3) := by decide +kernel
theorem dX6_draw_26 : decode cX6_draw 26 = .ok (.ldc 171, 2) := by decide +kernel
theorem dX6_draw_28 : decode cX6_draw 28 = .ok (.idiv, 1) := by decide +kernel
theorem dX6_draw_29 : decode cX6_draw 29 = .ok (.iload_n 1, 1) := by decide +kernel
theorem dX6_draw_30 : decode cX6_draw 30 = .ok (.irem, 1) := by decide +kernel
theorem dX6_draw_31 : decode cX6_draw 31 = .ok (.ireturn, 1) := by decide +kernel
theorem dX6_mondays_0 : decode cX6_mondays 0 = .ok (.iload_n 1, 1) := by decide +kernel
theorem dX6_mondays_1 : decode cX6_mondays 1 = .ok (.i2l, 1) := by decide +kernel
theorem dX6_mondays_2 : decode cX6_mondays 2 = .ok (.lconst 1, 1) := by decide +kernel
theorem dX6_mondays_3 : decode cX6_mondays 3 = .ok (.ldc2_w 172, 3) := by decide +kernel
theorem dX6_mondays_6 : decode cX6_mondays 6 = .ok (.invokestatic 49, 3) := by decide +kernel
theorem dX6_mondays_9 : decode cX6_mondays 9 = .ok (.ifCond .eq 19, 3) := by decide +kernel
theorem dX6_mondays_12 : decode cX6_mondays 12 = .ok (.iload_n 2, 1) := by decide +kernel
theorem dX6_mondays_13 : decode cX6_mondays 13 = .ok (.ifCond .lt 15, 3) := by decide +kernel
theorem dX6_mondays_16 : decode cX6_mondays 16 = .ok (.iload_n 3, 1) := by decide +kernel
theorem dX6_mondays_17 : decode cX6_mondays 17 = .ok (.i2l, 1) := by decide +kernel
theorem dX6_mondays_18 : decode cX6_mondays 18 = .ok (.lconst 0, 1) := by decide +kernel
theorem dX6_mondays_19 : decode cX6_mondays 19 = .ok (.ldc2_w 139, 3) := by decide +kernel
theorem dX6_mondays_22 : decode cX6_mondays 22 = .ok (.invokestatic 49, 3) := by decide +kernel
theorem dX6_mondays_25 : decode cX6_mondays 25 = .ok (.ifCond .ne 6, 3) := by decide +kernel
theorem dX6_mondays_28 : decode cX6_mondays 28 = .ok (.bipush (-102), 2) := by decide +kernel
theorem dX6_mondays_30 : decode cX6_mondays 30 = .ok (.ireturn, 1) := by decide +kernel
theorem dX6_mondays_31 : decode cX6_mondays 31 = .ok (.aload_n 0, 1) := by decide +kernel
theorem dX6_mondays_32 : decode cX6_mondays 32 = .ok (.invokevirtual 141, 3) := by decide +kernel
theorem dX6_mondays_35 : decode cX6_mondays 35 = .ok (.ifCond .eq 6, 3) := by decide +kernel
theorem dX6_mondays_38 : decode cX6_mondays 38 = .ok (.bipush (-103), 2) := by decide +kernel
theorem dX6_mondays_40 : decode cX6_mondays 40 = .ok (.ireturn, 1) := by decide +kernel
theorem dX6_mondays_41 : decode cX6_mondays 41 = .ok (.aload_n 0, 1) := by decide +kernel
theorem dX6_mondays_42 : decode cX6_mondays 42 = .ok (.getfield 16, 3) := by decide +kernel
theorem dX6_mondays_45 : decode cX6_mondays 45 = .ok (.aload_n 0, 1) := by decide +kernel
theorem dX6_mondays_46 : decode cX6_mondays 46 = .ok (.getfield 31, 3) := by decide +kernel
theorem dX6_mondays_49 : decode cX6_mondays 49 = .ok (.invokestatic 151, 3) := by decide +kernel
theorem dX6_mondays_52 : decode cX6_mondays 52 = .ok (.aload_n 0, 1) := by decide +kernel
theorem dX6_mondays_53 : decode cX6_mondays 53 = .ok (.iload_n 2, 1) := by decide +kernel
theorem dX6_mondays_54 : decode cX6_mondays 54 = .ok (.putfield 164, 3) := by decide +kernel
theorem dX6_mondays_57 : decode cX6_mondays 57 = .ok (.iconst 0, 1) := by decide +kernel
theorem dX6_mondays_58 : decode cX6_mondays 58 = .ok (.istore 4, 2) := by decide +kernel
theorem dX6_mondays_60 : decode cX6_mondays 60 = .ok (.iconst 0, 1) := by decide +kernel
theorem dX6_mondays_61 : decode cX6_mondays 61 = .ok (.istore 5, 2) := by decide +kernel
theorem dX6_mondays_63 : decode cX6_mondays 63 = .ok (.iconst 0, 1) := by decide +kernel
theorem dX6_mondays_64 : decode cX6_mondays 64 = .ok (.istore 6, 2) := by decide +kernel
theorem dX6_mondays_66 : decode cX6_mondays 66 = .ok (.iload 6, 2) := by decide +kernel
theorem dX6_mondays_68 : decode cX6_mondays 68 = .ok (.iload_n 1, 1) := by decide +kernel
theorem dX6_mondays_69 : decode cX6_mondays 69 = .ok (.if_icmp .ge 124, 3) := by decide +kernel
theorem dX6_mondays_72 : decode cX6_mondays 72 = .ok (.aload_n 0, 1) := by decide +kernel
theorem dX6_mondays_73 : decode cX6_mondays 73 = .ok (.aload_n 0, 1) := by decide +kernel
theorem dX6_mondays_74 : decode cX6_mondays 74 = .ok (.getfield 77, 3) := by decide +kernel
theorem dX6_mondays_77 : decode cX6_mondays 77 = .ok (.invokevirtual 174, 3) := by decide +kernel
theorem dX6_mondays_80 : decode cX6_mondays 80 = .ok (.istore 7, 2) := by decide +kernel
theorem dX6_mondays_82 : decode cX6_mondays 82 = .ok (.iconst 0, 1) := by decide +kernel
theorem dX6_mondays_83 : decode cX6_mondays 83 = .ok (.istore 8, 2) := by decide +kernel
theorem dX6_mondays_85 : decode cX6_mondays 85 = .ok (.iload 8, 2) := by decide +kernel
theorem dX6_mondays_87 : decode cX6_mondays 87 = .ok (.iconst 3, 1) := by decide +kernel
theorem dX6_mondays_88 : decode cX6_mondays 88 = .ok (.if_icmp .ge 32, 3) := by decide +kernel
theorem dX6_mondays_91 : decode cX6_mondays 91 = .ok (.aload_n 0, 1) := by decide +kernel
theorem dX6_mondays_92 : decode cX6_mondays 92 = .ok (.getfield 16, 3) := by decide +kernel
theorem dX6_mondays_95 : decode cX6_mondays 95 = .ok (.iconst 5, 1) := by decide +kernel
theorem dX6_mondays_96 : decode cX6_mondays 96 = .ok (.iload 7, 2) := by decide +kernel
theorem dX6_mondays_98 : decode cX6_mondays 98 = .ok (.imul, 1) := by decide +kernel
theorem dX6_mondays_99 : decode cX6_mondays 99 = .ok (.iload 8, 2) := by decide +kernel
theorem dX6_mondays_101 : decode cX6_mondays 101 = .ok (.iadd, 1) := by decide +kernel
theorem dX6_mondays_102 : decode cX6_mondays 102 = .ok (.aload_n 0, 1) := by decide +kernel
theorem dX6_mondays_103 : decode cX6_mondays 103 = .ok (.iload 8, 2) := by decide +kernel
theorem dX6_mondays_105 : decode cX6_mondays 105 = .ok (.invokestatic 59, 3) := by decide +kernel
theorem dX6_mondays_108 : decode cX6_mondays 108 = .ok (.iconst 1, 1) := by decide +kernel
theorem dX6_mondays_109 : decode cX6_mondays 109 = .ok (.iadd, 1) := by decide +kernel
theorem dX6_mondays_110 : decode cX6_mondays 110 = .ok (.invokevirtual 174, 3) := by decide +kernel
theorem dX6_mondays_113 : decode cX6_mondays 113 = .ok (.iastore, 1) := by decide +kernel
theorem dX6_mondays_114 : decode cX6_mondays 114 = .ok (.iinc 8 1, 3) := by decide +kernel
theorem dX6_mondays_117 : decode cX6_mondays 117 = .ok (.goto (-32), 3) := by decide +kernel
theorem dX6_mondays_120 : decode cX6_mondays 120 = .ok (.iconst 0, 1) := by decide +kernel
theorem dX6_mondays_121 : decode cX6_mondays 121 = .ok (.istore 8, 2) := by decide +kernel
theorem dX6_mondays_123 : decode cX6_mondays 123 = .ok (.iload 8, 2) := by decide +kernel
theorem dX6_mondays_125 : decode cX6_mondays 125 = .ok (.aload_n 0, 1) := by decide +kernel
theorem dX6_mondays_126 : decode cX6_mondays 126 = .ok (.getfield 74, 3) := by decide +kernel
theorem dX6_mondays_129 : decode cX6_mondays 129 = .ok (.if_icmp .ge 58, 3) := by decide +kernel
theorem dX6_mondays_132 : decode cX6_mondays 132 = .ok (.iload 4, 2) := by decide +kernel
theorem dX6_mondays_134 : decode cX6_mondays 134 = .ok (.aload_n 0, 1) := by decide +kernel
theorem dX6_mondays_135 : decode cX6_mondays 135 = .ok (.iload 8, 2) := by decide +kernel
theorem dX6_mondays_137 : decode cX6_mondays 137 = .ok (.iload 7, 2) := by decide +kernel
theorem dX6_mondays_139 : decode cX6_mondays 139 = .ok (.invokevirtual 107, 3) := by decide +kernel
theorem dX6_mondays_142 : decode cX6_mondays 142 = .ok (.ifCond .eq 7, 3) := by decide +kernel
theorem dX6_mondays_145 : decode cX6_mondays 145 = .ok (.iconst 1, 1) := by decide +kernel
theorem dX6_mondays_146 : decode cX6_mondays 146 = .ok (.goto 4, 3) := by decide +kernel
theorem dX6_mondays_149 : decode cX6_mondays 149 = .ok (.iconst 0, 1) := by decide +kernel
theorem dX6_mondays_150 : decode cX6_mondays 150 = .ok (.iadd, 1) := by decide +kernel
theorem dX6_mondays_151 : decode cX6_mondays 151 = .ok (.istore 4, 2) := by decide +kernel
theorem dX6_mondays_153 : decode cX6_mondays 153 = .ok (.iload 5, 2) := by decide +kernel
theorem dX6_mondays_155 : decode cX6_mondays 155 = .ok (.aload_n 0, 1) := by decide +kernel
theorem dX6_mondays_156 : decode cX6_mondays 156 = .ok (.iload 8, 2) := by decide +kernel
theorem dX6_mondays_158 : decode cX6_mondays 158 = .ok (.iload 7, 2) := by decide +kernel
theorem dX6_mondays_160 : decode cX6_mondays 160 = .ok (.invokevirtual 107, 3) := by decide +kernel
theorem dX6_mondays_163 : decode cX6_mondays 163 = .ok (.ifCond .eq 14, 3) := by decide +kernel
theorem dX6_mondays_166 : decode cX6_mondays 166 = .ok (.aload_n 0, 1) := by decide +kernel
theorem dX6_mondays_167 : decode cX6_mondays 167 = .ok (.iload 8, 2) := by decide +kernel
theorem dX6_mondays_169 : decode cX6_mondays 169 = .ok (.iload 7, 2) := by decide +kernel
theorem dX6_mondays_171 : decode cX6_mondays 171 = .ok (.invokevirtual 99, 3) := by decide +kernel
theorem dX6_mondays_174 : decode cX6_mondays 174 = .ok (.goto 4, 3) := by decide +kernel
theorem dX6_mondays_177 : decode cX6_mondays 177 = .ok (.iconst 0, 1) := by decide +kernel
theorem dX6_mondays_178 : decode cX6_mondays 178 = .ok (.iadd, 1) := by decide +kernel
theorem dX6_mondays_179 : decode cX6_mondays 179 = .ok (.istore 5, 2) := by decide +kernel
theorem dX6_mondays_181 : decode cX6_mondays 181 = .ok (.iinc 8 1, 3) := by decide +kernel
theorem dX6_mondays_184 : decode cX6_mondays 184 = .ok (.goto (-61), 3) := by decide +kernel
theorem dX6_mondays_187 : decode cX6_mondays 187 = .ok (.iinc 6 1, 3) := by decide +kernel
theorem dX6_mondays_190 : decode cX6_mondays 190 = .ok (.goto (-124), 3) := by decide +kernel
theorem dX6_mondays_193 : decode cX6_mondays 193 = .ok (.aload_n 0, 1) := by decide +kernel
theorem dX6_mondays_194 : decode cX6_mondays 194 = .ok (.getfield 31, 3) := by decide +kernel
theorem dX6_mondays_197 : decode cX6_mondays 197 = .ok (.aload_n 0, 1) := by decide +kernel
theorem dX6_mondays_198 : decode cX6_mondays 198 = .ok (.getfield 16, 3) := by decide +kernel
theorem dX6_mondays_201 : decode cX6_mondays 201 = .ok (.invokestatic 151, 3) := by decide +kernel
theorem dX6_mondays_204 : decode cX6_mondays 204 = .ok (.iload_n 3, 1) := by decide +kernel
theorem dX6_mondays_205 : decode cX6_mondays 205 = .ok (.ifCond .ne 8, 3) := by decide +kernel
theorem dX6_mondays_208 : decode cX6_mondays 208 = .ok (.iload 4, 2) := by decide +kernel
theorem dX6_mondays_210 : decode cX6_mondays 210 = .ok (.goto 17, 3) := by decide +kernel
theorem dX6_mondays_213 : decode cX6_mondays 213 = .ok (.iload_n 3, 1) := by decide +kernel
theorem dX6_mondays_214 : decode cX6_mondays 214 = .ok (.iconst 1, 1) := by decide +kernel
theorem dX6_mondays_215 : decode cX6_mondays 215 = .ok (.if_icmp .ne 8, 3) := by decide +kernel
theorem dX6_mondays_218 : decode cX6_mondays 218 = .ok (.iload 5, 2) := by decide +kernel
theorem dX6_mondays_220 : decode cX6_mondays 220 = .ok (.goto 7, 3) := by decide +kernel
theorem dX6_mondays_223 : decode cX6_mondays 223 = .ok (.aload_n 0, 1) := by decide +kernel
theorem dX6_mondays_224 : decode cX6_mondays 224 = .ok (.getfield 164, 3) := by decide +kernel
theorem dX6_mondays_227 : decode cX6_mondays 227 = .ok (.ireturn, 1) := by decide +kernel
theorem dX6_image_0 : decode cX6_image 0 = .ok (.aload_n 0, 1) := by decide +kernel
theorem dX6_image_1 : decode cX6_image 1 = .ok (.invokevirtual 141, 3) := by decide +kernel
theorem dX6_image_4 : decode cX6_image 4 = .ok (.ifCond .eq 6, 3) := by decide +kernel
theorem dX6_image_7 : decode cX6_image 7 = .ok (.bipush (-103), 2) := by decide +kernel
theorem dX6_image_9 : decode cX6_image 9 = .ok (.ireturn, 1) := by decide +kernel
theorem dX6_image_10 : decode cX6_image 10 = .ok (.aload_n 0, 1) := by decide +kernel
theorem dX6_image_11 : decode cX6_image 11 = .ok (.getfield 13, 3) := by decide +kernel
theorem dX6_image_14 : decode cX6_image 14 = .ok (.aload_n 0, 1) := by decide +kernel
theorem dX6_image_15 : decode cX6_image 15 = .ok (.getfield 34, 3) := by decide +kernel
theorem dX6_image_18 : decode cX6_image 18 = .ok (.invokestatic 151, 3) := by decide +kernel
theorem dX6_image_21 : decode cX6_image 21 = .ok (.aload_n 0, 1) := by decide +kernel
theorem dX6_image_22 : decode cX6_image 22 = .ok (.getfield 16, 3) := by decide +kernel
theorem dX6_image_25 : decode cX6_image 25 = .ok (.aload_n 0, 1) := by decide +kernel
theorem dX6_image_26 : decode cX6_image 26 = .ok (.getfield 37, 3) := by decide +kernel
theorem dX6_image_29 : decode cX6_image 29 = .ok (.invokestatic 151, 3) := by decide +kernel
theorem dX6_image_32 : decode cX6_image 32 = .ok (.aload_n 0, 1) := by decide +kernel
theorem dX6_image_33 : decode cX6_image 33 = .ok (.getfield 28, 3) := by decide +kernel
theorem dX6_image_36 : decode cX6_image 36 = .ok (.aload_n 0, 1) := by decide +kernel
theorem dX6_image_37 : decode cX6_image 37 = .ok (.getfield 40, 3) := by decide +kernel
theorem dX6_image_40 : decode cX6_image 40 = .ok (.invokestatic 151, 3) := by decide +kernel
theorem dX6_image_43 : decode cX6_image 43 = .ok (.aload_n 0, 1) := by decide +kernel
theorem dX6_image_44 : decode cX6_image 44 = .ok (.aload_n 0, 1) := by decide +kernel
theorem dX6_image_45 : decode cX6_image 45 = .ok (.getfield 80, 3) := by decide +kernel
theorem dX6_image_48 : decode cX6_image 48 = .ok (.putfield 177, 3) := by decide +kernel
theorem dX6_image_51 : decode cX6_image 51 = .ok (.aload_n 0, 1) := by decide +kernel
theorem dX6_image_52 : decode cX6_image 52 = .ok (.aload_n 0, 1) := by decide +kernel
theorem dX6_image_53 : decode cX6_image 53 = .ok (.getfield 83, 3) := by decide +kernel
theorem dX6_image_56 : decode cX6_image 56 = .ok (.putfield 180, 3) := by decide +kernel
theorem dX6_image_59 : decode cX6_image 59 = .ok (.aload_n 0, 1) := by decide +kernel
theorem dX6_image_60 : decode cX6_image 60 = .ok (.aload_n 0, 1) := by decide +kernel
theorem dX6_image_61 : decode cX6_image 61 = .ok (.getfield 86, 3) := by decide +kernel
theorem dX6_image_64 : decode cX6_image 64 = .ok (.putfield 183, 3) := by decide +kernel
theorem dX6_image_67 : decode cX6_image 67 = .ok (.aload_n 0, 1) := by decide +kernel
theorem dX6_image_68 : decode cX6_image 68 = .ok (.aload_n 0, 1) := by decide +kernel
theorem dX6_image_69 : decode cX6_image 69 = .ok (.getfield 89, 3) := by decide +kernel
theorem dX6_image_72 : decode cX6_image 72 = .ok (.putfield 186, 3) := by decide +kernel
theorem dX6_image_75 : decode cX6_image 75 = .ok (.aload_n 0, 1) := by decide +kernel
theorem dX6_image_76 : decode cX6_image 76 = .ok (.aload_n 0, 1) := by decide +kernel
theorem dX6_image_77 : decode cX6_image 77 = .ok (.getfield 92, 3) := by decide +kernel
theorem dX6_image_80 : decode cX6_image 80 = .ok (.putfield 43, 3) := by decide +kernel
theorem dX6_image_83 : decode cX6_image 83 = .ok (.aload_n 0, 1) := by decide +kernel
theorem dX6_image_84 : decode cX6_image 84 = .ok (.getfield 80, 3) := by decide +kernel
theorem dX6_image_87 : decode cX6_image 87 = .ok (.ireturn, 1) := by decide +kernel
theorem dX6_restore_0 : decode cX6_restore 0 = .ok (.aload_n 0, 1) := by decide +kernel
theorem dX6_restore_1 : decode cX6_restore 1 = .ok (.getfield 43, 3) := by decide +kernel
theorem dX6_restore_4 : decode cX6_restore 4 = .ok (.aload_n 0, 1) := by decide +kernel
theorem dX6_restore_5 : decode cX6_restore 5 = .ok (.getfield 92, 3) := by decide +kernel
theorem dX6_restore_8 : decode cX6_restore 8 = .ok (.if_icmp .eq 6, 3) := by decide +kernel
theorem dX6_restore_11 : decode cX6_restore 11 = .ok (.bipush (-103), 2) := by decide +kernel
theorem dX6_restore_13 : decode cX6_restore 13 = .ok (.ireturn, 1) := by decide +kernel
theorem dX6_restore_14 : decode cX6_restore 14 = .ok (.aload_n 0, 1) := by decide +kernel
theorem dX6_restore_15 : decode cX6_restore 15 = .ok (.getfield 34, 3) := by decide +kernel
theorem dX6_restore_18 : decode cX6_restore 18 = .ok (.aload_n 0, 1) := by decide +kernel
theorem dX6_restore_19 : decode cX6_restore 19 = .ok (.getfield 13, 3) := by decide +kernel
theorem dX6_restore_22 : decode cX6_restore 22 = .ok (.invokestatic 151, 3) := by decide +kernel
theorem dX6_restore_25 : decode cX6_restore 25 = .ok (.aload_n 0, 1) := by decide +kernel
theorem dX6_restore_26 : decode cX6_restore 26 = .ok (.getfield 37, 3) := by decide +kernel
theorem dX6_restore_29 : decode cX6_restore 29 = .ok (.aload_n 0, 1) := by decide +kernel
theorem dX6_restore_30 : decode cX6_restore 30 = .ok (.getfield 16, 3) := by decide +kernel
theorem dX6_restore_33 : decode cX6_restore 33 = .ok (.invokestatic 151, 3) := by decide +kernel
theorem dX6_restore_36 : decode cX6_restore 36 = .ok (.aload_n 0, 1) := by decide +kernel
theorem dX6_restore_37 : decode cX6_restore 37 = .ok (.getfield 40, 3) := by decide +kernel
theorem dX6_restore_40 : decode cX6_restore 40 = .ok (.aload_n 0, 1) := by decide +kernel
theorem dX6_restore_41 : decode cX6_restore 41 = .ok (.getfield 28, 3) := by decide +kernel
theorem dX6_restore_44 : decode cX6_restore 44 = .ok (.invokestatic 151, 3) := by decide +kernel
theorem dX6_restore_47 : decode cX6_restore 47 = .ok (.aload_n 0, 1) := by decide +kernel
theorem dX6_restore_48 : decode cX6_restore 48 = .ok (.aload_n 0, 1) := by decide +kernel
theorem dX6_restore_49 : decode cX6_restore 49 = .ok (.getfield 177, 3) := by decide +kernel
theorem dX6_restore_52 : decode cX6_restore 52 = .ok (.putfield 80, 3) := by decide +kernel
theorem dX6_restore_55 : decode cX6_restore 55 = .ok (.aload_n 0, 1) := by decide +kernel
theorem dX6_restore_56 : decode cX6_restore 56 = .ok (.aload_n 0, 1) := by decide +kernel
theorem dX6_restore_57 : decode cX6_restore 57 = .ok (.getfield 180, 3) := by decide +kernel
theorem dX6_restore_60 : decode cX6_restore 60 = .ok (.putfield 83, 3) := by decide +kernel
theorem dX6_restore_63 : decode cX6_restore 63 = .ok (.aload_n 0, 1) := by decide +kernel
theorem dX6_restore_64 : decode cX6_restore 64 = .ok (.aload_n 0, 1) := by decide +kernel
theorem dX6_restore_65 : decode cX6_restore 65 = .ok (.getfield 183, 3) := by decide +kernel
theorem dX6_restore_68 : decode cX6_restore 68 = .ok (.putfield 86, 3) := by decide +kernel
theorem dX6_restore_71 : decode cX6_restore 71 = .ok (.aload_n 0, 1) := by decide +kernel
theorem dX6_restore_72 : decode cX6_restore 72 = .ok (.aload_n 0, 1) := by decide +kernel
theorem dX6_restore_73 : decode cX6_restore 73 = .ok (.getfield 186, 3) := by decide +kernel
theorem dX6_restore_76 : decode cX6_restore 76 = .ok (.putfield 89, 3) := by decide +kernel
theorem dX6_restore_79 : decode cX6_restore 79 = .ok (.aload_n 0, 1) := by decide +kernel
theorem dX6_restore_80 : decode cX6_restore 80 = .ok (.getfield 80, 3) := by decide +kernel
theorem dX6_restore_83 : decode cX6_restore 83 = .ok (.ireturn, 1) := by decide +kernel
theorem dX6_givenFit_0 : decode cX6_givenFit 0 = .ok (.iconst 0, 1) := by decide +kernel
theorem dX6_givenFit_1 : decode cX6_givenFit 1 = .ok (.istore_n 1, 1) := by decide +kernel
theorem dX6_givenFit_2 : decode cX6_givenFit 2 = .ok (.iconst 0, 1) := by decide +kernel
theorem dX6_givenFit_3 : decode cX6_givenFit 3 = .ok (.istore_n 2, 1) := by decide +kernel
theorem dX6_givenFit_4 : decode cX6_givenFit 4 = .ok (.iload_n 2, 1) := by decide +kernel
theorem dX6_givenFit_5 : decode cX6_givenFit 5 = .ok (.aload_n 0, 1) := by decide +kernel
theorem dX6_givenFit_6 : decode cX6_givenFit 6 = .ok (.getfield 77, 3) := by decide +kernel
theorem dX6_givenFit_9 : decode cX6_givenFit 9 = .ok (.if_icmp .ge 49, 3) := by decide +kernel
theorem dX6_givenFit_12 : decode cX6_givenFit 12 = .ok (.iload_n 1, 1) := by decide +kernel
theorem dX6_givenFit_13 : decode cX6_givenFit 13 = .ok (.aload_n 0, 1) := by decide +kernel
theorem dX6_givenFit_14 : decode cX6_givenFit 14 = .ok (.getfield 16, 3) := by decide +kernel
theorem dX6_givenFit_17 : decode cX6_givenFit 17 = .ok (.iconst 5, 1) := by decide +kernel
theorem dX6_givenFit_18 : decode cX6_givenFit 18 = .ok (.iload_n 2, 1) := by decide +kernel
theorem dX6_givenFit_19 : decode cX6_givenFit 19 = .ok (.imul, 1) := by decide +kernel
theorem dX6_givenFit_20 : decode cX6_givenFit 20 = .ok (.iconst 4, 1) := by decide +kernel
theorem dX6_givenFit_21 : decode cX6_givenFit 21 = .ok (.iadd, 1) := by decide +kernel
theorem dX6_givenFit_22 : decode cX6_givenFit 22 = .ok (.iaload, 1) := by decide +kernel
theorem dX6_givenFit_23 : decode cX6_givenFit 23 = .ok (.iconst (-1), 1) := by decide +kernel
theorem dX6_givenFit_24 : decode cX6_givenFit 24 = .ok (.if_icmp .eq 25, 3) := by decide +kernel
theorem dX6_givenFit_27 : decode cX6_givenFit 27 = .ok (.aload_n 0, 1) := by decide +kernel
theorem dX6_givenFit_28 : decode cX6_givenFit 28 = .ok (.aload_n 0, 1) := by decide +kernel
theorem dX6_givenFit_29 : decode cX6_givenFit 29 = .ok (.getfield 16, 3) := by decide +kernel
theorem dX6_givenFit_32 : decode cX6_givenFit 32 = .ok (.iconst 5, 1) := by decide +kernel
theorem dX6_givenFit_33 : decode cX6_givenFit 33 = .ok (.iload_n 2, 1) := by decide +kernel
theorem dX6_givenFit_34 : decode cX6_givenFit 34 = .ok (.imul, 1) := by decide +kernel
theorem dX6_givenFit_35 : decode cX6_givenFit 35 = .ok (.iconst 4, 1) := by decide +kernel
theorem dX6_givenFit_36 : decode cX6_givenFit 36 = .ok (.iadd, 1) := by decide +kernel
theorem dX6_givenFit_37 : decode cX6_givenFit 37 = .ok (.iaload, 1) := by decide +kernel
theorem dX6_givenFit_38 : decode cX6_givenFit 38 = .ok (.iload_n 2, 1) := by decide +kernel
theorem dX6_givenFit_39 : decode cX6_givenFit 39 = .ok (.invokevirtual 107, 3) := by decide +kernel
theorem dX6_givenFit_42 : decode cX6_givenFit 42 = .ok (.ifCond .eq 7, 3) := by decide +kernel
theorem dX6_givenFit_45 : decode cX6_givenFit 45 = .ok (.iconst 1, 1) := by decide +kernel
theorem dX6_givenFit_46 : decode cX6_givenFit 46 = .ok (.goto 4, 3) := by decide +kernel
theorem dX6_givenFit_49 : decode cX6_givenFit 49 = .ok (.iconst 0, 1) := by decide +kernel
theorem dX6_givenFit_50 : decode cX6_givenFit 50 = .ok (.iadd, 1) := by decide +kernel
theorem dX6_givenFit_51 : decode cX6_givenFit 51 = .ok (.istore_n 1, 1) := by decide +kernel
theorem dX6_givenFit_52 : decode cX6_givenFit 52 = .ok (.iinc 2 1, 3) := by decide +kernel
theorem dX6_givenFit_55 : decode cX6_givenFit 55 = .ok (.goto (-51), 3) := by decide +kernel
theorem dX6_givenFit_58 : decode cX6_givenFit 58 = .ok (.iload_n 1, 1) := by decide +kernel
theorem dX6_givenFit_59 : decode cX6_givenFit 59 = .ok (.ireturn, 1) := by decide +kernel
theorem dX6_givenWrong_0 : decode cX6_givenWrong 0 = .ok (.iconst 0, 1) := by decide +kernel
theorem dX6_givenWrong_1 : decode cX6_givenWrong 1 = .ok (.istore_n 1, 1) := by decide +kernel
theorem dX6_givenWrong_2 : decode cX6_givenWrong 2 = .ok (.iconst 0, 1) := by decide +kernel
theorem dX6_givenWrong_3 : decode cX6_givenWrong 3 = .ok (.istore_n 2, 1) := by decide +kernel
theorem dX6_givenWrong_4 : decode cX6_givenWrong 4 = .ok (.iload_n 2, 1) := by decide +kernel
theorem dX6_givenWrong_5 : decode cX6_givenWrong 5 = .ok (.aload_n 0, 1) := by decide +kernel
theorem dX6_givenWrong_6 : decode cX6_givenWrong 6 = .ok (.getfield 77, 3) := by decide +kernel
theorem dX6_givenWrong_9 : decode cX6_givenWrong 9 = .ok (.if_icmp .ge 45, 3) := by decide +kernel
theorem dX6_givenWrong_12 : decode cX6_givenWrong 12 = .ok (.iload_n 1, 1) := by decide +kernel
theorem dX6_givenWrong_13 : decode cX6_givenWrong 13 = .ok (.aload_n 0, 1) := by decide +kernel
theorem dX6_givenWrong_14 : decode cX6_givenWrong 14 = .ok (.getfield 16, 3) := by decide +kernel
theorem dX6_givenWrong_17 : decode cX6_givenWrong 17 = .ok (.iconst 5, 1) := by decide +kernel
theorem dX6_givenWrong_18 : decode cX6_givenWrong 18 = .ok (.iload_n 2, 1) := by decide +kernel
theorem dX6_givenWrong_19 : decode cX6_givenWrong 19 = .ok (.imul, 1) := by decide +kernel
theorem dX6_givenWrong_20 : decode cX6_givenWrong 20 = .ok (.iconst 4, 1) := by decide +kernel
theorem dX6_givenWrong_21 : decode cX6_givenWrong 21 = .ok (.iadd, 1) := by decide +kernel
theorem dX6_givenWrong_22 : decode cX6_givenWrong 22 = .ok (.iaload, 1) := by decide +kernel
theorem dX6_givenWrong_23 : decode cX6_givenWrong 23 = .ok (.iconst (-1), 1) := by decide +kernel
theorem dX6_givenWrong_24 : decode cX6_givenWrong 24 = .ok (.if_icmp .ne 7, 3) := by decide +kernel
theorem dX6_givenWrong_27 : decode cX6_givenWrong 27 = .ok (.iconst 0, 1) := by decide +kernel
theorem dX6_givenWrong_28 : decode cX6_givenWrong 28 = .ok (.goto 18, 3) := by decide +kernel
theorem dX6_givenWrong_31 : decode cX6_givenWrong 31 = .ok (.aload_n 0, 1) := by decide +kernel
theorem dX6_givenWrong_32 : decode cX6_givenWrong 32 = .ok (.aload_n 0, 1) := by decide +kernel
theorem dX6_givenWrong_33 : decode cX6_givenWrong 33 = .ok (.getfield 16, 3) := by decide +kernel
theorem dX6_givenWrong_36 : decode cX6_givenWrong 36 = .ok (.iconst 5, 1) := by decide +kernel
theorem dX6_givenWrong_37 : decode cX6_givenWrong 37 = .ok (.iload_n 2, 1) := by decide +kernel
theorem dX6_givenWrong_38 : decode cX6_givenWrong 38 = .ok (.imul, 1) := by decide +kernel
theorem dX6_givenWrong_39 : decode cX6_givenWrong 39 = .ok (.iconst 4, 1) := by decide +kernel
theorem dX6_givenWrong_40 : decode cX6_givenWrong 40 = .ok (.iadd, 1) := by decide +kernel
theorem dX6_givenWrong_41 : decode cX6_givenWrong 41 = .ok (.iaload, 1) := by decide +kernel
theorem dX6_givenWrong_42 : decode cX6_givenWrong 42 = .ok (.iload_n 2, 1) := by decide +kernel
theorem dX6_givenWrong_43 : decode cX6_givenWrong 43 = .ok (.invokevirtual 99, 3) := by decide +kernel
theorem dX6_givenWrong_46 : decode cX6_givenWrong 46 = .ok (.iadd, 1) := by decide +kernel
theorem dX6_givenWrong_47 : decode cX6_givenWrong 47 = .ok (.istore_n 1, 1) := by decide +kernel
theorem dX6_givenWrong_48 : decode cX6_givenWrong 48 = .ok (.iinc 2 1, 3) := by decide +kernel
theorem dX6_givenWrong_51 : decode cX6_givenWrong 51 = .ok (.goto (-47), 3) := by decide +kernel
theorem dX6_givenWrong_54 : decode cX6_givenWrong 54 = .ok (.iload_n 1, 1) := by decide +kernel
theorem dX6_givenWrong_55 : decode cX6_givenWrong 55 = .ok (.ireturn, 1) := by decide +kernel
theorem dX6_countOf_0 : decode cX6_countOf 0 = .ok (.iload_n 1, 1) := by decide +kernel
theorem dX6_countOf_1 : decode cX6_countOf 1 = .ok (.tableswitch 114 0 10 #[59, 64, 69, 74, 79, 84, 89, 94, 99, 104, 109], 59) := by decide +kernel
theorem dX6_countOf_60 : decode cX6_countOf 60 = .ok (.aload_n 0, 1) := by decide +kernel
theorem dX6_countOf_61 : decode cX6_countOf 61 = .ok (.getfield 74, 3) := by decide +kernel
theorem dX6_countOf_64 : decode cX6_countOf 64 = .ok (.ireturn, 1) := by decide +kernel
theorem dX6_countOf_65 : decode cX6_countOf 65 = .ok (.aload_n 0, 1) := by decide +kernel
theorem dX6_countOf_66 : decode cX6_countOf 66 = .ok (.getfield 77, 3) := by decide +kernel
theorem dX6_countOf_69 : decode cX6_countOf 69 = .ok (.ireturn, 1) := by decide +kernel
theorem dX6_countOf_70 : decode cX6_countOf 70 = .ok (.aload_n 0, 1) := by decide +kernel
theorem dX6_countOf_71 : decode cX6_countOf 71 = .ok (.invokevirtual 145, 3) := by decide +kernel
theorem dX6_countOf_74 : decode cX6_countOf 74 = .ok (.ireturn, 1) := by decide +kernel
theorem dX6_countOf_75 : decode cX6_countOf 75 = .ok (.aload_n 0, 1) := by decide +kernel
theorem dX6_countOf_76 : decode cX6_countOf 76 = .ok (.invokevirtual 189, 3) := by decide +kernel
theorem dX6_countOf_79 : decode cX6_countOf 79 = .ok (.ireturn, 1) := by decide +kernel
theorem dX6_countOf_80 : decode cX6_countOf 80 = .ok (.aload_n 0, 1) := by decide +kernel
theorem dX6_countOf_81 : decode cX6_countOf 81 = .ok (.invokevirtual 192, 3) := by decide +kernel
theorem dX6_countOf_84 : decode cX6_countOf 84 = .ok (.ireturn, 1) := by decide +kernel
theorem dX6_countOf_85 : decode cX6_countOf 85 = .ok (.aload_n 0, 1) := by decide +kernel
theorem dX6_countOf_86 : decode cX6_countOf 86 = .ok (.getfield 80, 3) := by decide +kernel
theorem dX6_countOf_89 : decode cX6_countOf 89 = .ok (.ireturn, 1) := by decide +kernel
theorem dX6_countOf_90 : decode cX6_countOf 90 = .ok (.aload_n 0, 1) := by decide +kernel
theorem dX6_countOf_91 : decode cX6_countOf 91 = .ok (.getfield 83, 3) := by decide +kernel
theorem dX6_countOf_94 : decode cX6_countOf 94 = .ok (.ireturn, 1) := by decide +kernel
theorem dX6_countOf_95 : decode cX6_countOf 95 = .ok (.aload_n 0, 1) := by decide +kernel
theorem dX6_countOf_96 : decode cX6_countOf 96 = .ok (.getfield 86, 3) := by decide +kernel
theorem dX6_countOf_99 : decode cX6_countOf 99 = .ok (.ireturn, 1) := by decide +kernel
theorem dX6_countOf_100 : decode cX6_countOf 100 = .ok (.aload_n 0, 1) := by decide +kernel
theorem dX6_countOf_101 : decode cX6_countOf 101 = .ok (.getfield 89, 3) := by decide +kernel
theorem dX6_countOf_104 : decode cX6_countOf 104 = .ok (.ireturn, 1) := by decide +kernel
theorem dX6_countOf_105 : decode cX6_countOf 105 = .ok (.aload_n 0, 1) := by decide +kernel
theorem dX6_countOf_106 : decode cX6_countOf 106 = .ok (.getfield 53, 3) := by decide +kernel
theorem dX6_countOf_109 : decode cX6_countOf 109 = .ok (.ireturn, 1) := by decide +kernel
theorem dX6_countOf_110 : decode cX6_countOf 110 = .ok (.aload_n 0, 1) := by decide +kernel
theorem dX6_countOf_111 : decode cX6_countOf 111 = .ok (.getfield 92, 3) := by decide +kernel
theorem dX6_countOf_114 : decode cX6_countOf 114 = .ok (.ireturn, 1) := by decide +kernel
theorem dX6_countOf_115 : decode cX6_countOf 115 = .ok (.bipush (-102), 2) := by decide +kernel
theorem dX6_countOf_117 : decode cX6_countOf 117 = .ok (.ireturn, 1) := by decide +kernel
theorem dX6_count_0 : decode cX6_count 0 = .ok (.aload_n 0, 1) := by decide +kernel
theorem dX6_count_1 : decode cX6_count 1 = .ok (.iload_n 1, 1) := by decide +kernel
theorem dX6_count_2 : decode cX6_count 2 = .ok (.invokevirtual 195, 3) := by decide +kernel
theorem dX6_count_5 : decode cX6_count 5 = .ok (.ireturn, 1) := by decide +kernel
theorem dX6_say_0 : decode cX6_say 0 = .ok (.aload_n 0, 1) := by decide +kernel
theorem dX6_say_1 : decode cX6_say 1 = .ok (.ldc2_w 198, 3) := by decide +kernel
theorem dX6_say_4 : decode cX6_say 4 = .ok (.aload_n 0, 1) := by decide +kernel
theorem dX6_say_5 : decode cX6_say 5 = .ok (.getfield 200, 3) := by decide +kernel
theorem dX6_say_8 : decode cX6_say 8 = .ok (.lmul, 1) := by decide +kernel
theorem dX6_say_9 : decode cX6_say 9 = .ok (.lload_n 1, 1) := by decide +kernel
theorem dX6_say_10 : decode cX6_say 10 = .ok (.ladd, 1) := by decide +kernel
theorem dX6_say_11 : decode cX6_say 11 = .ok (.putfield 200, 3) := by decide +kernel
theorem dX6_say_14 : decode cX6_say 14 = .ok (.return_, 1) := by decide +kernel
theorem dX6_digest_0 : decode cX6_digest 0 = .ok (.aload_n 0, 1) := by decide +kernel
theorem dX6_digest_1 : decode cX6_digest 1 = .ok (.ldc2_w 204, 3) := by decide +kernel
theorem dX6_digest_4 : decode cX6_digest 4 = .ok (.putfield 200, 3) := by decide +kernel
theorem dX6_digest_7 : decode cX6_digest 7 = .ok (.iconst 0, 1) := by decide +kernel
theorem dX6_digest_8 : decode cX6_digest 8 = .ok (.istore_n 1, 1) := by decide +kernel
theorem dX6_digest_9 : decode cX6_digest 9 = .ok (.iload_n 1, 1) := by decide +kernel
theorem dX6_digest_10 : decode cX6_digest 10 = .ok (.aload_n 0, 1) := by decide +kernel
theorem dX6_digest_11 : decode cX6_digest 11 = .ok (.getfield 74, 3) := by decide +kernel
theorem dX6_digest_14 : decode cX6_digest 14 = .ok (.if_icmp .ge 34, 3) := by decide +kernel
theorem dX6_digest_17 : decode cX6_digest 17 = .ok (.iconst 0, 1) := by decide +kernel
theorem dX6_digest_18 : decode cX6_digest 18 = .ok (.istore_n 2, 1) := by decide +kernel
theorem dX6_digest_19 : decode cX6_digest 19 = .ok (.iload_n 2, 1) := by decide +kernel
theorem dX6_digest_20 : decode cX6_digest 20 = .ok (.bipush 7, 2) := by decide +kernel
theorem dX6_digest_22 : decode cX6_digest 22 = .ok (.if_icmp .ge 20, 3) := by decide +kernel
theorem dX6_digest_25 : decode cX6_digest 25 = .ok (.aload_n 0, 1) := by decide +kernel
theorem dX6_digest_26 : decode cX6_digest 26 = .ok (.aload_n 0, 1) := by decide +kernel
theorem dX6_digest_27 : decode cX6_digest 27 = .ok (.iload_n 1, 1) := by decide +kernel
theorem dX6_digest_28 : decode cX6_digest 28 = .ok (.iload_n 2, 1) := by decide +kernel
theorem dX6_digest_29 : decode cX6_digest 29 = .ok (.invokevirtual 122, 3) := by decide +kernel
theorem dX6_digest_32 : decode cX6_digest 32 = .ok (.i2l, 1) := by decide +kernel
theorem dX6_digest_33 : decode cX6_digest 33 = .ok (.invokevirtual 206, 3) := by decide +kernel
theorem dX6_digest_36 : decode cX6_digest 36 = .ok (.iinc 2 1, 3) := by decide +kernel
theorem dX6_digest_39 : decode cX6_digest 39 = .ok (.goto (-20), 3) := by decide +kernel
theorem dX6_digest_42 : decode cX6_digest 42 = .ok (.iinc 1 1, 3) := by decide +kernel
theorem dX6_digest_45 : decode cX6_digest 45 = .ok (.goto (-36), 3) := by decide +kernel
theorem dX6_digest_48 : decode cX6_digest 48 = .ok (.iconst 0, 1) := by decide +kernel
theorem dX6_digest_49 : decode cX6_digest 49 = .ok (.istore_n 1, 1) := by decide +kernel
theorem dX6_digest_50 : decode cX6_digest 50 = .ok (.iload_n 1, 1) := by decide +kernel
theorem dX6_digest_51 : decode cX6_digest 51 = .ok (.aload_n 0, 1) := by decide +kernel
theorem dX6_digest_52 : decode cX6_digest 52 = .ok (.getfield 77, 3) := by decide +kernel
theorem dX6_digest_55 : decode cX6_digest 55 = .ok (.if_icmp .ge 61, 3) := by decide +kernel
theorem dX6_digest_58 : decode cX6_digest 58 = .ok (.iconst 0, 1) := by decide +kernel
theorem dX6_digest_59 : decode cX6_digest 59 = .ok (.istore_n 2, 1) := by decide +kernel
theorem dX6_digest_60 : decode cX6_digest 60 = .ok (.iload_n 2, 1) := by decide +kernel
theorem dX6_digest_61 : decode cX6_digest 61 = .ok (.bipush 7, 2) := by decide +kernel
theorem dX6_digest_63 : decode cX6_digest 63 = .ok (.if_icmp .ge 20, 3) := by decide +kernel
theorem dX6_digest_66 : decode cX6_digest 66 = .ok (.aload_n 0, 1) := by decide +kernel
theorem dX6_digest_67 : decode cX6_digest 67 = .ok (.aload_n 0, 1) := by decide +kernel
theorem dX6_digest_68 : decode cX6_digest 68 = .ok (.iload_n 1, 1) := by decide +kernel
theorem dX6_digest_69 : decode cX6_digest 69 = .ok (.iload_n 2, 1) := by decide +kernel
theorem dX6_digest_70 : decode cX6_digest 70 = .ok (.invokevirtual 134, 3) := by decide +kernel
theorem dX6_digest_73 : decode cX6_digest 73 = .ok (.i2l, 1) := by decide +kernel
theorem dX6_digest_74 : decode cX6_digest 74 = .ok (.invokevirtual 206, 3) := by decide +kernel
theorem dX6_digest_77 : decode cX6_digest 77 = .ok (.iinc 2 1, 3) := by decide +kernel
theorem dX6_digest_80 : decode cX6_digest 80 = .ok (.goto (-20), 3) := by decide +kernel
theorem dX6_digest_83 : decode cX6_digest 83 = .ok (.iconst 0, 1) := by decide +kernel
theorem dX6_digest_84 : decode cX6_digest 84 = .ok (.istore_n 2, 1) := by decide +kernel
theorem dX6_digest_85 : decode cX6_digest 85 = .ok (.iload_n 2, 1) := by decide +kernel
theorem dX6_digest_86 : decode cX6_digest 86 = .ok (.aload_n 0, 1) := by decide +kernel
theorem dX6_digest_87 : decode cX6_digest 87 = .ok (.getfield 74, 3) := by decide +kernel
theorem dX6_digest_90 : decode cX6_digest 90 = .ok (.if_icmp .ge 20, 3) := by decide +kernel
theorem dX6_digest_93 : decode cX6_digest 93 = .ok (.aload_n 0, 1) := by decide +kernel
theorem dX6_digest_94 : decode cX6_digest 94 = .ok (.aload_n 0, 1) := by decide +kernel
theorem dX6_digest_95 : decode cX6_digest 95 = .ok (.iload_n 2, 1) := by decide +kernel
theorem dX6_digest_96 : decode cX6_digest 96 = .ok (.iload_n 1, 1) := by decide +kernel
theorem dX6_digest_97 : decode cX6_digest 97 = .ok (.invokevirtual 99, 3) := by decide +kernel
theorem dX6_digest_100 : decode cX6_digest 100 = .ok (.i2l, 1) := by decide +kernel
theorem dX6_digest_101 : decode cX6_digest 101 = .ok (.invokevirtual 206, 3) := by decide +kernel
theorem dX6_digest_104 : decode cX6_digest 104 = .ok (.iinc 2 1, 3) := by decide +kernel
theorem dX6_digest_107 : decode cX6_digest 107 = .ok (.goto (-22), 3) := by decide +kernel
theorem dX6_digest_110 : decode cX6_digest 110 = .ok (.iinc 1 1, 3) := by decide +kernel
theorem dX6_digest_113 : decode cX6_digest 113 = .ok (.goto (-63), 3) := by decide +kernel
theorem dX6_digest_116 : decode cX6_digest 116 = .ok (.aload_n 0, 1) := by decide +kernel
theorem dX6_digest_117 : decode cX6_digest 117 = .ok (.invokevirtual 141, 3) := by decide +kernel
theorem dX6_digest_120 : decode cX6_digest 120 = .ok (.ifCond .ne 48, 3) := by decide +kernel
theorem dX6_digest_123 : decode cX6_digest 123 = .ok (.aload_n 0, 1) := by decide +kernel
theorem dX6_digest_124 : decode cX6_digest 124 = .ok (.aload_n 0, 1) := by decide +kernel
theorem dX6_digest_125 : decode cX6_digest 125 = .ok (.iconst 0, 1) := by decide +kernel
theorem dX6_digest_126 : decode cX6_digest 126 = .ok (.invokevirtual 159, 3) := by decide +kernel
theorem dX6_digest_129 : decode cX6_digest 129 = .ok (.i2l, 1) := by decide +kernel
theorem dX6_digest_130 : decode cX6_digest 130 = .ok (.invokevirtual 206, 3) := by decide +kernel
theorem dX6_digest_133 : decode cX6_digest 133 = .ok (.aload_n 0, 1) := by decide +kernel
theorem dX6_digest_134 : decode cX6_digest 134 = .ok (.aload_n 0, 1) := by decide +kernel
theorem dX6_digest_135 : decode cX6_digest 135 = .ok (.iconst 1, 1) := by decide +kernel
theorem dX6_digest_136 : decode cX6_digest 136 = .ok (.invokevirtual 159, 3) := by decide +kernel
theorem dX6_digest_139 : decode cX6_digest 139 = .ok (.i2l, 1) := by decide +kernel
theorem dX6_digest_140 : decode cX6_digest 140 = .ok (.invokevirtual 206, 3) := by decide +kernel
theorem dX6_digest_143 : decode cX6_digest 143 = .ok (.bipush 10, 2) := by decide +kernel
theorem dX6_digest_145 : decode cX6_digest 145 = .ok (.istore_n 1, 1) := by decide +kernel
theorem dX6_digest_146 : decode cX6_digest 146 = .ok (.iload_n 1, 1) := by decide +kernel
theorem dX6_digest_147 : decode cX6_digest 147 = .ok (.bipush 13, 2) := by decide +kernel
theorem dX6_digest_149 : decode cX6_digest 149 = .ok (.if_icmp .ge 19, 3) := by decide +kernel
theorem dX6_digest_152 : decode cX6_digest 152 = .ok (.aload_n 0, 1) := by decide +kernel
theorem dX6_digest_153 : decode cX6_digest 153 = .ok (.aload_n 0, 1) := by decide +kernel
theorem dX6_digest_154 : decode cX6_digest 154 = .ok (.iload_n 1, 1) := by decide +kernel
theorem dX6_digest_155 : decode cX6_digest 155 = .ok (.invokevirtual 159, 3) := by decide +kernel
theorem dX6_digest_158 : decode cX6_digest 158 = .ok (.i2l, 1) := by decide +kernel
theorem dX6_digest_159 : decode cX6_digest 159 = .ok (.invokevirtual 206, 3) := by decide +kernel
theorem dX6_digest_162 : decode cX6_digest 162 = .ok (.iinc 1 1, 3) := by decide +kernel
theorem dX6_digest_165 : decode cX6_digest 165 = .ok (.goto (-19), 3) := by decide +kernel
theorem dX6_digest_168 : decode cX6_digest 168 = .ok (.iconst 0, 1) := by decide +kernel
theorem dX6_digest_169 : decode cX6_digest 169 = .ok (.istore_n 1, 1) := by decide +kernel
theorem dX6_digest_170 : decode cX6_digest 170 = .ok (.iload_n 1, 1) := by decide +kernel
theorem dX6_digest_171 : decode cX6_digest 171 = .ok (.aload_n 0, 1) := by decide +kernel
theorem dX6_digest_172 : decode cX6_digest 172 = .ok (.getfield 53, 3) := by decide +kernel
theorem dX6_digest_175 : decode cX6_digest 175 = .ok (.if_icmp .ge 20, 3) := by decide +kernel
theorem dX6_digest_178 : decode cX6_digest 178 = .ok (.aload_n 0, 1) := by decide +kernel
theorem dX6_digest_179 : decode cX6_digest 179 = .ok (.aload_n 0, 1) := by decide +kernel
theorem dX6_digest_180 : decode cX6_digest 180 = .ok (.getfield 7, 3) := by decide +kernel
theorem dX6_digest_183 : decode cX6_digest 183 = .ok (.iload_n 1, 1) := by decide +kernel
theorem dX6_digest_184 : decode cX6_digest 184 = .ok (.iaload, 1) := by decide +kernel
theorem dX6_digest_185 : decode cX6_digest 185 = .ok (.i2l, 1) := by decide +kernel
theorem dX6_digest_186 : decode cX6_digest 186 = .ok (.invokevirtual 206, 3) := by decide +kernel
theorem dX6_digest_189 : decode cX6_digest 189 = .ok (.iinc 1 1, 3) := by decide +kernel
theorem dX6_digest_192 : decode cX6_digest 192 = .ok (.goto (-22), 3) := by decide +kernel
theorem dX6_digest_195 : decode cX6_digest 195 = .ok (.iconst 0, 1) := by decide +kernel
theorem dX6_digest_196 : decode cX6_digest 196 = .ok (.istore_n 1, 1) := by decide +kernel
theorem dX6_digest_197 : decode cX6_digest 197 = .ok (.iload_n 1, 1) := by decide +kernel
theorem dX6_digest_198 : decode cX6_digest 198 = .ok (.bipush 11, 2) := by decide +kernel
theorem dX6_digest_200 : decode cX6_digest 200 = .ok (.if_icmp .ge 19, 3) := by decide +kernel
theorem dX6_digest_203 : decode cX6_digest 203 = .ok (.aload_n 0, 1) := by decide +kernel
theorem dX6_digest_204 : decode cX6_digest 204 = .ok (.aload_n 0, 1) := by decide +kernel
theorem dX6_digest_205 : decode cX6_digest 205 = .ok (.iload_n 1, 1) := by decide +kernel
theorem dX6_digest_206 : decode cX6_digest 206 = .ok (.invokevirtual 195, 3) := by decide +kernel
theorem dX6_digest_209 : decode cX6_digest 209 = .ok (.i2l, 1) := by decide +kernel
theorem dX6_digest_210 : decode cX6_digest 210 = .ok (.invokevirtual 206, 3) := by decide +kernel
theorem dX6_digest_213 : decode cX6_digest 213 = .ok (.iinc 1 1, 3) := by decide +kernel
theorem dX6_digest_216 : decode cX6_digest 216 = .ok (.goto (-19), 3) := by decide +kernel
theorem dX6_digest_219 : decode cX6_digest 219 = .ok (.aload_n 0, 1) := by decide +kernel
theorem dX6_digest_220 : decode cX6_digest 220 = .ok (.getfield 200, 3) := by decide +kernel
theorem dX6_digest_223 : decode cX6_digest 223 = .ok (.lreturn, 1) := by decide +kernel
theorem dJ6_bitCount_0f7a4_0 : decode cJ6_bitCount_0f7a4 0 = .ok (.iload_n 0, 1) := by decide +kernel
theorem dJ6_bitCount_0f7a4_1 : decode cJ6_bitCount_0f7a4 1 = .ok (.iload_n 0, 1) := by decide +kernel
theorem dJ6_bitCount_0f7a4_2 : decode cJ6_bitCount_0f7a4 2 = .ok (.iconst 1, 1) := by decide +kernel
theorem dJ6_bitCount_0f7a4_3 : decode cJ6_bitCount_0f7a4 3 = .ok (.iushr, 1) := by decide +kernel
theorem dJ6_bitCount_0f7a4_4 : decode cJ6_bitCount_0f7a4 4 = .ok (.ldc_w 265, 3) := by decide +kernel
theorem dJ6_bitCount_0f7a4_7 : decode cJ6_bitCount_0f7a4 7 = .ok (.iand, 1) := by decide +kernel
theorem dJ6_bitCount_0f7a4_8 : decode cJ6_bitCount_0f7a4 8 = .ok (.isub, 1) := by decide +kernel
theorem dJ6_bitCount_0f7a4_9 : decode cJ6_bitCount_0f7a4 9 = .ok (.istore_n 0, 1) := by decide +kernel
theorem dJ6_bitCount_0f7a4_10 : decode cJ6_bitCount_0f7a4 10 = .ok (.iload_n 0, 1) := by decide +kernel
theorem dJ6_bitCount_0f7a4_11 : decode cJ6_bitCount_0f7a4 11 = .ok (.ldc_w 266, 3) := by decide +kernel
theorem dJ6_bitCount_0f7a4_14 : decode cJ6_bitCount_0f7a4 14 = .ok (.iand, 1) := by decide +kernel
theorem dJ6_bitCount_0f7a4_15 : decode cJ6_bitCount_0f7a4 15 = .ok (.iload_n 0, 1) := by decide +kernel
theorem dJ6_bitCount_0f7a4_16 : decode cJ6_bitCount_0f7a4 16 = .ok (.iconst 2, 1) := by decide +kernel
theorem dJ6_bitCount_0f7a4_17 : decode cJ6_bitCount_0f7a4 17 = .ok (.iushr, 1) := by decide +kernel
theorem dJ6_bitCount_0f7a4_18 : decode cJ6_bitCount_0f7a4 18 = .ok (.ldc_w 266, 3) := by decide +kernel
theorem dJ6_bitCount_0f7a4_21 : decode cJ6_bitCount_0f7a4 21 = .ok (.iand, 1) := by decide +kernel
theorem dJ6_bitCount_0f7a4_22 : decode cJ6_bitCount_0f7a4 22 = .ok (.iadd, 1) := by decide +kernel
theorem dJ6_bitCount_0f7a4_23 : decode cJ6_bitCount_0f7a4 23 = .ok (.istore_n 0, 1) := by decide +kernel
theorem dJ6_bitCount_0f7a4_24 : decode cJ6_bitCount_0f7a4 24 = .ok (.iload_n 0, 1) := by decide +kernel
theorem dJ6_bitCount_0f7a4_25 : decode cJ6_bitCount_0f7a4 25 = .ok (.iload_n 0, 1) := by decide +kernel
theorem dJ6_bitCount_0f7a4_26 : decode cJ6_bitCount_0f7a4 26 = .ok (.iconst 4, 1) := by decide +kernel
theorem dJ6_bitCount_0f7a4_27 : decode cJ6_bitCount_0f7a4 27 = .ok (.iushr, 1) := by decide +kernel
theorem dJ6_bitCount_0f7a4_28 : decode cJ6_bitCount_0f7a4 28 = .ok (.iadd, 1) := by decide +kernel
theorem dJ6_bitCount_0f7a4_29 : decode cJ6_bitCount_0f7a4 29 = .ok (.ldc_w 267, 3) := by decide +kernel
theorem dJ6_bitCount_0f7a4_32 : decode cJ6_bitCount_0f7a4 32 = .ok (.iand, 1) := by decide +kernel
theorem dJ6_bitCount_0f7a4_33 : decode cJ6_bitCount_0f7a4 33 = .ok (.istore_n 0, 1) := by decide +kernel
theorem dJ6_bitCount_0f7a4_34 : decode cJ6_bitCount_0f7a4 34 = .ok (.iload_n 0, 1) := by decide +kernel
theorem dJ6_bitCount_0f7a4_35 : decode cJ6_bitCount_0f7a4 35 = .ok (.iload_n 0, 1) := by decide +kernel
theorem dJ6_bitCount_0f7a4_36 : decode cJ6_bitCount_0f7a4 36 = .ok (.bipush 8, 2) := by decide +kernel
theorem dJ6_bitCount_0f7a4_38 : decode cJ6_bitCount_0f7a4 38 = .ok (.iushr, 1) := by decide +kernel
theorem dJ6_bitCount_0f7a4_39 : decode cJ6_bitCount_0f7a4 39 = .ok (.iadd, 1) := by decide +kernel
theorem dJ6_bitCount_0f7a4_40 : decode cJ6_bitCount_0f7a4 40 = .ok (.istore_n 0, 1) := by decide +kernel
theorem dJ6_bitCount_0f7a4_41 : decode cJ6_bitCount_0f7a4 41 = .ok (.iload_n 0, 1) := by decide +kernel
theorem dJ6_bitCount_0f7a4_42 : decode cJ6_bitCount_0f7a4 42 = .ok (.iload_n 0, 1) := by decide +kernel
theorem dJ6_bitCount_0f7a4_43 : decode cJ6_bitCount_0f7a4 43 = .ok (.bipush 16, 2) := by decide +kernel
theorem dJ6_bitCount_0f7a4_45 : decode cJ6_bitCount_0f7a4 45 = .ok (.iushr, 1) := by decide +kernel
theorem dJ6_bitCount_0f7a4_46 : decode cJ6_bitCount_0f7a4 46 = .ok (.iadd, 1) := by decide +kernel
theorem dJ6_bitCount_0f7a4_47 : decode cJ6_bitCount_0f7a4 47 = .ok (.istore_n 0, 1) := by decide +kernel
theorem dJ6_bitCount_0f7a4_48 : decode cJ6_bitCount_0f7a4 48 = .ok (.iload_n 0, 1) := by decide +kernel
theorem dJ6_bitCount_0f7a4_49 : decode cJ6_bitCount_0f7a4 49 = .ok (.bipush 63, 2) := by decide +kernel
theorem dJ6_bitCount_0f7a4_51 : decode cJ6_bitCount_0f7a4 51 = .ok (.iand, 1) := by decide +kernel
theorem dJ6_bitCount_0f7a4_52 : decode cJ6_bitCount_0f7a4 52 = .ok (.ireturn, 1) := by decide +kernel
theorem dJ0_length_8abf5_0 : decode cJ0_length_8abf5 0 = .ok (.aload_n 0, 1) := by decide +kernel
theorem dJ0_length_8abf5_1 : decode cJ0_length_8abf5 1 = .ok (.getfield 9, 3) := by decide +kernel
theorem dJ0_length_8abf5_4 : decode cJ0_length_8abf5 4 = .ok (.arraylength, 1) := by decide +kernel
theorem dJ0_length_8abf5_5 : decode cJ0_length_8abf5 5 = .ok (.aload_n 0, 1) := by decide +kernel
theorem dJ0_length_8abf5_6 : decode cJ0_length_8abf5 6 = .ok (.invokevirtual 335, 3) := by decide +kernel
theorem dJ0_length_8abf5_9 : decode cJ0_length_8abf5 9 = .ok (.ishr, 1) := by decide +kernel
theorem dJ0_length_8abf5_10 : decode cJ0_length_8abf5 10 = .ok (.ireturn, 1) := by decide +kernel
theorem dJ0_indexOf_0f7a4_0 : decode cJ0_indexOf_0f7a4 0 = .ok (.aload_n 0, 1) := by decide +kernel
theorem dJ0_indexOf_0f7a4_1 : decode cJ0_indexOf_0f7a4 1 = .ok (.iload_n 1, 1) := by decide +kernel
theorem dJ0_indexOf_0f7a4_2 : decode cJ0_indexOf_0f7a4 2 = .ok (.iconst 0, 1) := by decide +kernel
theorem dJ0_indexOf_0f7a4_3 : decode cJ0_indexOf_0f7a4 3 = .ok (.invokevirtual 633, 3) := by decide +kernel
theorem dJ0_indexOf_0f7a4_6 : decode cJ0_indexOf_0f7a4 6 = .ok (.ireturn, 1) := by decide +kernel
theorem dJ0_indexOf_7cf53_0 : decode cJ0_indexOf_7cf53 0 = .ok (.aload_n 0, 1) := by decide +kernel
theorem dJ0_indexOf_7cf53_1 : decode cJ0_indexOf_7cf53 1 = .ok (.invokevirtual 492, 3) := by decide +kernel
theorem dJ0_indexOf_7cf53_4 : decode cJ0_indexOf_7cf53 4 = .ok (.ifCond .eq 19, 3) := by decide +kernel
theorem dJ0_indexOf_7cf53_7 : decode cJ0_indexOf_7cf53 7 = .ok (.aload_n 0, 1) := by decide +kernel
theorem dJ0_indexOf_7cf53_8 : decode cJ0_indexOf_7cf53 8 = .ok (.getfield 9, 3) := by decide +kernel
theorem dJ0_indexOf_7cf53_11 : decode cJ0_indexOf_7cf53 11 = .ok (.iload_n 1, 1) := by decide +kernel
theorem dJ0_indexOf_7cf53_12 : decode cJ0_indexOf_7cf53 12 = .ok (.iload_n 2, 1) := by decide +kernel
theorem dJ0_indexOf_7cf53_13 : decode cJ0_indexOf_7cf53 13 = .ok (.aload_n 0, 1) := by decide +kernel
theorem dJ0_indexOf_7cf53_14 : decode cJ0_indexOf_7cf53 14 = .ok (.invokevirtual 505, 3) := by decide +kernel
theorem dJ0_indexOf_7cf53_17 : decode cJ0_indexOf_7cf53 17 = .ok (.invokestatic 637, 3) := by decide +kernel
theorem dJ0_indexOf_7cf53_20 : decode cJ0_indexOf_7cf53 20 = .ok (.goto 16, 3) := by decide +kernel
theorem dJ0_indexOf_7cf53_23 : decode cJ0_indexOf_7cf53 23 = .ok (.aload_n 0, 1) := by decide +kernel
theorem dJ0_indexOf_7cf53_24 : decode cJ0_indexOf_7cf53 24 = .ok (.getfield 9, 3) := by decide +kernel
theorem dJ0_indexOf_7cf53_27 : decode cJ0_indexOf_7cf53 27 = .ok (.iload_n 1, 1) := by decide +kernel
theorem dJ0_indexOf_7cf53_28 : decode cJ0_indexOf_7cf53 28 = .ok (.iload_n 2, 1) := by decide +kernel
theorem dJ0_indexOf_7cf53_29 : decode cJ0_indexOf_7cf53 29 = .ok (.aload_n 0, 1) := by decide +kernel
theorem dJ0_indexOf_7cf53_30 : decode cJ0_indexOf_7cf53 30 = .ok (.invokevirtual 505, 3) := by decide +kernel
theorem dJ0_indexOf_7cf53_33 : decode cJ0_indexOf_7cf53 33 = .ok (.invokestatic 640, 3) := by decide +kernel
theorem dJ0_indexOf_7cf53_36 : decode cJ0_indexOf_7cf53 36 = .ok (.ireturn, 1) := by decide +kernel
theorem dJ0_coder_7d493_0 : decode cJ0_coder_7d493 0 = .ok (.getstatic 38, 3) := by decide +kernel
theorem dJ0_coder_7d493_3 : decode cJ0_coder_7d493 3 = .ok (.ifCond .eq 10, 3) := by decide +kernel
theorem dJ0_coder_7d493_6 : decode cJ0_coder_7d493 6 = .ok (.aload_n 0, 1) := by decide +kernel
theorem dJ0_coder_7d493_7 : decode cJ0_coder_7d493 7 = .ok (.getfield 15, 3) := by decide +kernel
theorem dJ0_coder_7d493_10 : decode cJ0_coder_7d493 10 = .ok (.goto 4, 3) := by decide +kernel
theorem dJ0_coder_7d493_13 : decode cJ0_coder_7d493 13 = .ok (.iconst 1, 1) := by decide +kernel
theorem dJ0_coder_7d493_14 : decode cJ0_coder_7d493 14 = .ok (.ireturn, 1) := by decide +kernel
theorem dJ0_isLatin1_aae02_0 : decode cJ0_isLatin1_aae02 0 = .ok (.getstatic 38, 3) := by decide +kernel
theorem dJ0_isLatin1_aae02_3 : decode cJ0_isLatin1_aae02 3 = .ok (.ifCond .eq 14, 3) := by decide +kernel
theorem dJ0_isLatin1_aae02_6 : decode cJ0_isLatin1_aae02 6 = .ok (.aload_n 0, 1) := by decide +kernel
theorem dJ0_isLatin1_aae02_7 : decode cJ0_isLatin1_aae02 7 = .ok (.getfield 15, 3) := by decide +kernel
theorem dJ0_isLatin1_aae02_10 : decode cJ0_isLatin1_aae02 10 = .ok (.ifCond .ne 7, 3) := by decide +kernel
theorem dJ0_isLatin1_aae02_13 : decode cJ0_isLatin1_aae02 13 = .ok (.iconst 1, 1) := by decide +kernel
theorem dJ0_isLatin1_aae02_14 : decode cJ0_isLatin1_aae02 14 = .ok (.goto 4, 3) := by decide +kernel
theorem dJ0_isLatin1_aae02_17 : decode cJ0_isLatin1_aae02 17 = .ok (.iconst 0, 1) := by decide +kernel
theorem dJ0_isLatin1_aae02_18 : decode cJ0_isLatin1_aae02 18 = .ok (.ireturn, 1) := by decide +kernel
theorem dJ1_canEncode_9a6ad_0 : decode cJ1_canEncode_9a6ad 0 = .ok (.iload_n 0, 1) := by decide +kernel
theorem dJ1_canEncode_9a6ad_1 : decode cJ1_canEncode_9a6ad 1 = .ok (.ifCond .lt 14, 3) := by decide +kernel
theorem dJ1_canEncode_9a6ad_4 : decode cJ1_canEncode_9a6ad 4 = .ok (.iload_n 0, 1) := by decide +kernel
theorem dJ1_canEncode_9a6ad_5 : decode cJ1_canEncode_9a6ad 5 = .ok (.sipush 255, 3) := by decide +kernel
theorem dJ1_canEncode_9a6ad_8 : decode cJ1_canEncode_9a6ad 8 = .ok (.if_icmp .gt 7, 3) := by decide +kernel
theorem dJ1_canEncode_9a6ad_11 : decode cJ1_canEncode_9a6ad 11 = .ok (.iconst 1, 1) := by decide +kernel
theorem dJ1_canEncode_9a6ad_12 : decode cJ1_canEncode_9a6ad 12 = .ok (.goto 4, 3) := by decide +kernel
theorem dJ1_canEncode_9a6ad_15 : decode cJ1_canEncode_9a6ad 15 = .ok (.iconst 0, 1) := by decide +kernel
theorem dJ1_canEncode_9a6ad_16 : decode cJ1_canEncode_9a6ad 16 = .ok (.ireturn, 1) := by decide +kernel
theorem dJ1_indexOf_4cfef_0 : decode cJ1_indexOf_4cfef 0 = .ok (.iload_n 1, 1) := by decide +kernel
theorem dJ1_indexOf_4cfef_1 : decode cJ1_indexOf_4cfef 1 = .ok (.invokestatic 88, 3) := by decide +kernel
theorem dJ1_indexOf_4cfef_4 : decode cJ1_indexOf_4cfef 4 = .ok (.ifCond .ne 5, 3) := by decide +kernel
theorem dJ1_indexOf_4cfef_7 : decode cJ1_indexOf_4cfef 7 = .ok (.iconst (-1), 1) := by decide +kernel
theorem dJ1_indexOf_4cfef_8 : decode cJ1_indexOf_4cfef 8 = .ok (.ireturn, 1) := by decide +kernel
theorem dJ1_indexOf_4cfef_9 : decode cJ1_indexOf_4cfef 9 = .ok (.iload_n 2, 1) := by decide +kernel
theorem dJ1_indexOf_4cfef_10 : decode cJ1_indexOf_4cfef 10 = .ok (.iconst 0, 1) := by decide +kernel
theorem dJ1_indexOf_4cfef_11 : decode cJ1_indexOf_4cfef 11 = .ok (.invokestatic 92, 3) := by decide +kernel
theorem dJ1_indexOf_4cfef_14 : decode cJ1_indexOf_4cfef 14 = .ok (.istore_n 2, 1) := by decide +kernel
theorem dJ1_indexOf_4cfef_15 : decode cJ1_indexOf_4cfef 15 = .ok (.iload_n 3, 1) := by decide +kernel
theorem dJ1_indexOf_4cfef_16 : decode cJ1_indexOf_4cfef 16 = .ok (.aload_n 0, 1) := by decide +kernel
theorem dJ1_indexOf_4cfef_17 : decode cJ1_indexOf_4cfef 17 = .ok (.arraylength, 1) := by decide +kernel
theorem dJ1_indexOf_4cfef_18 : decode cJ1_indexOf_4cfef 18 = .ok (.invokestatic 38, 3) := by decide +kernel
theorem dJ1_indexOf_4cfef_21 : decode cJ1_indexOf_4cfef 21 = .ok (.istore_n 3, 1) := by decide +kernel
theorem dJ1_indexOf_4cfef_22 : decode cJ1_indexOf_4cfef 22 = .ok (.iload_n 2, 1) := by decide +kernel
theorem dJ1_indexOf_4cfef_23 : decode cJ1_indexOf_4cfef 23 = .ok (.iload_n 3, 1) := by decide +kernel
theorem dJ1_indexOf_4cfef_24 : decode cJ1_indexOf_4cfef 24 = .ok (.if_icmp .lt 5, 3) := by decide +kernel
theorem dJ1_indexOf_4cfef_27 : decode cJ1_indexOf_4cfef 27 = .ok (.iconst (-1), 1) := by decide +kernel
theorem dJ1_indexOf_4cfef_28 : decode cJ1_indexOf_4cfef 28 = .ok (.ireturn, 1) := by decide +kernel
theorem dJ1_indexOf_4cfef_29 : decode cJ1_indexOf_4cfef 29 = .ok (.aload_n 0, 1) := by decide +kernel
theorem dJ1_indexOf_4cfef_30 : decode cJ1_indexOf_4cfef 30 = .ok (.iload_n 1, 1) := by decide +kernel
theorem dJ1_indexOf_4cfef_31 : decode cJ1_indexOf_4cfef 31 = .ok (.iload_n 2, 1) := by decide +kernel
theorem dJ1_indexOf_4cfef_32 : decode cJ1_indexOf_4cfef 32 = .ok (.iload_n 3, 1) := by decide +kernel
theorem dJ1_indexOf_4cfef_33 : decode cJ1_indexOf_4cfef 33 = .ok (.invokestatic 95, 3) := by decide +kernel
theorem dJ1_indexOf_4cfef_36 : decode cJ1_indexOf_4cfef 36 = .ok (.ireturn, 1) := by decide +kernel
theorem dJ1_indexOfChar_4cfef_0 : decode cJ1_indexOfChar_4cfef 0 = .ok (.iload_n 1, 1) := by decide +kernel
theorem dJ1_indexOfChar_4cfef_1 : decode cJ1_indexOfChar_4cfef 1 = .ok (.i2b, 1) := by decide +kernel
theorem dJ1_indexOfChar_4cfef_2 : decode cJ1_indexOfChar_4cfef 2 = .ok (.istore 4, 2) := by decide +kernel
theorem dJ1_indexOfChar_4cfef_4 : decode cJ1_indexOfChar_4cfef 4 = .ok (.iload_n 2, 1) := by decide +kernel
theorem dJ1_indexOfChar_4cfef_5 : decode cJ1_indexOfChar_4cfef 5 = .ok (.istore 5, 2) := by decide +kernel
theorem dJ1_indexOfChar_4cfef_7 : decode cJ1_indexOfChar_4cfef 7 = .ok (.iload 5, 2) := by decide +kernel
theorem dJ1_indexOfChar_4cfef_9 : decode cJ1_indexOfChar_4cfef 9 = .ok (.iload_n 3, 1) := by decide +kernel
theorem dJ1_indexOfChar_4cfef_10 : decode cJ1_indexOfChar_4cfef 10 = .ok (.if_icmp .ge 21, 3) := by decide +kernel
theorem dJ1_indexOfChar_4cfef_13 : decode cJ1_indexOfChar_4cfef 13 = .ok (.aload_n 0, 1) := by decide +kernel
theorem dJ1_indexOfChar_4cfef_14 : decode cJ1_indexOfChar_4cfef 14 = .ok (.iload 5, 2) := by decide +kernel
theorem dJ1_indexOfChar_4cfef_16 : decode cJ1_indexOfChar_4cfef 16 = .ok (.baload, 1) := by decide +kernel
theorem dJ1_indexOfChar_4cfef_17 : decode cJ1_indexOfChar_4cfef 17 = .ok (.iload 4, 2) := by decide +kernel
theorem dJ1_indexOfChar_4cfef_19 : decode cJ1_indexOfChar_4cfef 19 = .ok (.if_icmp .ne 6, 3) := by decide +kernel
theorem dJ1_indexOfChar_4cfef_22 : decode cJ1_indexOfChar_4cfef 22 = .ok (.iload 5, 2) := by decide +kernel
theorem dJ1_indexOfChar_4cfef_24 : decode cJ1_indexOfChar_4cfef 24 = .ok (.ireturn, 1) := by decide +kernel
theorem dJ1_indexOfChar_4cfef_25 : decode cJ1_indexOfChar_4cfef 25 = .ok (.iinc 5 1, 3) := by decide +kernel
theorem dJ1_indexOfChar_4cfef_28 : decode cJ1_indexOfChar_4cfef 28 = .ok (.goto (-21), 3) := by decide +kernel
theorem dJ1_indexOfChar_4cfef_31 : decode cJ1_indexOfChar_4cfef 31 = .ok (.iconst (-1), 1) := by decide +kernel
theorem dJ1_indexOfChar_4cfef_32 : decode cJ1_indexOfChar_4cfef 32 = .ok (.ireturn, 1) := by decide +kernel
theorem dL_law_0 : decode cL_law 0 = .ok (.new 7, 3) := by decide +kernel
theorem dL_law_3 : decode cL_law 3 = .ok (.dup, 1) := by decide +kernel
theorem dL_law_4 : decode cL_law 4 = .ok (.invokespecial 9, 3) := by decide +kernel
theorem dL_law_7 : decode cL_law 7 = .ok (.astore_n 1, 1) := by decide +kernel
theorem dL_law_8 : decode cL_law 8 = .ok (.new 10, 3) := by decide +kernel
theorem dL_law_11 : decode cL_law 11 = .ok (.dup, 1) := by decide +kernel
theorem dL_law_12 : decode cL_law 12 = .ok (.invokespecial 12, 3) := by decide +kernel
theorem dL_law_15 : decode cL_law 15 = .ok (.astore_n 2, 1) := by decide +kernel
theorem dL_law_16 : decode cL_law 16 = .ok (.iconst 0, 1) := by decide +kernel
theorem dL_law_17 : decode cL_law 17 = .ok (.istore_n 3, 1) := by decide +kernel
theorem dL_law_18 : decode cL_law 18 = .ok (.iload_n 3, 1) := by decide +kernel
theorem dL_law_19 : decode cL_law 19 = .ok (.aload_n 0, 1) := by decide +kernel
theorem dL_law_20 : decode cL_law 20 = .ok (.arraylength, 1) := by decide +kernel
theorem dL_law_21 : decode cL_law 21 = .ok (.iconst 4, 1) := by decide +kernel
theorem dL_law_22 : decode cL_law 22 = .ok (.isub, 1) := by decide +kernel
theorem dL_law_23 : decode cL_law 23 = .ok (.if_icmp .gt 618, 3) := by decide +kernel
theorem dL_law_26 : decode cL_law 26 = .ok (.aload_n 0, 1) := by decide +kernel
theorem dL_law_27 : decode cL_law 27 = .ok (.iload_n 3, 1) := by decide +kernel
theorem dL_law_28 : decode cL_law 28 = .ok (.iaload, 1) := by decide +kernel
theorem dL_law_29 : decode cL_law 29 = .ok (.bipush 31, 2) := by decide +kernel
theorem dL_law_31 : decode cL_law 31 = .ok (.iand, 1) := by decide +kernel
theorem dL_law_32 : decode cL_law 32 = .ok (.tableswitch 603 0 19 #[96, 119, 132, 145, 158, 191, 224, 257, 290, 323, 346, 389, 402, 425, 484, 497, 540, 553, 566, 589], 96) := by decide +kernel
theorem dL_law_128 : decode cL_law 128 = .ok (.aload_n 1, 1) := by decide +kernel
theorem dL_law_129 : decode cL_law 129 = .ok (.aload_n 0, 1) := by decide +kernel
theorem dL_law_130 : decode cL_law 130 = .ok (.iload_n 3, 1) := by decide +kernel
theorem dL_law_131 : decode cL_law 131 = .ok (.iconst 1, 1) := by decide +kernel
theorem dL_law_132 : decode cL_law 132 = .ok (.iadd, 1) := by decide +kernel
theorem dL_law_133 : decode cL_law 133 = .ok (.iaload, 1) := by decide +kernel
theorem dL_law_134 : decode cL_law 134 = .ok (.invokevirtual 13, 3) := by decide +kernel
theorem dL_law_137 : decode cL_law 137 = .ok (.aload_n 2, 1) := by decide +kernel
theorem dL_law_138 : decode cL_law 138 = .ok (.aload_n 0, 1) := by decide +kernel
theorem dL_law_139 : decode cL_law 139 = .ok (.iload_n 3, 1) := by decide +kernel
theorem dL_law_140 : decode cL_law 140 = .ok (.iconst 1, 1) := by decide +kernel
theorem dL_law_141 : decode cL_law 141 = .ok (.iadd, 1) := by decide +kernel
theorem dL_law_142 : decode cL_law 142 = .ok (.iaload, 1) := by decide +kernel
theorem dL_law_143 : decode cL_law 143 = .ok (.invokevirtual 17, 3) := by decide +kernel
theorem dL_law_146 : decode cL_law 146 = .ok (.if_icmp .eq 489, 3) := by decide +kernel
theorem dL_law_149 : decode cL_law 149 = .ok (.iconst 0, 1) := by decide +kernel
theorem dL_law_150 : decode cL_law 150 = .ok (.ireturn, 1) := by decide +kernel
theorem dL_law_151 : decode cL_law 151 = .ok (.aload_n 1, 1) := by decide +kernel
theorem dL_law_152 : decode cL_law 152 = .ok (.invokevirtual 18, 3) := by decide +kernel
theorem dL_law_155 : decode cL_law 155 = .ok (.aload_n 2, 1) := by decide +kernel
theorem dL_law_156 : decode cL_law 156 = .ok (.invokevirtual 22, 3) := by decide +kernel
theorem dL_law_159 : decode cL_law 159 = .ok (.if_icmp .eq 476, 3) := by decide +kernel
theorem dL_law_162 : decode cL_law 162 = .ok (.iconst 0, 1) := by decide +kernel
theorem dL_law_163 : decode cL_law 163 = .ok (.ireturn, 1) := by decide +kernel
theorem dL_law_164 : decode cL_law 164 = .ok (.aload_n 1, 1) := by decide +kernel
theorem dL_law_165 : decode cL_law 165 = .ok (.invokevirtual 23, 3) := by decide +kernel
theorem dL_law_168 : decode cL_law 168 = .ok (.aload_n 2, 1) := by decide +kernel
theorem dL_law_169 : decode cL_law 169 = .ok (.invokevirtual 26, 3) := by decide +kernel
theorem dL_law_172 : decode cL_law 172 = .ok (.if_icmp .eq 463, 3) := by decide +kernel
theorem dL_law_175 : decode cL_law 175 = .ok (.iconst 0, 1) := by decide +kernel
theorem dL_law_176 : decode cL_law 176 = .ok (.ireturn, 1) := by decide +kernel
theorem dL_law_177 : decode cL_law 177 = .ok (.aload_n 1, 1) := by decide +kernel
theorem dL_law_178 : decode cL_law 178 = .ok (.invokevirtual 27, 3) := by decide +kernel
theorem dL_law_181 : decode cL_law 181 = .ok (.aload_n 2, 1) := by decide +kernel
theorem dL_law_182 : decode cL_law 182 = .ok (.invokevirtual 30, 3) := by decide +kernel
theorem dL_law_185 : decode cL_law 185 = .ok (.if_icmp .eq 450, 3) := by decide +kernel
theorem dL_law_188 : decode cL_law 188 = .ok (.iconst 0, 1) := by decide +kernel
theorem dL_law_189 : decode cL_law 189 = .ok (.ireturn, 1) := by decide +kernel
theorem dL_law_190 : decode cL_law 190 = .ok (.aload_n 1, 1) := by decide +kernel
theorem dL_law_191 : decode cL_law 191 = .ok (.aload_n 0, 1) := by decide +kernel
theorem dL_law_192 : decode cL_law 192 = .ok (.iload_n 3, 1) := by decide +kernel
theorem dL_law_193 : decode cL_law 193 = .ok (.iconst 1, 1) := by decide +kernel
theorem dL_law_194 : decode cL_law 194 = .ok (.iadd, 1) := by decide +kernel
theorem dL_law_195 : decode cL_law 195 = .ok (.iaload, 1) := by decide +kernel
theorem dL_law_196 : decode cL_law 196 = .ok (.aload_n 0, 1) := by decide +kernel
theorem dL_law_197 : decode cL_law 197 = .ok (.iload_n 3, 1) := by decide +kernel
theorem dL_law_198 : decode cL_law 198 = .ok (.iconst 2, 1) := by decide +kernel
theorem dL_law_199 : decode cL_law 199 = .ok (.iadd, 1) := by decide +kernel
theorem dL_law_200 : decode cL_law 200 = .ok (.iaload, 1) := by decide +kernel
theorem dL_law_201 : decode cL_law 201 = .ok (.invokevirtual 31, 3) := by decide +kernel
theorem dL_law_204 : decode cL_law 204 = .ok (.aload_n 2, 1) := by decide +kernel
theorem dL_law_205 : decode cL_law 205 = .ok (.aload_n 0, 1) := by decide +kernel
theorem dL_law_206 : decode cL_law 206 = .ok (.iload_n 3, 1) := by decide +kernel
theorem dL_law_207 : decode cL_law 207 = .ok (.iconst 1, 1) := by decide +kernel
theorem dL_law_208 : decode cL_law 208 = .ok (.iadd, 1) := by decide +kernel
theorem dL_law_209 : decode cL_law 209 = .ok (.iaload, 1) := by decide +kernel
theorem dL_law_210 : decode cL_law 210 = .ok (.aload_n 0, 1) := by decide +kernel
theorem dL_law_211 : decode cL_law 211 = .ok (.iload_n 3, 1) := by decide +kernel
theorem dL_law_212 : decode cL_law 212 = .ok (.iconst 2, 1) := by decide +kernel
theorem dL_law_213 : decode cL_law 213 = .ok (.iadd, 1) := by decide +kernel
theorem dL_law_214 : decode cL_law 214 = .ok (.iaload, 1) := by decide +kernel
theorem dL_law_215 : decode cL_law 215 = .ok (.invokevirtual 35, 3) := by decide +kernel
theorem dL_law_218 : decode cL_law 218 = .ok (.if_icmp .eq 417, 3) := by decide +kernel
theorem dL_law_221 : decode cL_law 221 = .ok (.iconst 0, 1) := by decide +kernel
theorem dL_law_222 : decode cL_law 222 = .ok (.ireturn, 1) := by decide +kernel
theorem dL_law_223 : decode cL_law 223 = .ok (.aload_n 1, 1) := by decide +kernel
theorem dL_law_224 : decode cL_law 224 = .ok (.aload_n 0, 1) := by decide +kernel
theorem dL_law_225 : decode cL_law 225 = .ok (.iload_n 3, 1) := by decide +kernel
theorem dL_law_226 : decode cL_law 226 = .ok (.iconst 1, 1) := by decide +kernel
theorem dL_law_227 : decode cL_law 227 = .ok (.iadd, 1) := by decide +kernel
theorem dL_law_228 : decode cL_law 228 = .ok (.iaload, 1) := by decide +kernel
theorem dL_law_229 : decode cL_law 229 = .ok (.aload_n 0, 1) := by decide +kernel
theorem dL_law_230 : decode cL_law 230 = .ok (.iload_n 3, 1) := by decide +kernel
theorem dL_law_231 : decode cL_law 231 = .ok (.iconst 2, 1) := by decide +kernel
theorem dL_law_232 : decode cL_law 232 = .ok (.iadd, 1) := by decide +kernel
theorem dL_law_233 : decode cL_law 233 = .ok (.iaload, 1) := by decide +kernel
theorem dL_law_234 : decode cL_law 234 = .ok (.invokevirtual 36, 3) := by decide +kernel
theorem dL_law_237 : decode cL_law 237 = .ok (.aload_n 2, 1) := by decide +kernel
theorem dL_law_238 : decode cL_law 238 = .ok (.aload_n 0, 1) := by decide +kernel
theorem dL_law_239 : decode cL_law 239 = .ok (.iload_n 3, 1) := by decide +kernel
theorem dL_law_240 : decode cL_law 240 = .ok (.iconst 1, 1) := by decide +kernel
theorem dL_law_241 : decode cL_law 241 = .ok (.iadd, 1) := by decide +kernel
theorem dL_law_242 : decode cL_law 242 = .ok (.iaload, 1) := by decide +kernel
theorem dL_law_243 : decode cL_law 243 = .ok (.aload_n 0, 1) := by decide +kernel
theorem dL_law_244 : decode cL_law 244 = .ok (.iload_n 3, 1) := by decide +kernel
theorem dL_law_245 : decode cL_law 245 = .ok (.iconst 2, 1) := by decide +kernel
theorem dL_law_246 : decode cL_law 246 = .ok (.iadd, 1) := by decide +kernel
theorem dL_law_247 : decode cL_law 247 = .ok (.iaload, 1) := by decide +kernel
theorem dL_law_248 : decode cL_law 248 = .ok (.invokevirtual 39, 3) := by decide +kernel
theorem dL_law_251 : decode cL_law 251 = .ok (.if_icmp .eq 384, 3) := by decide +kernel
theorem dL_law_254 : decode cL_law 254 = .ok (.iconst 0, 1) := by decide +kernel
theorem dL_law_255 : decode cL_law 255 = .ok (.ireturn, 1) := by decide +kernel
theorem dL_law_256 : decode cL_law 256 = .ok (.aload_n 1, 1) := by decide +kernel
theorem dL_law_257 : decode cL_law 257 = .ok (.aload_n 0, 1) := by decide +kernel
theorem dL_law_258 : decode cL_law 258 = .ok (.iload_n 3, 1) := by decide +kernel
theorem dL_law_259 : decode cL_law 259 = .ok (.iconst 1, 1) := by decide +kernel
theorem dL_law_260 : decode cL_law 260 = .ok (.iadd, 1) := by decide +kernel
theorem dL_law_261 : decode cL_law 261 = .ok (.iaload, 1) := by decide +kernel
theorem dL_law_262 : decode cL_law 262 = .ok (.aload_n 0, 1) := by decide +kernel
theorem dL_law_263 : decode cL_law 263 = .ok (.iload_n 3, 1) := by decide +kernel
theorem dL_law_264 : decode cL_law 264 = .ok (.iconst 2, 1) := by decide +kernel
theorem dL_law_265 : decode cL_law 265 = .ok (.iadd, 1) := by decide +kernel
theorem dL_law_266 : decode cL_law 266 = .ok (.iaload, 1) := by decide +kernel
theorem dL_law_267 : decode cL_law 267 = .ok (.invokevirtual 40, 3) := by decide +kernel
theorem dL_law_270 : decode cL_law 270 = .ok (.aload_n 2, 1) := by decide +kernel
theorem dL_law_271 : decode cL_law 271 = .ok (.aload_n 0, 1) := by decide +kernel
theorem dL_law_272 : decode cL_law 272 = .ok (.iload_n 3, 1) := by decide +kernel
theorem dL_law_273 : decode cL_law 273 = .ok (.iconst 1, 1) := by decide +kernel
theorem dL_law_274 : decode cL_law 274 = .ok (.iadd, 1) := by decide +kernel
theorem dL_law_275 : decode cL_law 275 = .ok (.iaload, 1) := by decide +kernel
theorem dL_law_276 : decode cL_law 276 = .ok (.aload_n 0, 1) := by decide +kernel
theorem dL_law_277 : decode cL_law 277 = .ok (.iload_n 3, 1) := by decide +kernel
theorem dL_law_278 : decode cL_law 278 = .ok (.iconst 2, 1) := by decide +kernel
theorem dL_law_279 : decode cL_law 279 = .ok (.iadd, 1) := by decide +kernel
theorem dL_law_280 : decode cL_law 280 = .ok (.iaload, 1) := by decide +kernel
theorem dL_law_281 : decode cL_law 281 = .ok (.invokevirtual 43, 3) := by decide +kernel
theorem dL_law_284 : decode cL_law 284 = .ok (.if_icmp .eq 351, 3) := by decide +kernel
theorem dL_law_287 : decode cL_law 287 = .ok (.iconst 0, 1) := by decide +kernel
theorem dL_law_288 : decode cL_law 288 = .ok (.ireturn, 1) := by decide +kernel
theorem dL_law_289 : decode cL_law 289 = .ok (.aload_n 1, 1) := by decide +kernel
theorem dL_law_290 : decode cL_law 290 = .ok (.aload_n 0, 1) := by decide +kernel
theorem dL_law_291 : decode cL_law 291 = .ok (.iload_n 3, 1) := by decide +kernel
theorem dL_law_292 : decode cL_law 292 = .ok (.iconst 1, 1) := by decide +kernel
theorem dL_law_293 : decode cL_law 293 = .ok (.iadd, 1) := by decide +kernel
theorem dL_law_294 : decode cL_law 294 = .ok (.iaload, 1) := by decide +kernel
theorem dL_law_295 : decode cL_law 295 = .ok (.aload_n 0, 1) := by decide +kernel
theorem dL_law_296 : decode cL_law 296 = .ok (.iload_n 3, 1) := by decide +kernel
theorem dL_law_297 : decode cL_law 297 = .ok (.iconst 2, 1) := by decide +kernel
theorem dL_law_298 : decode cL_law 298 = .ok (.iadd, 1) := by decide +kernel
theorem dL_law_299 : decode cL_law 299 = .ok (.iaload, 1) := by decide +kernel
theorem dL_law_300 : decode cL_law 300 = .ok (.invokevirtual 44, 3) := by decide +kernel
theorem dL_law_303 : decode cL_law 303 = .ok (.aload_n 2, 1) := by decide +kernel
theorem dL_law_304 : decode cL_law 304 = .ok (.aload_n 0, 1) := by decide +kernel
theorem dL_law_305 : decode cL_law 305 = .ok (.iload_n 3, 1) := by decide +kernel
theorem dL_law_306 : decode cL_law 306 = .ok (.iconst 1, 1) := by decide +kernel
theorem dL_law_307 : decode cL_law 307 = .ok (.iadd, 1) := by decide +kernel
theorem dL_law_308 : decode cL_law 308 = .ok (.iaload, 1) := by decide +kernel
theorem dL_law_309 : decode cL_law 309 = .ok (.aload_n 0, 1) := by decide +kernel
theorem dL_law_310 : decode cL_law 310 = .ok (.iload_n 3, 1) := by decide +kernel
theorem dL_law_311 : decode cL_law 311 = .ok (.iconst 2, 1) := by decide +kernel
theorem dL_law_312 : decode cL_law 312 = .ok (.iadd, 1) := by decide +kernel
theorem dL_law_313 : decode cL_law 313 = .ok (.iaload, 1) := by decide +kernel
theorem dL_law_314 : decode cL_law 314 = .ok (.invokevirtual 47, 3) := by decide +kernel
theorem dL_law_317 : decode cL_law 317 = .ok (.if_icmp .eq 318, 3) := by decide +kernel
theorem dL_law_320 : decode cL_law 320 = .ok (.iconst 0, 1) := by decide +kernel
theorem dL_law_321 : decode cL_law 321 = .ok (.ireturn, 1) := by decide +kernel
theorem dL_law_322 : decode cL_law 322 = .ok (.aload_n 1, 1) := by decide +kernel
theorem dL_law_323 : decode cL_law 323 = .ok (.aload_n 0, 1) := by decide +kernel
theorem dL_law_324 : decode cL_law 324 = .ok (.iload_n 3, 1) := by decide +kernel
theorem dL_law_325 : decode cL_law 325 = .ok (.iconst 1, 1) := by decide +kernel
theorem dL_law_326 : decode cL_law 326 = .ok (.iadd, 1) := by decide +kernel
theorem dL_law_327 : decode cL_law 327 = .ok (.iaload, 1) := by decide +kernel
theorem dL_law_328 : decode cL_law 328 = .ok (.aload_n 0, 1) := by decide +kernel
theorem dL_law_329 : decode cL_law 329 = .ok (.iload_n 3, 1) := by decide +kernel
theorem dL_law_330 : decode cL_law 330 = .ok (.iconst 2, 1) := by decide +kernel
theorem dL_law_331 : decode cL_law 331 = .ok (.iadd, 1) := by decide +kernel
theorem dL_law_332 : decode cL_law 332 = .ok (.iaload, 1) := by decide +kernel
theorem dL_law_333 : decode cL_law 333 = .ok (.invokevirtual 48, 3) := by decide +kernel
theorem dL_law_336 : decode cL_law 336 = .ok (.aload_n 2, 1) := by decide +kernel
theorem dL_law_337 : decode cL_law 337 = .ok (.aload_n 0, 1) := by decide +kernel
theorem dL_law_338 : decode cL_law 338 = .ok (.iload_n 3, 1) := by decide +kernel
theorem dL_law_339 : decode cL_law 339 = .ok (.iconst 1, 1) := by decide +kernel
theorem dL_law_340 : decode cL_law 340 = .ok (.iadd, 1) := by decide +kernel
theorem dL_law_341 : decode cL_law 341 = .ok (.iaload, 1) := by decide +kernel
theorem dL_law_342 : decode cL_law 342 = .ok (.aload_n 0, 1) := by decide +kernel
theorem dL_law_343 : decode cL_law 343 = .ok (.iload_n 3, 1) := by decide +kernel
theorem dL_law_344 : decode cL_law 344 = .ok (.iconst 2, 1) := by decide +kernel
theorem dL_law_345 : decode cL_law 345 = .ok (.iadd, 1) := by decide +kernel
theorem dL_law_346 : decode cL_law 346 = .ok (.iaload, 1) := by decide +kernel
theorem dL_law_347 : decode cL_law 347 = .ok (.invokevirtual 51, 3) := by decide +kernel
theorem dL_law_350 : decode cL_law 350 = .ok (.if_icmp .eq 285, 3) := by decide +kernel
theorem dL_law_353 : decode cL_law 353 = .ok (.iconst 0, 1) := by decide +kernel
theorem dL_law_354 : decode cL_law 354 = .ok (.ireturn, 1) := by decide +kernel
theorem dL_law_355 : decode cL_law 355 = .ok (.aload_n 1, 1) := by decide +kernel
theorem dL_law_356 : decode cL_law 356 = .ok (.aload_n 0, 1) := by decide +kernel
theorem dL_law_357 : decode cL_law 357 = .ok (.iload_n 3, 1) := by decide +kernel
theorem dL_law_358 : decode cL_law 358 = .ok (.iconst 1, 1) := by decide +kernel
theorem dL_law_359 : decode cL_law 359 = .ok (.iadd, 1) := by decide +kernel
theorem dL_law_360 : decode cL_law 360 = .ok (.iaload, 1) := by decide +kernel
theorem dL_law_361 : decode cL_law 361 = .ok (.invokevirtual 52, 3) := by decide +kernel
theorem dL_law_364 : decode cL_law 364 = .ok (.aload_n 2, 1) := by decide +kernel
theorem dL_law_365 : decode cL_law 365 = .ok (.aload_n 0, 1) := by decide +kernel
theorem dL_law_366 : decode cL_law 366 = .ok (.iload_n 3, 1) := by decide +kernel
theorem dL_law_367 : decode cL_law 367 = .ok (.iconst 1, 1) := by decide +kernel
theorem dL_law_368 : decode cL_law 368 = .ok (.iadd, 1) := by decide +kernel
theorem dL_law_369 : decode cL_law 369 = .ok (.iaload, 1) := by decide +kernel
theorem dL_law_370 : decode cL_law 370 = .ok (.invokevirtual 55, 3) := by decide +kernel
theorem dL_law_373 : decode cL_law 373 = .ok (.if_icmp .eq 262, 3) := by decide +kernel
theorem dL_law_376 : decode cL_law 376 = .ok (.iconst 0, 1) := by decide +kernel
theorem dL_law_377 : decode cL_law 377 = .ok (.ireturn, 1) := by decide +kernel
theorem dL_law_378 : decode cL_law 378 = .ok (.aload_n 1, 1) := by decide +kernel
theorem dL_law_379 : decode cL_law 379 = .ok (.aload_n 0, 1) := by decide +kernel
theorem dL_law_380 : decode cL_law 380 = .ok (.iload_n 3, 1) := by decide +kernel
theorem dL_law_381 : decode cL_law 381 = .ok (.iconst 1, 1) := by decide +kernel
theorem dL_law_382 : decode cL_law 382 = .ok (.iadd, 1) := by decide +kernel
theorem dL_law_383 : decode cL_law 383 = .ok (.iaload, 1) := by decide +kernel
theorem dL_law_384 : decode cL_law 384 = .ok (.aload_n 0, 1) := by decide +kernel
theorem dL_law_385 : decode cL_law 385 = .ok (.iload_n 3, 1) := by decide +kernel
theorem dL_law_386 : decode cL_law 386 = .ok (.iconst 2, 1) := by decide +kernel
theorem dL_law_387 : decode cL_law 387 = .ok (.iadd, 1) := by decide +kernel
theorem dL_law_388 : decode cL_law 388 = .ok (.iaload, 1) := by decide +kernel
theorem dL_law_389 : decode cL_law 389 = .ok (.aload_n 0, 1) := by decide +kernel
theorem dL_law_390 : decode cL_law 390 = .ok (.iload_n 3, 1) := by decide +kernel
theorem dL_law_391 : decode cL_law 391 = .ok (.iconst 3, 1) := by decide +kernel
theorem dL_law_392 : decode cL_law 392 = .ok (.iadd, 1) := by decide +kernel
theorem dL_law_393 : decode cL_law 393 = .ok (.iaload, 1) := by decide +kernel
theorem dL_law_394 : decode cL_law 394 = .ok (.invokevirtual 56, 3) := by decide +kernel
theorem dL_law_397 : decode cL_law 397 = .ok (.aload_n 2, 1) := by decide +kernel
theorem dL_law_398 : decode cL_law 398 = .ok (.aload_n 0, 1) := by decide +kernel
theorem dL_law_399 : decode cL_law 399 = .ok (.iload_n 3, 1) := by decide +kernel
theorem dL_law_400 : decode cL_law 400 = .ok (.iconst 1, 1) := by decide +kernel
theorem dL_law_401 : decode cL_law 401 = .ok (.iadd, 1) := by decide +kernel
theorem dL_law_402 : decode cL_law 402 = .ok (.iaload, 1) := by decide +kernel
theorem dL_law_403 : decode cL_law 403 = .ok (.aload_n 0, 1) := by decide +kernel
theorem dL_law_404 : decode cL_law 404 = .ok (.iload_n 3, 1) := by decide +kernel
theorem dL_law_405 : decode cL_law 405 = .ok (.iconst 2, 1) := by decide +kernel
theorem dL_law_406 : decode cL_law 406 = .ok (.iadd, 1) := by decide +kernel
theorem dL_law_407 : decode cL_law 407 = .ok (.iaload, 1) := by decide +kernel
theorem dL_law_408 : decode cL_law 408 = .ok (.aload_n 0, 1) := by decide +kernel
theorem dL_law_409 : decode cL_law 409 = .ok (.iload_n 3, 1) := by decide +kernel
theorem dL_law_410 : decode cL_law 410 = .ok (.iconst 3, 1) := by decide +kernel
theorem dL_law_411 : decode cL_law 411 = .ok (.iadd, 1) := by decide +kernel
theorem dL_law_412 : decode cL_law 412 = .ok (.iaload, 1) := by decide +kernel
theorem dL_law_413 : decode cL_law 413 = .ok (.invokevirtual 60, 3) := by decide +kernel
theorem dL_law_416 : decode cL_law 416 = .ok (.if_icmp .eq 219, 3) := by decide +kernel
theorem dL_law_419 : decode cL_law 419 = .ok (.iconst 0, 1) := by decide +kernel
theorem dL_law_420 : decode cL_law 420 = .ok (.ireturn, 1) := by decide +kernel
theorem dL_law_421 : decode cL_law 421 = .ok (.aload_n 1, 1) := by decide +kernel
theorem dL_law_422 : decode cL_law 422 = .ok (.invokevirtual 61, 3) := by decide +kernel
theorem dL_law_425 : decode cL_law 425 = .ok (.aload_n 2, 1) := by decide +kernel
theorem dL_law_426 : decode cL_law 426 = .ok (.invokevirtual 64, 3) := by decide +kernel
theorem dL_law_429 : decode cL_law 429 = .ok (.if_icmp .eq 206, 3) := by decide +kernel
theorem dL_law_432 : decode cL_law 432 = .ok (.iconst 0, 1) := by decide +kernel
theorem dL_law_433 : decode cL_law 433 = .ok (.ireturn, 1) := by decide +kernel
theorem dL_law_434 : decode cL_law 434 = .ok (.aload_n 1, 1) := by decide +kernel
theorem dL_law_435 : decode cL_law 435 = .ok (.aload_n 0, 1) := by decide +kernel
theorem dL_law_436 : decode cL_law 436 = .ok (.iload_n 3, 1) := by decide +kernel
theorem dL_law_437 : decode cL_law 437 = .ok (.iconst 1, 1) := by decide +kernel
theorem dL_law_438 : decode cL_law 438 = .ok (.iadd, 1) := by decide +kernel
theorem dL_law_439 : decode cL_law 439 = .ok (.iaload, 1) := by decide +kernel
theorem dL_law_440 : decode cL_law 440 = .ok (.invokevirtual 65, 3) := by decide +kernel
theorem dL_law_443 : decode cL_law 443 = .ok (.aload_n 2, 1) := by decide +kernel
theorem dL_law_444 : decode cL_law 444 = .ok (.aload_n 0, 1) := by decide +kernel
theorem dL_law_445 : decode cL_law 445 = .ok (.iload_n 3, 1) := by decide +kernel
theorem dL_law_446 : decode cL_law 446 = .ok (.iconst 1, 1) := by decide +kernel
theorem dL_law_447 : decode cL_law 447 = .ok (.iadd, 1) := by decide +kernel
theorem dL_law_448 : decode cL_law 448 = .ok (.iaload, 1) := by decide +kernel
theorem dL_law_449 : decode cL_law 449 = .ok (.invokevirtual 68, 3) := by decide +kernel
theorem dL_law_452 : decode cL_law 452 = .ok (.if_icmp .eq 183, 3) := by decide +kernel
theorem dL_law_455 : decode cL_law 455 = .ok (.iconst 0, 1) := by decide +kernel
theorem dL_law_456 : decode cL_law 456 = .ok (.ireturn, 1) := by decide +kernel
theorem dL_law_457 : decode cL_law 457 = .ok (.aload_n 1, 1) := by decide +kernel
theorem dL_law_458 : decode cL_law 458 = .ok (.aload_n 0, 1) := by decide +kernel
theorem dL_law_459 : decode cL_law 459 = .ok (.iload_n 3, 1) := by decide +kernel
theorem dL_law_460 : decode cL_law 460 = .ok (.iconst 1, 1) := by decide +kernel
theorem dL_law_461 : decode cL_law 461 = .ok (.iadd, 1) := by decide +kernel
theorem dL_law_462 : decode cL_law 462 = .ok (.iaload, 1) := by decide +kernel
theorem dL_law_463 : decode cL_law 463 = .ok (.aload_n 0, 1) := by decide +kernel
theorem dL_law_464 : decode cL_law 464 = .ok (.iload_n 3, 1) := by decide +kernel
theorem dL_law_465 : decode cL_law 465 = .ok (.iconst 2, 1) := by decide +kernel
theorem dL_law_466 : decode cL_law 466 = .ok (.iadd, 1) := by decide +kernel
theorem dL_law_467 : decode cL_law 467 = .ok (.iaload, 1) := by decide +kernel
theorem dL_law_468 : decode cL_law 468 = .ok (.aload_n 0, 1) := by decide +kernel
theorem dL_law_469 : decode cL_law 469 = .ok (.iload_n 3, 1) := by decide +kernel
theorem dL_law_470 : decode cL_law 470 = .ok (.iconst 3, 1) := by decide +kernel
theorem dL_law_471 : decode cL_law 471 = .ok (.iadd, 1) := by decide +kernel
theorem dL_law_472 : decode cL_law 472 = .ok (.iaload, 1) := by decide +kernel
theorem dL_law_473 : decode cL_law 473 = .ok (.ifCond .eq 7, 3) := by decide +kernel
theorem dL_law_476 : decode cL_law 476 = .ok (.iconst 1, 1) := by decide +kernel
theorem dL_law_477 : decode cL_law 477 = .ok (.goto 4, 3) := by decide +kernel
theorem dL_law_480 : decode cL_law 480 = .ok (.iconst 0, 1) := by decide +kernel
theorem dL_law_481 : decode cL_law 481 = .ok (.invokevirtual 69, 3) := by decide +kernel
theorem dL_law_484 : decode cL_law 484 = .ok (.aload_n 2, 1) := by decide +kernel
theorem dL_law_485 : decode cL_law 485 = .ok (.aload_n 0, 1) := by decide +kernel
theorem dL_law_486 : decode cL_law 486 = .ok (.iload_n 3, 1) := by decide +kernel
theorem dL_law_487 : decode cL_law 487 = .ok (.iconst 1, 1) := by decide +kernel
theorem dL_law_488 : decode cL_law 488 = .ok (.iadd, 1) := by decide +kernel
theorem dL_law_489 : decode cL_law 489 = .ok (.iaload, 1) := by decide +kernel
theorem dL_law_490 : decode cL_law 490 = .ok (.aload_n 0, 1) := by decide +kernel
theorem dL_law_491 : decode cL_law 491 = .ok (.iload_n 3, 1) := by decide +kernel
theorem dL_law_492 : decode cL_law 492 = .ok (.iconst 2, 1) := by decide +kernel
theorem dL_law_493 : decode cL_law 493 = .ok (.iadd, 1) := by decide +kernel
theorem dL_law_494 : decode cL_law 494 = .ok (.iaload, 1) := by decide +kernel
theorem dL_law_495 : decode cL_law 495 = .ok (.aload_n 0, 1) := by decide +kernel
theorem dL_law_496 : decode cL_law 496 = .ok (.iload_n 3, 1) := by decide +kernel
theorem dL_law_497 : decode cL_law 497 = .ok (.iconst 3, 1) := by decide +kernel
theorem dL_law_498 : decode cL_law 498 = .ok (.iadd, 1) := by decide +kernel
theorem dL_law_499 : decode cL_law 499 = .ok (.iaload, 1) := by decide +kernel
theorem dL_law_500 : decode cL_law 500 = .ok (.ifCond .eq 7, 3) := by decide +kernel
theorem dL_law_503 : decode cL_law 503 = .ok (.iconst 1, 1) := by decide +kernel
theorem dL_law_504 : decode cL_law 504 = .ok (.goto 4, 3) := by decide +kernel
theorem dL_law_507 : decode cL_law 507 = .ok (.iconst 0, 1) := by decide +kernel
theorem dL_law_508 : decode cL_law 508 = .ok (.invokevirtual 73, 3) := by decide +kernel
theorem dL_law_511 : decode cL_law 511 = .ok (.if_icmp .eq 124, 3) := by decide +kernel
theorem dL_law_514 : decode cL_law 514 = .ok (.iconst 0, 1) := by decide +kernel
theorem dL_law_515 : decode cL_law 515 = .ok (.ireturn, 1) := by decide +kernel
theorem dL_law_516 : decode cL_law 516 = .ok (.aload_n 1, 1) := by decide +kernel
theorem dL_law_517 : decode cL_law 517 = .ok (.invokevirtual 74, 3) := by decide +kernel
theorem dL_law_520 : decode cL_law 520 = .ok (.aload_n 2, 1) := by decide +kernel
theorem dL_law_521 : decode cL_law 521 = .ok (.invokevirtual 77, 3) := by decide +kernel
theorem dL_law_524 : decode cL_law 524 = .ok (.if_icmp .eq 111, 3) := by decide +kernel
theorem dL_law_527 : decode cL_law 527 = .ok (.iconst 0, 1) := by decide +kernel
theorem dL_law_528 : decode cL_law 528 = .ok (.ireturn, 1) := by decide +kernel
theorem dL_law_529 : decode cL_law 529 = .ok (.aload_n 1, 1) := by decide +kernel
theorem dL_law_530 : decode cL_law 530 = .ok (.aload_n 0, 1) := by decide +kernel
theorem dL_law_531 : decode cL_law 531 = .ok (.iload_n 3, 1) := by decide +kernel
theorem dL_law_532 : decode cL_law 532 = .ok (.iconst 1, 1) := by decide +kernel
theorem dL_law_533 : decode cL_law 533 = .ok (.iadd, 1) := by decide +kernel
theorem dL_law_534 : decode cL_law 534 = .ok (.iaload, 1) := by decide +kernel
theorem dL_law_535 : decode cL_law 535 = .ok (.aload_n 0, 1) := by decide +kernel
theorem dL_law_536 : decode cL_law 536 = .ok (.iload_n 3, 1) := by decide +kernel
theorem dL_law_537 : decode cL_law 537 = .ok (.iconst 2, 1) := by decide +kernel
theorem dL_law_538 : decode cL_law 538 = .ok (.iadd, 1) := by decide +kernel
theorem dL_law_539 : decode cL_law 539 = .ok (.iaload, 1) := by decide +kernel
theorem dL_law_540 : decode cL_law 540 = .ok (.aload_n 0, 1) := by decide +kernel
theorem dL_law_541 : decode cL_law 541 = .ok (.iload_n 3, 1) := by decide +kernel
theorem dL_law_542 : decode cL_law 542 = .ok (.iconst 3, 1) := by decide +kernel
theorem dL_law_543 : decode cL_law 543 = .ok (.iadd, 1) := by decide +kernel
theorem dL_law_544 : decode cL_law 544 = .ok (.iaload, 1) := by decide +kernel
theorem dL_law_545 : decode cL_law 545 = .ok (.invokevirtual 78, 3) := by decide +kernel
theorem dL_law_548 : decode cL_law 548 = .ok (.aload_n 2, 1) := by decide +kernel
theorem dL_law_549 : decode cL_law 549 = .ok (.aload_n 0, 1) := by decide +kernel
theorem dL_law_550 : decode cL_law 550 = .ok (.iload_n 3, 1) := by decide +kernel
theorem dL_law_551 : decode cL_law 551 = .ok (.iconst 1, 1) := by decide +kernel
theorem dL_law_552 : decode cL_law 552 = .ok (.iadd, 1) := by decide +kernel
theorem dL_law_553 : decode cL_law 553 = .ok (.iaload, 1) := by decide +kernel
theorem dL_law_554 : decode cL_law 554 = .ok (.aload_n 0, 1) := by decide +kernel
theorem dL_law_555 : decode cL_law 555 = .ok (.iload_n 3, 1) := by decide +kernel
theorem dL_law_556 : decode cL_law 556 = .ok (.iconst 2, 1) := by decide +kernel
theorem dL_law_557 : decode cL_law 557 = .ok (.iadd, 1) := by decide +kernel
theorem dL_law_558 : decode cL_law 558 = .ok (.iaload, 1) := by decide +kernel
theorem dL_law_559 : decode cL_law 559 = .ok (.aload_n 0, 1) := by decide +kernel
theorem dL_law_560 : decode cL_law 560 = .ok (.iload_n 3, 1) := by decide +kernel
theorem dL_law_561 : decode cL_law 561 = .ok (.iconst 3, 1) := by decide +kernel
theorem dL_law_562 : decode cL_law 562 = .ok (.iadd, 1) := by decide +kernel
theorem dL_law_563 : decode cL_law 563 = .ok (.iaload, 1) := by decide +kernel
theorem dL_law_564 : decode cL_law 564 = .ok (.invokevirtual 81, 3) := by decide +kernel
theorem dL_law_567 : decode cL_law 567 = .ok (.if_icmp .eq 68, 3) := by decide +kernel
theorem dL_law_570 : decode cL_law 570 = .ok (.iconst 0, 1) := by decide +kernel
theorem dL_law_571 : decode cL_law 571 = .ok (.ireturn, 1) := by decide +kernel
theorem dL_law_572 : decode cL_law 572 = .ok (.aload_n 1, 1) := by decide +kernel
theorem dL_law_573 : decode cL_law 573 = .ok (.invokevirtual 82, 3) := by decide +kernel
theorem dL_law_576 : decode cL_law 576 = .ok (.aload_n 2, 1) := by decide +kernel
theorem dL_law_577 : decode cL_law 577 = .ok (.invokevirtual 85, 3) := by decide +kernel
theorem dL_law_580 : decode cL_law 580 = .ok (.if_icmp .eq 55, 3) := by decide +kernel
theorem dL_law_583 : decode cL_law 583 = .ok (.iconst 0, 1) := by decide +kernel
theorem dL_law_584 : decode cL_law 584 = .ok (.ireturn, 1) := by decide +kernel
theorem dL_law_585 : decode cL_law 585 = .ok (.aload_n 1, 1) := by decide +kernel
theorem dL_law_586 : decode cL_law 586 = .ok (.invokevirtual 86, 3) := by decide +kernel
theorem dL_law_589 : decode cL_law 589 = .ok (.aload_n 2, 1) := by decide +kernel
theorem dL_law_590 : decode cL_law 590 = .ok (.invokevirtual 89, 3) := by decide +kernel
theorem dL_law_593 : decode cL_law 593 = .ok (.if_icmp .eq 42, 3) := by decide +kernel
theorem dL_law_596 : decode cL_law 596 = .ok (.iconst 0, 1) := by decide +kernel
theorem dL_law_597 : decode cL_law 597 = .ok (.ireturn, 1) := by decide +kernel
theorem dL_law_598 : decode cL_law 598 = .ok (.aload_n 1, 1) := by decide +kernel
theorem dL_law_599 : decode cL_law 599 = .ok (.aload_n 0, 1) := by decide +kernel
theorem dL_law_600 : decode cL_law 600 = .ok (.iload_n 3, 1) := by decide +kernel
theorem dL_law_601 : decode cL_law 601 = .ok (.iconst 1, 1) := by decide +kernel
theorem dL_law_602 : decode cL_law 602 = .ok (.iadd, 1) := by decide +kernel
theorem dL_law_603 : decode cL_law 603 = .ok (.iaload, 1) := by decide +kernel
theorem dL_law_604 : decode cL_law 604 = .ok (.invokevirtual 90, 3) := by decide +kernel
theorem dL_law_607 : decode cL_law 607 = .ok (.aload_n 2, 1) := by decide +kernel
theorem dL_law_608 : decode cL_law 608 = .ok (.aload_n 0, 1) := by decide +kernel
theorem dL_law_609 : decode cL_law 609 = .ok (.iload_n 3, 1) := by decide +kernel
theorem dL_law_610 : decode cL_law 610 = .ok (.iconst 1, 1) := by decide +kernel
theorem dL_law_611 : decode cL_law 611 = .ok (.iadd, 1) := by decide +kernel
theorem dL_law_612 : decode cL_law 612 = .ok (.iaload, 1) := by decide +kernel
theorem dL_law_613 : decode cL_law 613 = .ok (.invokevirtual 93, 3) := by decide +kernel
theorem dL_law_616 : decode cL_law 616 = .ok (.if_icmp .eq 19, 3) := by decide +kernel
theorem dL_law_619 : decode cL_law 619 = .ok (.iconst 0, 1) := by decide +kernel
theorem dL_law_620 : decode cL_law 620 = .ok (.ireturn, 1) := by decide +kernel
theorem dL_law_621 : decode cL_law 621 = .ok (.aload_n 1, 1) := by decide +kernel
theorem dL_law_622 : decode cL_law 622 = .ok (.invokevirtual 94, 3) := by decide +kernel
theorem dL_law_625 : decode cL_law 625 = .ok (.aload_n 2, 1) := by decide +kernel
theorem dL_law_626 : decode cL_law 626 = .ok (.invokevirtual 98, 3) := by decide +kernel
theorem dL_law_629 : decode cL_law 629 = .ok (.lcmp, 1) := by decide +kernel
theorem dL_law_630 : decode cL_law 630 = .ok (.ifCond .eq 5, 3) := by decide +kernel
theorem dL_law_633 : decode cL_law 633 = .ok (.iconst 0, 1) := by decide +kernel
theorem dL_law_634 : decode cL_law 634 = .ok (.ireturn, 1) := by decide +kernel
theorem dL_law_635 : decode cL_law 635 = .ok (.iinc 3 4, 3) := by decide +kernel
theorem dL_law_638 : decode cL_law 638 = .ok (.goto (-620), 3) := by decide +kernel
theorem dL_law_641 : decode cL_law 641 = .ok (.iconst 1, 1) := by decide +kernel
theorem dL_law_642 : decode cL_law 642 = .ok (.ireturn, 1) := by decide +kernel
