theorem dX12_init_0 : decode cX12_init 0 = .ok (.aload_n 0, 1) := by decide +kernel
theorem dX12_init_1 : decode cX12_init 1 = .ok (.invokespecial 1, 3) := by decide +kernel
theorem dX12_init_4 : decode cX12_init 4 = .ok (.aload_n 0, 1) := by decide +kernel
theorem dX12_init_5 : decode cX12_init 5 = .ok (.bipush 10, 2) := by decide +kernel
theorem dX12_init_7 : decode cX12_init 7 = .ok (.putfield 7, 3) := by decide +kernel
theorem dX12_init_10 : decode cX12_init 10 = .ok (.aload_n 0, 1) := by decide +kernel
theorem dX12_init_11 : decode cX12_init 11 = .ok (.bipush 30, 2) := by decide +kernel
theorem dX12_init_13 : decode cX12_init 13 = .ok (.putfield 13, 3) := by decide +kernel
theorem dX12_init_16 : decode cX12_init 16 = .ok (.aload_n 0, 1) := by decide +kernel
theorem dX12_init_17 : decode cX12_init 17 = .ok (.bipush 7, 2) := by decide +kernel
theorem dX12_init_19 : decode cX12_init 19 = .ok (.newarray .int, 2) := by decide +kernel
theorem dX12_init_21 : decode cX12_init 21 = .ok (.putfield 16, 3) := by decide +kernel
theorem dX12_init_24 : decode cX12_init 24 = .ok (.aload_n 0, 1) := by decide +kernel
theorem dX12_init_25 : decode cX12_init 25 = .ok (.bipush 7, 2) := by decide +kernel
theorem dX12_init_27 : decode cX12_init 27 = .ok (.newarray .int, 2) := by decide +kernel
theorem dX12_init_29 : decode cX12_init 29 = .ok (.putfield 20, 3) := by decide +kernel
theorem dX12_init_32 : decode cX12_init 32 = .ok (.aload_n 0, 1) := by decide +kernel
theorem dX12_init_33 : decode cX12_init 33 = .ok (.bipush 6, 2) := by decide +kernel
theorem dX12_init_35 : decode cX12_init 35 = .ok (.newarray .int, 2) := by decide +kernel
theorem dX12_init_37 : decode cX12_init 37 = .ok (.putfield 23, 3) := by decide +kernel
theorem dX12_init_40 : decode cX12_init 40 = .ok (.aload_n 0, 1) := by decide +kernel
theorem dX12_init_41 : decode cX12_init 41 = .ok (.bipush 6, 2) := by decide +kernel
theorem dX12_init_43 : decode cX12_init 43 = .ok (.newarray .int, 2) := by decide +kernel
theorem dX12_init_45 : decode cX12_init 45 = .ok (.putfield 26, 3) := by decide +kernel
theorem dX12_init_48 : decode cX12_init 48 = .ok (.aload_n 0, 1) := by decide +kernel
theorem dX12_init_49 : decode cX12_init 49 = .ok (.bipush 6, 2) := by decide +kernel
theorem dX12_init_51 : decode cX12_init 51 = .ok (.newarray .int, 2) := by decide +kernel
theorem dX12_init_53 : decode cX12_init 53 = .ok (.putfield 29, 3) := by decide +kernel
theorem dX12_init_56 : decode cX12_init 56 = .ok (.aload_n 0, 1) := by decide +kernel
theorem dX12_init_57 : decode cX12_init 57 = .ok (.bipush 6, 2) := by decide +kernel
theorem dX12_init_59 : decode cX12_init 59 = .ok (.newarray .int, 2) := by decide +kernel
theorem dX12_init_61 : decode cX12_init 61 = .ok (.putfield 32, 3) := by decide +kernel
theorem dX12_init_64 : decode cX12_init 64 = .ok (.aload_n 0, 1) := by decide +kernel
theorem dX12_init_65 : decode cX12_init 65 = .ok (.bipush 6, 2) := by decide +kernel
theorem dX12_init_67 : decode cX12_init 67 = .ok (.newarray .int, 2) := by decide +kernel
theorem dX12_init_69 : decode cX12_init 69 = .ok (.putfield 35, 3) := by decide +kernel
theorem dX12_init_72 : decode cX12_init 72 = .ok (.aload_n 0, 1) := by decide +kernel
theorem dX12_init_73 : decode cX12_init 73 = .ok (.bipush 6, 2) := by decide +kernel
theorem dX12_init_75 : decode cX12_init 75 = .ok (.newarray .int, 2) := by decide +kernel
theorem dX12_init_77 : decode cX12_init 77 = .ok (.putfield 38, 3) := by decide +kernel
theorem dX12_init_80 : decode cX12_init 80 = .ok (.aload_n 0, 1) := by decide +kernel
theorem dX12_init_81 : decode cX12_init 81 = .ok (.bipush 7, 2) := by decide +kernel
theorem dX12_init_83 : decode cX12_init 83 = .ok (.newarray .int, 2) := by decide +kernel
theorem dX12_init_85 : decode cX12_init 85 = .ok (.putfield 41, 3) := by decide +kernel
theorem dX12_init_88 : decode cX12_init 88 = .ok (.aload_n 0, 1) := by decide +kernel
theorem dX12_init_89 : decode cX12_init 89 = .ok (.bipush 56, 2) := by decide +kernel
theorem dX12_init_91 : decode cX12_init 91 = .ok (.newarray .int, 2) := by decide +kernel
theorem dX12_init_93 : decode cX12_init 93 = .ok (.putfield 44, 3) := by decide +kernel
theorem dX12_init_96 : decode cX12_init 96 = .ok (.aload_n 0, 1) := by decide +kernel
theorem dX12_init_97 : decode cX12_init 97 = .ok (.bipush 56, 2) := by decide +kernel
theorem dX12_init_99 : decode cX12_init 99 = .ok (.newarray .int, 2) := by decide +kernel
theorem dX12_init_101 : decode cX12_init 101 = .ok (.putfield 47, 3) := by decide +kernel
theorem dX12_init_104 : decode cX12_init 104 = .ok (.aload_n 0, 1) := by decide +kernel
theorem dX12_init_105 : decode cX12_init 105 = .ok (.bipush 80, 2) := by decide +kernel
theorem dX12_init_107 : decode cX12_init 107 = .ok (.newarray .int, 2) := by decide +kernel
theorem dX12_init_109 : decode cX12_init 109 = .ok (.putfield 50, 3) := by decide +kernel
theorem dX12_init_112 : decode cX12_init 112 = .ok (.aload_n 0, 1) := by decide +kernel
theorem dX12_init_113 : decode cX12_init 113 = .ok (.bipush 28, 2) := by decide +kernel
theorem dX12_init_115 : decode cX12_init 115 = .ok (.newarray .int, 2) := by decide +kernel
theorem dX12_init_117 : decode cX12_init 117 = .ok (.putfield 53, 3) := by decide +kernel
theorem dX12_init_120 : decode cX12_init 120 = .ok (.aload_n 0, 1) := by decide +kernel
theorem dX12_init_121 : decode cX12_init 121 = .ok (.bipush 28, 2) := by decide +kernel
theorem dX12_init_123 : decode cX12_init 123 = .ok (.newarray .int, 2) := by decide +kernel
theorem dX12_init_125 : decode cX12_init 125 = .ok (.putfield 56, 3) := by decide +kernel
theorem dX12_init_128 : decode cX12_init 128 = .ok (.aload_n 0, 1) := by decide +kernel
theorem dX12_init_129 : decode cX12_init 129 = .ok (.sipush 168, 3) := by decide +kernel
theorem dX12_init_132 : decode cX12_init 132 = .ok (.newarray .int, 2) := by decide +kernel
theorem dX12_init_134 : decode cX12_init 134 = .ok (.putfield 59, 3) := by decide +kernel
theorem dX12_init_137 : decode cX12_init 137 = .ok (.aload_n 0, 1) := by decide +kernel
theorem dX12_init_138 : decode cX12_init 138 = .ok (.bipush 12, 2) := by decide +kernel
theorem dX12_init_140 : decode cX12_init 140 = .ok (.newarray .int, 2) := by decide +kernel
theorem dX12_init_142 : decode cX12_init 142 = .ok (.putfield 62, 3) := by decide +kernel
theorem dX12_init_145 : decode cX12_init 145 = .ok (.aload_n 0, 1) := by decide +kernel
theorem dX12_init_146 : decode cX12_init 146 = .ok (.iconst 0, 1) := by decide +kernel
theorem dX12_init_147 : decode cX12_init 147 = .ok (.putfield 65, 3) := by decide +kernel
theorem dX12_init_150 : decode cX12_init 150 = .ok (.return_, 1) := by decide +kernel
theorem dX12_in_0 : decode cX12_in 0 = .ok (.lload_n 0, 1) := by decide +kernel
theorem dX12_in_1 : decode cX12_in 1 = .ok (.lload_n 2, 1) := by decide +kernel
theorem dX12_in_2 : decode cX12_in 2 = .ok (.lcmp, 1) := by decide +kernel
theorem dX12_in_3 : decode cX12_in 3 = .ok (.ifCond .lt 14, 3) := by decide +kernel
theorem dX12_in_6 : decode cX12_in 6 = .ok (.lload_n 0, 1) := by decide +kernel
theorem dX12_in_7 : decode cX12_in 7 = .ok (.lload 4, 2) := by decide +kernel
theorem dX12_in_9 : decode cX12_in 9 = .ok (.lcmp, 1) := by decide +kernel
theorem dX12_in_10 : decode cX12_in 10 = .ok (.ifCond .gt 7, 3) := by decide +kernel
theorem dX12_in_13 : decode cX12_in 13 = .ok (.iconst 1, 1) := by decide +kernel
theorem dX12_in_14 : decode cX12_in 14 = .ok (.goto 4, 3) := by decide +kernel
theorem dX12_in_17 : decode cX12_in 17 = .ok (.iconst 0, 1) := by decide +kernel
theorem dX12_in_18 : decode cX12_in 18 = .ok (.ireturn, 1) := by decide +kernel
theorem dX12_refuse_0 : decode cX12_refuse 0 = .ok (.aload_n 0, 1) := by decide +kernel
theorem dX12_refuse_1 : decode cX12_refuse 1 = .ok (.getfield 41, 3) := by decide +kernel
theorem dX12_refuse_4 : decode cX12_refuse 4 = .ok (.iload_n 1, 1) := by decide +kernel
theorem dX12_refuse_5 : decode cX12_refuse 5 = .ok (.ineg, 1) := by decide +kernel
theorem dX12_refuse_6 : decode cX12_refuse 6 = .ok (.dup2, 1) := by decide +kernel
theorem dX12_refuse_7 : decode cX12_refuse 7 = .ok (.iaload, 1) := by decide +kernel
theorem dX12_refuse_8 : decode cX12_refuse 8 = .ok (.iconst 1, 1) := by decide +kernel
theorem dX12_refuse_9 : decode cX12_refuse 9 = .ok (.iadd, 1) := by decide +kernel
theorem dX12_refuse_10 : decode cX12_refuse 10 = .ok (.iastore, 1) := by decide +kernel
theorem dX12_refuse_11 : decode cX12_refuse 11 = .ok (.iload_n 1, 1) := by decide +kernel
theorem dX12_refuse_12 : decode cX12_refuse 12 = .ok (.ireturn, 1) := by decide +kernel
theorem dX12_isShip_0 : decode cX12_isShip 0 = .ok (.iload_n 1, 1) := by decide +kernel
theorem dX12_isShip_1 : decode cX12_isShip 1 = .ok (.i2l, 1) := by decide +kernel
theorem dX12_isShip_2 : decode cX12_isShip 2 = .ok (.lconst 0, 1) := by decide +kernel
theorem dX12_isShip_3 : decode cX12_isShip 3 = .ok (.aload_n 0, 1) := by decide +kernel
theorem dX12_isShip_4 : decode cX12_isShip 4 = .ok (.getfield 68, 3) := by decide +kernel
theorem dX12_isShip_7 : decode cX12_isShip 7 = .ok (.iconst 1, 1) := by decide +kernel
theorem dX12_isShip_8 : decode cX12_isShip 8 = .ok (.isub, 1) := by decide +kernel
theorem dX12_isShip_9 : decode cX12_isShip 9 = .ok (.i2l, 1) := by decide +kernel
theorem dX12_isShip_10 : decode cX12_isShip 10 = .ok (.invokestatic 71, 3) := by decide +kernel
theorem dX12_isShip_13 : decode cX12_isShip 13 = .ok (.ireturn, 1) := by decide +kernel
theorem dX12_areTwo_0 : decode cX12_areTwo 0 = .ok (.aload_n 0, 1) := by decide +kernel
theorem dX12_areTwo_1 : decode cX12_areTwo 1 = .ok (.iload_n 1, 1) := by decide +kernel
theorem dX12_areTwo_2 : decode cX12_areTwo 2 = .ok (.invokevirtual 75, 3) := by decide +kernel
theorem dX12_areTwo_5 : decode cX12_areTwo 5 = .ok (.ifCond .eq 20, 3) := by decide +kernel
theorem dX12_areTwo_8 : decode cX12_areTwo 8 = .ok (.aload_n 0, 1) := by decide +kernel
theorem dX12_areTwo_9 : decode cX12_areTwo 9 = .ok (.iload_n 2, 1) := by decide +kernel
theorem dX12_areTwo_10 : decode cX12_areTwo 10 = .ok (.invokevirtual 75, 3) := by decide +kernel
theorem dX12_areTwo_13 : decode cX12_areTwo 13 = .ok (.ifCond .eq 12, 3) := by decide +kernel
theorem dX12_areTwo_16 : decode cX12_areTwo 16 = .ok (.iload_n 1, 1) := by decide +kernel
theorem dX12_areTwo_17 : decode cX12_areTwo 17 = .ok (.iload_n 2, 1) := by decide +kernel
theorem dX12_areTwo_18 : decode cX12_areTwo 18 = .ok (.if_icmp .eq 7, 3) := by decide +kernel
theorem dX12_areTwo_21 : decode cX12_areTwo 21 = .ok (.iconst 1, 1) := by decide +kernel
theorem dX12_areTwo_22 : decode cX12_areTwo 22 = .ok (.goto 4, 3) := by decide +kernel
theorem dX12_areTwo_25 : decode cX12_areTwo 25 = .ok (.iconst 0, 1) := by decide +kernel
theorem dX12_areTwo_26 : decode cX12_areTwo 26 = .ok (.ireturn, 1) := by decide +kernel
theorem dX12_driftBy_0 : decode cX12_driftBy 0 = .ok (.iload_n 3, 1) := by decide +kernel
theorem dX12_driftBy_1 : decode cX12_driftBy 1 = .ok (.ifCond .le 7, 3) := by decide +kernel
theorem dX12_driftBy_4 : decode cX12_driftBy 4 = .ok (.iconst 1, 1) := by decide +kernel
theorem dX12_driftBy_5 : decode cX12_driftBy 5 = .ok (.goto 12, 3) := by decide +kernel
theorem dX12_driftBy_8 : decode cX12_driftBy 8 = .ok (.iload_n 3, 1) := by decide +kernel
theorem dX12_driftBy_9 : decode cX12_driftBy 9 = .ok (.ifCond .ge 7, 3) := by decide +kernel
theorem dX12_driftBy_12 : decode cX12_driftBy 12 = .ok (.iconst (-1), 1) := by decide +kernel
theorem dX12_driftBy_13 : decode cX12_driftBy 13 = .ok (.goto 4, 3) := by decide +kernel
theorem dX12_driftBy_16 : decode cX12_driftBy 16 = .ok (.iconst 0, 1) := by decide +kernel
theorem dX12_driftBy_17 : decode cX12_driftBy 17 = .ok (.istore 7, 2) := by decide +kernel
theorem dX12_driftBy_19 : decode cX12_driftBy 19 = .ok (.iload_n 1, 1) := by decide +kernel
theorem dX12_driftBy_20 : decode cX12_driftBy 20 = .ok (.iconst 4, 1) := by decide +kernel
theorem dX12_driftBy_21 : decode cX12_driftBy 21 = .ok (.if_icmp .ne 18, 3) := by decide +kernel
theorem dX12_driftBy_24 : decode cX12_driftBy 24 = .ok (.aload_n 0, 1) := by decide +kernel
theorem dX12_driftBy_25 : decode cX12_driftBy 25 = .ok (.getfield 79, 3) := by decide +kernel
theorem dX12_driftBy_28 : decode cX12_driftBy 28 = .ok (.iload_n 2, 1) := by decide +kernel
theorem dX12_driftBy_29 : decode cX12_driftBy 29 = .ok (.iconst 2, 1) := by decide +kernel
theorem dX12_driftBy_30 : decode cX12_driftBy 30 = .ok (.iadd, 1) := by decide +kernel
theorem dX12_driftBy_31 : decode cX12_driftBy 31 = .ok (.irem, 1) := by decide +kernel
theorem dX12_driftBy_32 : decode cX12_driftBy 32 = .ok (.ifCond .ne 7, 3) := by decide +kernel
theorem dX12_driftBy_35 : decode cX12_driftBy 35 = .ok (.iconst 1, 1) := by decide +kernel
theorem dX12_driftBy_36 : decode cX12_driftBy 36 = .ok (.goto 4, 3) := by decide +kernel
theorem dX12_driftBy_39 : decode cX12_driftBy 39 = .ok (.iconst 0, 1) := by decide +kernel
theorem dX12_driftBy_40 : decode cX12_driftBy 40 = .ok (.istore 8, 2) := by decide +kernel
theorem dX12_driftBy_42 : decode cX12_driftBy 42 = .ok (.iload_n 1, 1) := by decide +kernel
theorem dX12_driftBy_43 : decode cX12_driftBy 43 = .ok (.tableswitch 107 0 5 #[37, 51, 107, 69, 107, 84], 37) := by decide +kernel
theorem dX12_driftBy_80 : decode cX12_driftBy 80 = .ok (.aload_n 0, 1) := by decide +kernel
theorem dX12_driftBy_81 : decode cX12_driftBy 81 = .ok (.iload_n 3, 1) := by decide +kernel
theorem dX12_driftBy_82 : decode cX12_driftBy 82 = .ok (.putfield 82, 3) := by decide +kernel
theorem dX12_driftBy_85 : decode cX12_driftBy 85 = .ok (.aload_n 0, 1) := by decide +kernel
theorem dX12_driftBy_86 : decode cX12_driftBy 86 = .ok (.iload 4, 2) := by decide +kernel
theorem dX12_driftBy_88 : decode cX12_driftBy 88 = .ok (.putfield 85, 3) := by decide +kernel
theorem dX12_driftBy_91 : decode cX12_driftBy 91 = .ok (.goto 91, 3) := by decide +kernel
theorem dX12_driftBy_94 : decode cX12_driftBy 94 = .ok (.aload_n 0, 1) := by decide +kernel
theorem dX12_driftBy_95 : decode cX12_driftBy 95 = .ok (.iload_n 3, 1) := by decide +kernel
theorem dX12_driftBy_96 : decode cX12_driftBy 96 = .ok (.iconst 2, 1) := by decide +kernel
theorem dX12_driftBy_97 : decode cX12_driftBy 97 = .ok (.idiv, 1) := by decide +kernel
theorem dX12_driftBy_98 : decode cX12_driftBy 98 = .ok (.putfield 82, 3) := by decide +kernel
theorem dX12_driftBy_101 : decode cX12_driftBy 101 = .ok (.aload_n 0, 1) := by decide +kernel
theorem dX12_driftBy_102 : decode cX12_driftBy 102 = .ok (.iload 4, 2) := by decide +kernel
theorem dX12_driftBy_104 : decode cX12_driftBy 104 = .ok (.iconst 2, 1) := by decide +kernel
theorem dX12_driftBy_105 : decode cX12_driftBy 105 = .ok (.idiv, 1) := by decide +kernel
theorem dX12_driftBy_106 : decode cX12_driftBy 106 = .ok (.putfield 85, 3) := by decide +kernel
theorem dX12_driftBy_109 : decode cX12_driftBy 109 = .ok (.goto 73, 3) := by decide +kernel
theorem dX12_driftBy_112 : decode cX12_driftBy 112 = .ok (.aload_n 0, 1) := by decide +kernel
theorem dX12_driftBy_113 : decode cX12_driftBy 113 = .ok (.iload 5, 2) := by decide +kernel
theorem dX12_driftBy_115 : decode cX12_driftBy 115 = .ok (.putfield 82, 3) := by decide +kernel
theorem dX12_driftBy_118 : decode cX12_driftBy 118 = .ok (.aload_n 0, 1) := by decide +kernel
theorem dX12_driftBy_119 : decode cX12_driftBy 119 = .ok (.iload 6, 2) := by decide +kernel
theorem dX12_driftBy_121 : decode cX12_driftBy 121 = .ok (.putfield 85, 3) := by decide +kernel
theorem dX12_driftBy_124 : decode cX12_driftBy 124 = .ok (.goto 58, 3) := by decide +kernel
theorem dX12_driftBy_127 : decode cX12_driftBy 127 = .ok (.aload_n 0, 1) := by decide +kernel
theorem dX12_driftBy_128 : decode cX12_driftBy 128 = .ok (.iload_n 3, 1) := by decide +kernel
theorem dX12_driftBy_129 : decode cX12_driftBy 129 = .ok (.iconst 2, 1) := by decide +kernel
theorem dX12_driftBy_130 : decode cX12_driftBy 130 = .ok (.idiv, 1) := by decide +kernel
theorem dX12_driftBy_131 : decode cX12_driftBy 131 = .ok (.iload_n 2, 1) := by decide +kernel
theorem dX12_driftBy_132 : decode cX12_driftBy 132 = .ok (.iload 7, 2) := by decide +kernel
theorem dX12_driftBy_134 : decode cX12_driftBy 134 = .ok (.imul, 1) := by decide +kernel
theorem dX12_driftBy_135 : decode cX12_driftBy 135 = .ok (.iadd, 1) := by decide +kernel
theorem dX12_driftBy_136 : decode cX12_driftBy 136 = .ok (.putfield 82, 3) := by decide +kernel
theorem dX12_driftBy_139 : decode cX12_driftBy 139 = .ok (.aload_n 0, 1) := by decide +kernel
theorem dX12_driftBy_140 : decode cX12_driftBy 140 = .ok (.iload 4, 2) := by decide +kernel
theorem dX12_driftBy_142 : decode cX12_driftBy 142 = .ok (.iconst 2, 1) := by decide +kernel
theorem dX12_driftBy_143 : decode cX12_driftBy 143 = .ok (.idiv, 1) := by decide +kernel
theorem dX12_driftBy_144 : decode cX12_driftBy 144 = .ok (.putfield 85, 3) := by decide +kernel
theorem dX12_driftBy_147 : decode cX12_driftBy 147 = .ok (.goto 35, 3) := by decide +kernel
theorem dX12_driftBy_150 : decode cX12_driftBy 150 = .ok (.aload_n 0, 1) := by decide +kernel
theorem dX12_driftBy_151 : decode cX12_driftBy 151 = .ok (.iload 8, 2) := by decide +kernel
theorem dX12_driftBy_153 : decode cX12_driftBy 153 = .ok (.ifCond .eq 8, 3) := by decide +kernel
theorem dX12_driftBy_156 : decode cX12_driftBy 156 = .ok (.iload 4, 2) := by decide +kernel
theorem dX12_driftBy_158 : decode cX12_driftBy 158 = .ok (.goto 6, 3) := by decide +kernel
theorem dX12_driftBy_161 : decode cX12_driftBy 161 = .ok (.iload 4, 2) := by decide +kernel
theorem dX12_driftBy_163 : decode cX12_driftBy 163 = .ok (.ineg, 1) := by decide +kernel
theorem dX12_driftBy_164 : decode cX12_driftBy 164 = .ok (.putfield 82, 3) := by decide +kernel
theorem dX12_driftBy_167 : decode cX12_driftBy 167 = .ok (.aload_n 0, 1) := by decide +kernel
theorem dX12_driftBy_168 : decode cX12_driftBy 168 = .ok (.iload 8, 2) := by decide +kernel
theorem dX12_driftBy_170 : decode cX12_driftBy 170 = .ok (.ifCond .eq 8, 3) := by decide +kernel
theorem dX12_driftBy_173 : decode cX12_driftBy 173 = .ok (.iload_n 3, 1) := by decide +kernel
theorem dX12_driftBy_174 : decode cX12_driftBy 174 = .ok (.ineg, 1) := by decide +kernel
theorem dX12_driftBy_175 : decode cX12_driftBy 175 = .ok (.goto 4, 3) := by decide +kernel
theorem dX12_driftBy_178 : decode cX12_driftBy 178 = .ok (.iload_n 3, 1) := by decide +kernel
theorem dX12_driftBy_179 : decode cX12_driftBy 179 = .ok (.putfield 85, 3) := by decide +kernel
theorem dX12_driftBy_182 : decode cX12_driftBy 182 = .ok (.return_, 1) := by decide +kernel
theorem dX12_driftToday_0 : decode cX12_driftToday 0 = .ok (.aload_n 0, 1) := by decide +kernel
theorem dX12_driftToday_1 : decode cX12_driftToday 1 = .ok (.getfield 79, 3) := by decide +kernel
theorem dX12_driftToday_4 : decode cX12_driftToday 4 = .ok (.bipush 7, 2) := by decide +kernel
theorem dX12_driftToday_6 : decode cX12_driftToday 6 = .ok (.irem, 1) := by decide +kernel
theorem dX12_driftToday_7 : decode cX12_driftToday 7 = .ok (.istore_n 3, 1) := by decide +kernel
theorem dX12_driftToday_8 : decode cX12_driftToday 8 = .ok (.aload_n 0, 1) := by decide +kernel
theorem dX12_driftToday_9 : decode cX12_driftToday 9 = .ok (.getfield 79, 3) := by decide +kernel
theorem dX12_driftToday_12 : decode cX12_driftToday 12 = .ok (.bipush 6, 2) := by decide +kernel
theorem dX12_driftToday_14 : decode cX12_driftToday 14 = .ok (.iadd, 1) := by decide +kernel
theorem dX12_driftToday_15 : decode cX12_driftToday 15 = .ok (.bipush 7, 2) := by decide +kernel
theorem dX12_driftToday_17 : decode cX12_driftToday 17 = .ok (.irem, 1) := by decide +kernel
theorem dX12_driftToday_18 : decode cX12_driftToday 18 = .ok (.istore 4, 2) := by decide +kernel
theorem dX12_driftToday_20 : decode cX12_driftToday 20 = .ok (.aload_n 0, 1) := by decide +kernel
theorem dX12_driftToday_21 : decode cX12_driftToday 21 = .ok (.iload_n 1, 1) := by decide +kernel
theorem dX12_driftToday_22 : decode cX12_driftToday 22 = .ok (.iload_n 2, 1) := by decide +kernel
theorem dX12_driftToday_23 : decode cX12_driftToday 23 = .ok (.aload_n 0, 1) := by decide +kernel
theorem dX12_driftToday_24 : decode cX12_driftToday 24 = .ok (.getfield 16, 3) := by decide +kernel
theorem dX12_driftToday_27 : decode cX12_driftToday 27 = .ok (.iload_n 3, 1) := by decide +kernel
theorem dX12_driftToday_28 : decode cX12_driftToday 28 = .ok (.iaload, 1) := by decide +kernel
theorem dX12_driftToday_29 : decode cX12_driftToday 29 = .ok (.aload_n 0, 1) := by decide +kernel
theorem dX12_driftToday_30 : decode cX12_driftToday 30 = .ok (.getfield 20, 3) := by decide +kernel
theorem dX12_driftToday_33 : decode cX12_driftToday 33 = .ok (.iload_n 3, 1) := by decide +kernel
theorem dX12_driftToday_34 : decode cX12_driftToday 34 = .ok (.iaload, 1) := by decide +kernel
theorem dX12_driftToday_35 : decode cX12_driftToday 35 = .ok (.aload_n 0, 1) := by decide +kernel
theorem dX12_driftToday_36 : decode cX12_driftToday 36 = .ok (.getfield 16, 3) := by decide +kernel
theorem dX12_driftToday_39 : decode cX12_driftToday 39 = .ok (.iload 4, 2) := by decide +kernel
theorem dX12_driftToday_41 : decode cX12_driftToday 41 = .ok (.iaload, 1) := by decide +kernel
theorem dX12_driftToday_42 : decode cX12_driftToday 42 = .ok (.aload_n 0, 1) := by decide +kernel
theorem dX12_driftToday_43 : decode cX12_driftToday 43 = .ok (.getfield 20, 3) := by decide +kernel
theorem dX12_driftToday_46 : decode cX12_driftToday 46 = .ok (.iload 4, 2) := by decide +kernel
theorem dX12_driftToday_48 : decode cX12_driftToday 48 = .ok (.iaload, 1) := by decide +kernel
theorem dX12_driftToday_49 : decode cX12_driftToday 49 = .ok (.invokevirtual 88, 3) := by decide +kernel
theorem dX12_driftToday_52 : decode cX12_driftToday 52 = .ok (.return_, 1) := by decide +kernel
theorem dX12_driftAll_0 : decode cX12_driftAll 0 = .ok (.iconst 0, 1) := by decide +kernel
theorem dX12_driftAll_1 : decode cX12_driftAll 1 = .ok (.istore_n 1, 1) := by decide +kernel
theorem dX12_driftAll_2 : decode cX12_driftAll 2 = .ok (.iload_n 1, 1) := by decide +kernel
theorem dX12_driftAll_3 : decode cX12_driftAll 3 = .ok (.aload_n 0, 1) := by decide +kernel
theorem dX12_driftAll_4 : decode cX12_driftAll 4 = .ok (.getfield 68, 3) := by decide +kernel
theorem dX12_driftAll_7 : decode cX12_driftAll 7 = .ok (.if_icmp .ge 51, 3) := by decide +kernel
theorem dX12_driftAll_10 : decode cX12_driftAll 10 = .ok (.aload_n 0, 1) := by decide +kernel
theorem dX12_driftAll_11 : decode cX12_driftAll 11 = .ok (.aload_n 0, 1) := by decide +kernel
theorem dX12_driftAll_12 : decode cX12_driftAll 12 = .ok (.getfield 23, 3) := by decide +kernel
theorem dX12_driftAll_15 : decode cX12_driftAll 15 = .ok (.iload_n 1, 1) := by decide +kernel
theorem dX12_driftAll_16 : decode cX12_driftAll 16 = .ok (.iaload, 1) := by decide +kernel
theorem dX12_driftAll_17 : decode cX12_driftAll 17 = .ok (.aload_n 0, 1) := by decide +kernel
theorem dX12_driftAll_18 : decode cX12_driftAll 18 = .ok (.getfield 26, 3) := by decide +kernel
theorem dX12_driftAll_21 : decode cX12_driftAll 21 = .ok (.iload_n 1, 1) := by decide +kernel
theorem dX12_driftAll_22 : decode cX12_driftAll 22 = .ok (.iaload, 1) := by decide +kernel
theorem dX12_driftAll_23 : decode cX12_driftAll 23 = .ok (.invokevirtual 92, 3) := by decide +kernel
theorem dX12_driftAll_26 : decode cX12_driftAll 26 = .ok (.aload_n 0, 1) := by decide +kernel
theorem dX12_driftAll_27 : decode cX12_driftAll 27 = .ok (.getfield 35, 3) := by decide +kernel
theorem dX12_driftAll_30 : decode cX12_driftAll 30 = .ok (.iload_n 1, 1) := by decide +kernel
theorem dX12_driftAll_31 : decode cX12_driftAll 31 = .ok (.dup2, 1) := by decide +kernel
theorem dX12_driftAll_32 : decode cX12_driftAll 32 = .ok (.iaload, 1) := by decide +kernel
theorem dX12_driftAll_33 : decode cX12_driftAll 33 = .ok (.aload_n 0, 1) := by decide +kernel
theorem dX12_driftAll_34 : decode cX12_driftAll 34 = .ok (.getfield 82, 3) := by decide +kernel
theorem dX12_driftAll_37 : decode cX12_driftAll 37 = .ok (.iadd, 1) := by decide +kernel
theorem dX12_driftAll_38 : decode cX12_driftAll 38 = .ok (.iastore, 1) := by decide +kernel
theorem dX12_driftAll_39 : decode cX12_driftAll 39 = .ok (.aload_n 0, 1) := by decide +kernel
theorem dX12_driftAll_40 : decode cX12_driftAll 40 = .ok (.getfield 38, 3) := by decide +kernel
theorem dX12_driftAll_43 : decode cX12_driftAll 43 = .ok (.iload_n 1, 1) := by decide +kernel
theorem dX12_driftAll_44 : decode cX12_driftAll 44 = .ok (.dup2, 1) := by decide +kernel
theorem dX12_driftAll_45 : decode cX12_driftAll 45 = .ok (.iaload, 1) := by decide +kernel
theorem dX12_driftAll_46 : decode cX12_driftAll 46 = .ok (.aload_n 0, 1) := by decide +kernel
theorem dX12_driftAll_47 : decode cX12_driftAll 47 = .ok (.getfield 85, 3) := by decide +kernel
theorem dX12_driftAll_50 : decode cX12_driftAll 50 = .ok (.iadd, 1) := by decide +kernel
theorem dX12_driftAll_51 : decode cX12_driftAll 51 = .ok (.iastore, 1) := by decide +kernel
theorem dX12_driftAll_52 : decode cX12_driftAll 52 = .ok (.iinc 1 1, 3) := by decide +kernel
theorem dX12_driftAll_55 : decode cX12_driftAll 55 = .ok (.goto (-53), 3) := by decide +kernel
theorem dX12_driftAll_58 : decode cX12_driftAll 58 = .ok (.return_, 1) := by decide +kernel
theorem dX12_eat_0 : decode cX12_eat 0 = .ok (.iconst 0, 1) := by decide +kernel
theorem dX12_eat_1 : decode cX12_eat 1 = .ok (.istore_n 1, 1) := by decide +kernel
theorem dX12_eat_2 : decode cX12_eat 2 = .ok (.iconst 0, 1) := by decide +kernel
theorem dX12_eat_3 : decode cX12_eat 3 = .ok (.istore_n 2, 1) := by decide +kernel
theorem dX12_eat_4 : decode cX12_eat 4 = .ok (.iload_n 2, 1) := by decide +kernel
theorem dX12_eat_5 : decode cX12_eat 5 = .ok (.aload_n 0, 1) := by decide +kernel
theorem dX12_eat_6 : decode cX12_eat 6 = .ok (.getfield 68, 3) := by decide +kernel
theorem dX12_eat_9 : decode cX12_eat 9 = .ok (.if_icmp .ge 63, 3) := by decide +kernel
theorem dX12_eat_12 : decode cX12_eat 12 = .ok (.aload_n 0, 1) := by decide +kernel
theorem dX12_eat_13 : decode cX12_eat 13 = .ok (.getfield 29, 3) := by decide +kernel
theorem dX12_eat_16 : decode cX12_eat 16 = .ok (.iload_n 2, 1) := by decide +kernel
theorem dX12_eat_17 : decode cX12_eat 17 = .ok (.iaload, 1) := by decide +kernel
theorem dX12_eat_18 : decode cX12_eat 18 = .ok (.aload_n 0, 1) := by decide +kernel
theorem dX12_eat_19 : decode cX12_eat 19 = .ok (.getfield 32, 3) := by decide +kernel
theorem dX12_eat_22 : decode cX12_eat 22 = .ok (.iload_n 2, 1) := by decide +kernel
theorem dX12_eat_23 : decode cX12_eat 23 = .ok (.iaload, 1) := by decide +kernel
theorem dX12_eat_24 : decode cX12_eat 24 = .ok (.if_icmp .le 19, 3) := by decide +kernel
theorem dX12_eat_27 : decode cX12_eat 27 = .ok (.aload_n 0, 1) := by decide +kernel
theorem dX12_eat_28 : decode cX12_eat 28 = .ok (.getfield 29, 3) := by decide +kernel
theorem dX12_eat_31 : decode cX12_eat 31 = .ok (.iload_n 2, 1) := by decide +kernel
theorem dX12_eat_32 : decode cX12_eat 32 = .ok (.iaload, 1) := by decide +kernel
theorem dX12_eat_33 : decode cX12_eat 33 = .ok (.aload_n 0, 1) := by decide +kernel
theorem dX12_eat_34 : decode cX12_eat 34 = .ok (.getfield 32, 3) := by decide +kernel
theorem dX12_eat_37 : decode cX12_eat 37 = .ok (.iload_n 2, 1) := by decide +kernel
theorem dX12_eat_38 : decode cX12_eat 38 = .ok (.iaload, 1) := by decide +kernel
theorem dX12_eat_39 : decode cX12_eat 39 = .ok (.isub, 1) := by decide +kernel
theorem dX12_eat_40 : decode cX12_eat 40 = .ok (.goto 4, 3) := by decide +kernel
theorem dX12_eat_43 : decode cX12_eat 43 = .ok (.iconst 0, 1) := by decide +kernel
theorem dX12_eat_44 : decode cX12_eat 44 = .ok (.istore_n 3, 1) := by decide +kernel
theorem dX12_eat_45 : decode cX12_eat 45 = .ok (.aload_n 0, 1) := by decide +kernel
theorem dX12_eat_46 : decode cX12_eat 46 = .ok (.getfield 32, 3) := by decide +kernel
theorem dX12_eat_49 : decode cX12_eat 49 = .ok (.iload_n 2, 1) := by decide +kernel
theorem dX12_eat_50 : decode cX12_eat 50 = .ok (.dup2, 1) := by decide +kernel
theorem dX12_eat_51 : decode cX12_eat 51 = .ok (.iaload, 1) := by decide +kernel
theorem dX12_eat_52 : decode cX12_eat 52 = .ok (.aload_n 0, 1) := by decide +kernel
theorem dX12_eat_53 : decode cX12_eat 53 = .ok (.getfield 29, 3) := by decide +kernel
theorem dX12_eat_56 : decode cX12_eat 56 = .ok (.iload_n 2, 1) := by decide +kernel
theorem dX12_eat_57 : decode cX12_eat 57 = .ok (.iaload, 1) := by decide +kernel
theorem dX12_eat_58 : decode cX12_eat 58 = .ok (.iload_n 3, 1) := by decide +kernel
theorem dX12_eat_59 : decode cX12_eat 59 = .ok (.isub, 1) := by decide +kernel
theorem dX12_eat_60 : decode cX12_eat 60 = .ok (.isub, 1) := by decide +kernel
theorem dX12_eat_61 : decode cX12_eat 61 = .ok (.iastore, 1) := by decide +kernel
theorem dX12_eat_62 : decode cX12_eat 62 = .ok (.iload_n 1, 1) := by decide +kernel
theorem dX12_eat_63 : decode cX12_eat 63 = .ok (.iload_n 3, 1) := by decide +kernel
theorem dX12_eat_64 : decode cX12_eat 64 = .ok (.iadd, 1) := by decide +kernel
theorem dX12_eat_65 : decode cX12_eat 65 = .ok (.istore_n 1, 1) := by decide +kernel
theorem dX12_eat_66 : decode cX12_eat 66 = .ok (.iinc 2 1, 3) := by decide +kernel
theorem dX12_eat_69 : decode cX12_eat 69 = .ok (.goto (-65), 3) := by decide +kernel
theorem dX12_eat_72 : decode cX12_eat 72 = .ok (.iload_n 1, 1) := by decide +kernel
theorem dX12_eat_73 : decode cX12_eat 73 = .ok (.ireturn, 1) := by decide +kernel
theorem dX12_daysOn_0 : decode cX12_daysOn 0 = .ok (.iconst 0, 1) := by decide +kernel
theorem dX12_daysOn_1 : decode cX12_daysOn 1 = .ok (.istore_n 2, 1) := by decide +kernel
theorem dX12_daysOn_2 : decode cX12_daysOn 2 = .ok (.iconst 0, 1) := by decide +kernel
theorem dX12_daysOn_3 : decode cX12_daysOn 3 = .ok (.istore_n 3, 1) := by decide +kernel
theorem dX12_daysOn_4 : decode cX12_daysOn 4 = .ok (.iload_n 3, 1) := by decide +kernel
theorem dX12_daysOn_5 : decode cX12_daysOn 5 = .ok (.iload_n 1, 1) := by decide +kernel
theorem dX12_daysOn_6 : decode cX12_daysOn 6 = .ok (.if_icmp .ge 30, 3) := by decide +kernel
theorem dX12_daysOn_9 : decode cX12_daysOn 9 = .ok (.aload_n 0, 1) := by decide +kernel
theorem dX12_daysOn_10 : decode cX12_daysOn 10 = .ok (.invokevirtual 96, 3) := by decide +kernel
theorem dX12_daysOn_13 : decode cX12_daysOn 13 = .ok (.iload_n 2, 1) := by decide +kernel
theorem dX12_daysOn_14 : decode cX12_daysOn 14 = .ok (.aload_n 0, 1) := by decide +kernel
theorem dX12_daysOn_15 : decode cX12_daysOn 15 = .ok (.invokevirtual 99, 3) := by decide +kernel
theorem dX12_daysOn_18 : decode cX12_daysOn 18 = .ok (.iadd, 1) := by decide +kernel
theorem dX12_daysOn_19 : decode cX12_daysOn 19 = .ok (.istore_n 2, 1) := by decide +kernel
theorem dX12_daysOn_20 : decode cX12_daysOn 20 = .ok (.aload_n 0, 1) := by decide +kernel
theorem dX12_daysOn_21 : decode cX12_daysOn 21 = .ok (.dup, 1) := by decide +kernel
theorem dX12_daysOn_22 : decode cX12_daysOn 22 = .ok (.getfield 79, 3) := by decide +kernel
theorem dX12_daysOn_25 : decode cX12_daysOn 25 = .ok (.iconst 1, 1) := by decide +kernel
theorem dX12_daysOn_26 : decode cX12_daysOn 26 = .ok (.iadd, 1) := by decide +kernel
theorem dX12_daysOn_27 : decode cX12_daysOn 27 = .ok (.putfield 79, 3) := by decide +kernel
theorem dX12_daysOn_30 : decode cX12_daysOn 30 = .ok (.iinc 3 1, 3) := by decide +kernel
theorem dX12_daysOn_33 : decode cX12_daysOn 33 = .ok (.goto (-29), 3) := by decide +kernel
theorem dX12_daysOn_36 : decode cX12_daysOn 36 = .ok (.iload_n 2, 1) := by decide +kernel
theorem dX12_daysOn_37 : decode cX12_daysOn 37 = .ok (.ireturn, 1) := by decide +kernel
theorem dX12_apart_0 : decode cX12_apart 0 = .ok (.iload_n 0, 1) := by decide +kernel
theorem dX12_apart_1 : decode cX12_apart 1 = .ok (.iload_n 1, 1) := by decide +kernel
theorem dX12_apart_2 : decode cX12_apart 2 = .ok (.if_icmp .ge 9, 3) := by decide +kernel
theorem dX12_apart_5 : decode cX12_apart 5 = .ok (.iload_n 1, 1) := by decide +kernel
theorem dX12_apart_6 : decode cX12_apart 6 = .ok (.iload_n 0, 1) := by decide +kernel
theorem dX12_apart_7 : decode cX12_apart 7 = .ok (.isub, 1) := by decide +kernel
theorem dX12_apart_8 : decode cX12_apart 8 = .ok (.goto 6, 3) := by decide +kernel
theorem dX12_apart_11 : decode cX12_apart 11 = .ok (.iload_n 0, 1) := by decide +kernel
theorem dX12_apart_12 : decode cX12_apart 12 = .ok (.iload_n 1, 1) := by decide +kernel
theorem dX12_apart_13 : decode cX12_apart 13 = .ok (.isub, 1) := by decide +kernel
theorem dX12_apart_14 : decode cX12_apart 14 = .ok (.ireturn, 1) := by decide +kernel
theorem dX12_farBetween_0 : decode cX12_farBetween 0 = .ok (.aload_n 0, 1) := by decide +kernel
theorem dX12_farBetween_1 : decode cX12_farBetween 1 = .ok (.getfield 35, 3) := by decide +kernel
theorem dX12_farBetween_4 : decode cX12_farBetween 4 = .ok (.iload_n 1, 1) := by decide +kernel
theorem dX12_farBetween_5 : decode cX12_farBetween 5 = .ok (.iaload, 1) := by decide +kernel
theorem dX12_farBetween_6 : decode cX12_farBetween 6 = .ok (.aload_n 0, 1) := by decide +kernel
theorem dX12_farBetween_7 : decode cX12_farBetween 7 = .ok (.getfield 35, 3) := by decide +kernel
theorem dX12_farBetween_10 : decode cX12_farBetween 10 = .ok (.iload_n 2, 1) := by decide +kernel
theorem dX12_farBetween_11 : decode cX12_farBetween 11 = .ok (.iaload, 1) := by decide +kernel
theorem dX12_farBetween_12 : decode cX12_farBetween 12 = .ok (.invokestatic 103, 3) := by decide +kernel
theorem dX12_farBetween_15 : decode cX12_farBetween 15 = .ok (.istore_n 3, 1) := by decide +kernel
theorem dX12_farBetween_16 : decode cX12_farBetween 16 = .ok (.aload_n 0, 1) := by decide +kernel
theorem dX12_farBetween_17 : decode cX12_farBetween 17 = .ok (.getfield 38, 3) := by decide +kernel
theorem dX12_farBetween_20 : decode cX12_farBetween 20 = .ok (.iload_n 1, 1) := by decide +kernel
theorem dX12_farBetween_21 : decode cX12_farBetween 21 = .ok (.iaload, 1) := by decide +kernel
theorem dX12_farBetween_22 : decode cX12_farBetween 22 = .ok (.aload_n 0, 1) := by decide +kernel
theorem dX12_farBetween_23 : decode cX12_farBetween 23 = .ok (.getfield 38, 3) := by decide +kernel
theorem dX12_farBetween_26 : decode cX12_farBetween 26 = .ok (.iload_n 2, 1) := by decide +kernel
theorem dX12_farBetween_27 : decode cX12_farBetween 27 = .ok (.iaload, 1) := by decide +kernel
theorem dX12_farBetween_28 : decode cX12_farBetween 28 = .ok (.invokestatic 103, 3) := by decide +kernel
theorem dX12_farBetween_31 : decode cX12_farBetween 31 = .ok (.istore 4, 2) := by decide +kernel
theorem dX12_farBetween_33 : decode cX12_farBetween 33 = .ok (.iload_n 3, 1) := by decide +kernel
theorem dX12_farBetween_34 : decode cX12_farBetween 34 = .ok (.iload 4, 2) := by decide +kernel
theorem dX12_farBetween_36 : decode cX12_farBetween 36 = .ok (.if_icmp .le 7, 3) := by decide +kernel
theorem dX12_farBetween_39 : decode cX12_farBetween 39 = .ok (.iload_n 3, 1) := by decide +kernel
theorem dX12_farBetween_40 : decode cX12_farBetween 40 = .ok (.goto 5, 3) := by decide +kernel
theorem dX12_farBetween_43 : decode cX12_farBetween 43 = .ok (.iload 4, 2) := by decide +kernel
theorem dX12_farBetween_45 : decode cX12_farBetween 45 = .ok (.ireturn, 1) := by decide +kernel
theorem dX12_isOpen_0 : decode cX12_isOpen 0 = .ok (.iload_n 1, 1) := by decide +kernel
theorem dX12_isOpen_1 : decode cX12_isOpen 1 = .ok (.iload_n 2, 1) := by decide +kernel
theorem dX12_isOpen_2 : decode cX12_isOpen 2 = .ok (.if_icmp .eq 20, 3) := by decide +kernel
theorem dX12_isOpen_5 : decode cX12_isOpen 5 = .ok (.aload_n 0, 1) := by decide +kernel
theorem dX12_isOpen_6 : decode cX12_isOpen 6 = .ok (.iload_n 1, 1) := by decide +kernel
theorem dX12_isOpen_7 : decode cX12_isOpen 7 = .ok (.iload_n 2, 1) := by decide +kernel
theorem dX12_isOpen_8 : decode cX12_isOpen 8 = .ok (.invokevirtual 107, 3) := by decide +kernel
theorem dX12_isOpen_11 : decode cX12_isOpen 11 = .ok (.aload_n 0, 1) := by decide +kernel
theorem dX12_isOpen_12 : decode cX12_isOpen 12 = .ok (.getfield 7, 3) := by decide +kernel
theorem dX12_isOpen_15 : decode cX12_isOpen 15 = .ok (.if_icmp .gt 7, 3) := by decide +kernel
theorem dX12_isOpen_18 : decode cX12_isOpen 18 = .ok (.iconst 1, 1) := by decide +kernel
theorem dX12_isOpen_19 : decode cX12_isOpen 19 = .ok (.goto 4, 3) := by decide +kernel
theorem dX12_isOpen_22 : decode cX12_isOpen 22 = .ok (.iconst 0, 1) := by decide +kernel
theorem dX12_isOpen_23 : decode cX12_isOpen 23 = .ok (.ireturn, 1) := by decide +kernel
theorem dX12_carry_0 : decode cX12_carry 0 = .ok (.aload_n 0, 1) := by decide +kernel
theorem dX12_carry_1 : decode cX12_carry 1 = .ok (.getfield 110, 3) := by decide +kernel
theorem dX12_carry_4 : decode cX12_carry 4 = .ok (.ifCond .eq 13, 3) := by decide +kernel
theorem dX12_carry_7 : decode cX12_carry 7 = .ok (.aload_n 0, 1) := by decide +kernel
theorem dX12_carry_8 : decode cX12_carry 8 = .ok (.getfield 114, 3) := by decide +kernel
theorem dX12_carry_11 : decode cX12_carry 11 = .ok (.aload_n 0, 1) := by decide +kernel
theorem dX12_carry_12 : decode cX12_carry 12 = .ok (.getfield 117, 3) := by decide +kernel
theorem dX12_carry_15 : decode cX12_carry 15 = .ok (.iload_n 1, 1) := by decide +kernel
theorem dX12_carry_16 : decode cX12_carry 16 = .ok (.iastore, 1) := by decide +kernel
theorem dX12_carry_17 : decode cX12_carry 17 = .ok (.aload_n 0, 1) := by decide +kernel
theorem dX12_carry_18 : decode cX12_carry 18 = .ok (.dup, 1) := by decide +kernel
theorem dX12_carry_19 : decode cX12_carry 19 = .ok (.getfield 117, 3) := by decide +kernel
theorem dX12_carry_22 : decode cX12_carry 22 = .ok (.iconst 1, 1) := by decide +kernel
theorem dX12_carry_23 : decode cX12_carry 23 = .ok (.iadd, 1) := by decide +kernel
theorem dX12_carry_24 : decode cX12_carry 24 = .ok (.putfield 117, 3) := by decide +kernel
theorem dX12_carry_27 : decode cX12_carry 27 = .ok (.aload_n 0, 1) := by decide +kernel
theorem dX12_carry_28 : decode cX12_carry 28 = .ok (.getfield 114, 3) := by decide +kernel
theorem dX12_carry_31 : decode cX12_carry 31 = .ok (.aload_n 0, 1) := by decide +kernel
theorem dX12_carry_32 : decode cX12_carry 32 = .ok (.getfield 117, 3) := by decide +kernel
theorem dX12_carry_35 : decode cX12_carry 35 = .ok (.iconst 1, 1) := by decide +kernel
theorem dX12_carry_36 : decode cX12_carry 36 = .ok (.isub, 1) := by decide +kernel
theorem dX12_carry_37 : decode cX12_carry 37 = .ok (.iaload, 1) := by decide +kernel
theorem dX12_carry_38 : decode cX12_carry 38 = .ok (.ireturn, 1) := by decide +kernel
theorem dX12_carryAll_0 : decode cX12_carryAll 0 = .ok (.aload_n 0, 1) := by decide +kernel
theorem dX12_carryAll_1 : decode cX12_carryAll 1 = .ok (.aload_n 1, 1) := by decide +kernel
theorem dX12_carryAll_2 : decode cX12_carryAll 2 = .ok (.putfield 114, 3) := by decide +kernel
theorem dX12_carryAll_5 : decode cX12_carryAll 5 = .ok (.aload_n 0, 1) := by decide +kernel
theorem dX12_carryAll_6 : decode cX12_carryAll 6 = .ok (.iload_n 2, 1) := by decide +kernel
theorem dX12_carryAll_7 : decode cX12_carryAll 7 = .ok (.putfield 110, 3) := by decide +kernel
theorem dX12_carryAll_10 : decode cX12_carryAll 10 = .ok (.aload_n 0, 1) := by decide +kernel
theorem dX12_carryAll_11 : decode cX12_carryAll 11 = .ok (.iconst 0, 1) := by decide +kernel
theorem dX12_carryAll_12 : decode cX12_carryAll 12 = .ok (.putfield 117, 3) := by decide +kernel
theorem dX12_carryAll_15 : decode cX12_carryAll 15 = .ok (.aload_n 0, 1) := by decide +kernel
theorem dX12_carryAll_16 : decode cX12_carryAll 16 = .ok (.aload_n 0, 1) := by decide +kernel
theorem dX12_carryAll_17 : decode cX12_carryAll 17 = .ok (.aload_n 0, 1) := by decide +kernel
theorem dX12_carryAll_18 : decode cX12_carryAll 18 = .ok (.getfield 68, 3) := by decide +kernel
theorem dX12_carryAll_21 : decode cX12_carryAll 21 = .ok (.invokevirtual 120, 3) := by decide +kernel
theorem dX12_carryAll_24 : decode cX12_carryAll 24 = .ok (.putfield 68, 3) := by decide +kernel
theorem dX12_carryAll_27 : decode cX12_carryAll 27 = .ok (.aload_n 0, 1) := by decide +kernel
theorem dX12_carryAll_28 : decode cX12_carryAll 28 = .ok (.aload_n 0, 1) := by decide +kernel
theorem dX12_carryAll_29 : decode cX12_carryAll 29 = .ok (.aload_n 0, 1) := by decide +kernel
theorem dX12_carryAll_30 : decode cX12_carryAll 30 = .ok (.getfield 7, 3) := by decide +kernel
theorem dX12_carryAll_33 : decode cX12_carryAll 33 = .ok (.invokevirtual 120, 3) := by decide +kernel
theorem dX12_carryAll_36 : decode cX12_carryAll 36 = .ok (.putfield 7, 3) := by decide +kernel
theorem dX12_carryAll_39 : decode cX12_carryAll 39 = .ok (.aload_n 0, 1) := by decide +kernel
theorem dX12_carryAll_40 : decode cX12_carryAll 40 = .ok (.aload_n 0, 1) := by decide +kernel
theorem dX12_carryAll_41 : decode cX12_carryAll 41 = .ok (.aload_n 0, 1) := by decide +kernel
theorem dX12_carryAll_42 : decode cX12_carryAll 42 = .ok (.getfield 13, 3) := by decide +kernel
theorem dX12_carryAll_45 : decode cX12_carryAll 45 = .ok (.invokevirtual 120, 3) := by decide +kernel
theorem dX12_carryAll_48 : decode cX12_carryAll 48 = .ok (.putfield 13, 3) := by decide +kernel
theorem dX12_carryAll_51 : decode cX12_carryAll 51 = .ok (.aload_n 0, 1) := by decide +kernel
theorem dX12_carryAll_52 : decode cX12_carryAll 52 = .ok (.aload_n 0, 1) := by decide +kernel
theorem dX12_carryAll_53 : decode cX12_carryAll 53 = .ok (.aload_n 0, 1) := by decide +kernel
theorem dX12_carryAll_54 : decode cX12_carryAll 54 = .ok (.getfield 79, 3) := by decide +kernel
theorem dX12_carryAll_57 : decode cX12_carryAll 57 = .ok (.invokevirtual 120, 3) := by decide +kernel
theorem dX12_carryAll_60 : decode cX12_carryAll 60 = .ok (.putfield 79, 3) := by decide +kernel
theorem dX12_carryAll_63 : decode cX12_carryAll 63 = .ok (.aload_n 0, 1) := by decide +kernel
theorem dX12_carryAll_64 : decode cX12_carryAll 64 = .ok (.aload_n 0, 1) := by decide +kernel
theorem dX12_carryAll_65 : decode cX12_carryAll 65 = .ok (.aload_n 0, 1) := by decide +kernel
theorem dX12_carryAll_66 : decode cX12_carryAll 66 = .ok (.getfield 124, 3) := by decide +kernel
theorem dX12_carryAll_69 : decode cX12_carryAll 69 = .ok (.invokevirtual 120, 3) := by decide +kernel
theorem dX12_carryAll_72 : decode cX12_carryAll 72 = .ok (.putfield 124, 3) := by decide +kernel
theorem dX12_carryAll_75 : decode cX12_carryAll 75 = .ok (.iconst 0, 1) := by decide +kernel
theorem dX12_carryAll_76 : decode cX12_carryAll 76 = .ok (.istore_n 3, 1) := by decide +kernel
theorem dX12_carryAll_77 : decode cX12_carryAll 77 = .ok (.iload_n 3, 1) := by decide +kernel
theorem dX12_carryAll_78 : decode cX12_carryAll 78 = .ok (.bipush 7, 2) := by decide +kernel
theorem dX12_carryAll_80 : decode cX12_carryAll 80 = .ok (.if_icmp .ge 41, 3) := by decide +kernel
theorem dX12_carryAll_83 : decode cX12_carryAll 83 = .ok (.aload_n 0, 1) := by decide +kernel
theorem dX12_carryAll_84 : decode cX12_carryAll 84 = .ok (.getfield 16, 3) := by decide +kernel
theorem dX12_carryAll_87 : decode cX12_carryAll 87 = .ok (.iload_n 3, 1) := by decide +kernel
theorem dX12_carryAll_88 : decode cX12_carryAll 88 = .ok (.aload_n 0, 1) := by decide +kernel
theorem dX12_carryAll_89 : decode cX12_carryAll 89 = .ok (.aload_n 0, 1) := by decide +kernel
theorem dX12_carryAll_90 : decode cX12_carryAll 90 = .ok (.getfield 16, 3) := by decide +kernel
theorem dX12_carryAll_93 : decode cX12_carryAll 93 = .ok (.iload_n 3, 1) := by decide +kernel
theorem dX12_carryAll_94 : decode cX12_carryAll 94 = .ok (.iaload, 1) := by decide +kernel
theorem dX12_carryAll_95 : decode cX12_carryAll 95 = .ok (.invokevirtual 120, 3) := by decide +kernel
theorem dX12_carryAll_98 : decode cX12_carryAll 98 = .ok (.iastore, 1) := by decide +kernel
theorem dX12_carryAll_99 : decode cX12_carryAll 99 = .ok (.aload_n 0, 1) := by decide +kernel
theorem dX12_carryAll_100 : decode cX12_carryAll 100 = .ok (.getfield 20, 3) := by decide +kernel
theorem dX12_carryAll_103 : decode cX12_carryAll 103 = .ok (.iload_n 3, 1) := by decide +kernel
theorem dX12_carryAll_104 : decode cX12_carryAll 104 = .ok (.aload_n 0, 1) := by decide +kernel
theorem dX12_carryAll_105 : decode cX12_carryAll 105 = .ok (.aload_n 0, 1) := by decide +kernel
theorem dX12_carryAll_106 : decode cX12_carryAll 106 = .ok (.getfield 20, 3) := by decide +kernel
theorem dX12_carryAll_109 : decode cX12_carryAll 109 = .ok (.iload_n 3, 1) := by decide +kernel
theorem dX12_carryAll_110 : decode cX12_carryAll 110 = .ok (.iaload, 1) := by decide +kernel
theorem dX12_carryAll_111 : decode cX12_carryAll 111 = .ok (.invokevirtual 120, 3) := by decide +kernel
theorem dX12_carryAll_114 : decode cX12_carryAll 114 = .ok (.iastore, 1) := by decide +kernel
theorem dX12_carryAll_115 : decode cX12_carryAll 115 = .ok (.iinc 3 1, 3) := by decide +kernel
theorem dX12_carryAll_118 : decode cX12_carryAll 118 = .ok (.goto (-41), 3) := by decide +kernel
theorem dX12_carryAll_121 : decode cX12_carryAll 121 = .ok (.iconst 0, 1) := by decide +kernel
theorem dX12_carryAll_122 : decode cX12_carryAll 122 = .ok (.istore_n 3, 1) := by decide +kernel
theorem dX12_carryAll_123 : decode cX12_carryAll 123 = .ok (.iload_n 3, 1) := by decide +kernel
theorem dX12_carryAll_124 : decode cX12_carryAll 124 = .ok (.bipush 6, 2) := by decide +kernel
theorem dX12_carryAll_126 : decode cX12_carryAll 126 = .ok (.if_icmp .ge 105, 3) := by decide +kernel
theorem dX12_carryAll_129 : decode cX12_carryAll 129 = .ok (.aload_n 0, 1) := by decide +kernel
theorem dX12_carryAll_130 : decode cX12_carryAll 130 = .ok (.getfield 23, 3) := by decide +kernel
theorem dX12_carryAll_133 : decode cX12_carryAll 133 = .ok (.iload_n 3, 1) := by decide +kernel
theorem dX12_carryAll_134 : decode cX12_carryAll 134 = .ok (.aload_n 0, 1) := by decide +kernel
theorem dX12_carryAll_135 : decode cX12_carryAll 135 = .ok (.aload_n 0, 1) := by decide +kernel
theorem dX12_carryAll_136 : decode cX12_carryAll 136 = .ok (.getfield 23, 3) := by decide +kernel
theorem dX12_carryAll_139 : decode cX12_carryAll 139 = .ok (.iload_n 3, 1) := by decide +kernel
theorem dX12_carryAll_140 : decode cX12_carryAll 140 = .ok (.iaload, 1) := by decide +kernel
theorem dX12_carryAll_141 : decode cX12_carryAll 141 = .ok (.invokevirtual 120, 3) := by decide +kernel
theorem dX12_carryAll_144 : decode cX12_carryAll 144 = .ok (.iastore, 1) := by decide +kernel
theorem dX12_carryAll_145 : decode cX12_carryAll 145 = .ok (.aload_n 0, 1) := by decide +kernel
theorem dX12_carryAll_146 : decode cX12_carryAll 146 = .ok (.getfield 26, 3) := by decide +kernel
theorem dX12_carryAll_149 : decode cX12_carryAll 149 = .ok (.iload_n 3, 1) := by decide +kernel
theorem dX12_carryAll_150 : decode cX12_carryAll 150 = .ok (.aload_n 0, 1) := by decide +kernel
theorem dX12_carryAll_151 : decode cX12_carryAll 151 = .ok (.aload_n 0, 1) := by decide +kernel
theorem dX12_carryAll_152 : decode cX12_carryAll 152 = .ok (.getfield 26, 3) := by decide +kernel
theorem dX12_carryAll_155 : decode cX12_carryAll 155 = .ok (.iload_n 3, 1) := by decide +kernel
theorem dX12_carryAll_156 : decode cX12_carryAll 156 = .ok (.iaload, 1) := by decide +kernel
theorem dX12_carryAll_157 : decode cX12_carryAll 157 = .ok (.invokevirtual 120, 3) := by decide +kernel
theorem dX12_carryAll_160 : decode cX12_carryAll 160 = .ok (.iastore, 1) := by decide +kernel
theorem dX12_carryAll_161 : decode cX12_carryAll 161 = .ok (.aload_n 0, 1) := by decide +kernel
theorem dX12_carryAll_162 : decode cX12_carryAll 162 = .ok (.getfield 29, 3) := by decide +kernel
theorem dX12_carryAll_165 : decode cX12_carryAll 165 = .ok (.iload_n 3, 1) := by decide +kernel
theorem dX12_carryAll_166 : decode cX12_carryAll 166 = .ok (.aload_n 0, 1) := by decide +kernel
theorem dX12_carryAll_167 : decode cX12_carryAll 167 = .ok (.aload_n 0, 1) := by decide +kernel
theorem dX12_carryAll_168 : decode cX12_carryAll 168 = .ok (.getfield 29, 3) := by decide +kernel
theorem dX12_carryAll_171 : decode cX12_carryAll 171 = .ok (.iload_n 3, 1) := by decide +kernel
theorem dX12_carryAll_172 : decode cX12_carryAll 172 = .ok (.iaload, 1) := by decide +kernel
theorem dX12_carryAll_173 : decode cX12_carryAll 173 = .ok (.invokevirtual 120, 3) := by decide +kernel
theorem dX12_carryAll_176 : decode cX12_carryAll 176 = .ok (.iastore, 1) := by decide +kernel
theorem dX12_carryAll_177 : decode cX12_carryAll 177 = .ok (.aload_n 0, 1) := by decide +kernel
theorem dX12_carryAll_178 : decode cX12_carryAll 178 = .ok (.getfield 32, 3) := by decide +kernel
theorem dX12_carryAll_181 : decode cX12_carryAll 181 = .ok (.iload_n 3, 1) := by decide +kernel
theorem dX12_carryAll_182 : decode cX12_carryAll 182 = .ok (.aload_n 0, 1) := by decide +kernel
theorem dX12_carryAll_183 : decode cX12_carryAll 183 = .ok (.aload_n 0, 1) := by decide +kernel
theorem dX12_carryAll_184 : decode cX12_carryAll 184 = .ok (.getfield 32, 3) := by decide +kernel
theorem dX12_carryAll_187 : decode cX12_carryAll 187 = .ok (.iload_n 3, 1) := by decide +kernel
theorem dX12_carryAll_188 : decode cX12_carryAll 188 = .ok (.iaload, 1) := by decide +kernel
theorem dX12_carryAll_189 : decode cX12_carryAll 189 = .ok (.invokevirtual 120, 3) := by decide +kernel
theorem dX12_carryAll_192 : decode cX12_carryAll 192 = .ok (.iastore, 1) := by decide +kernel
theorem dX12_carryAll_193 : decode cX12_carryAll 193 = .ok (.aload_n 0, 1) := by decide +kernel
theorem dX12_carryAll_194 : decode cX12_carryAll 194 = .ok (.getfield 35, 3) := by decide +kernel
theorem dX12_carryAll_197 : decode cX12_carryAll 197 = .ok (.iload_n 3, 1) := by decide +kernel
theorem dX12_carryAll_198 : decode cX12_carryAll 198 = .ok (.aload_n 0, 1) := by decide +kernel
theorem dX12_carryAll_199 : decode cX12_carryAll 199 = .ok (.aload_n 0, 1) := by decide +kernel
theorem dX12_carryAll_200 : decode cX12_carryAll 200 = .ok (.getfield 35, 3) := by decide +kernel
theorem dX12_carryAll_203 : decode cX12_carryAll 203 = .ok (.iload_n 3, 1) := by decide +kernel
theorem dX12_carryAll_204 : decode cX12_carryAll 204 = .ok (.iaload, 1) := by decide +kernel
theorem dX12_carryAll_205 : decode cX12_carryAll 205 = .ok (.invokevirtual 120, 3) := by decide +kernel
theorem dX12_carryAll_208 : decode cX12_carryAll 208 = .ok (.iastore, 1) := by decide +kernel
theorem dX12_carryAll_209 : decode cX12_carryAll 209 = .ok (.aload_n 0, 1) := by decide +kernel
theorem dX12_carryAll_210 : decode cX12_carryAll 210 = .ok (.getfield 38, 3) := by decide +kernel
theorem dX12_carryAll_213 : decode cX12_carryAll 213 = .ok (.iload_n 3, 1) := by decide +kernel
theorem dX12_carryAll_214 : decode cX12_carryAll 214 = .ok (.aload_n 0, 1) := by decide +kernel
theorem dX12_carryAll_215 : decode cX12_carryAll 215 = .ok (.aload_n 0, 1) := by decide +kernel
theorem dX12_carryAll_216 : decode cX12_carryAll 216 = .ok (.getfield 38, 3) := by decide +kernel
theorem dX12_carryAll_219 : decode cX12_carryAll 219 = .ok (.iload_n 3, 1) := by decide +kernel
theorem dX12_carryAll_220 : decode cX12_carryAll 220 = .ok (.iaload, 1) := by decide +kernel
theorem dX12_carryAll_221 : decode cX12_carryAll 221 = .ok (.invokevirtual 120, 3) := by decide +kernel
theorem dX12_carryAll_224 : decode cX12_carryAll 224 = .ok (.iastore, 1) := by decide +kernel
theorem dX12_carryAll_225 : decode cX12_carryAll 225 = .ok (.iinc 3 1, 3) := by decide +kernel
theorem dX12_carryAll_228 : decode cX12_carryAll 228 = .ok (.goto (-105), 3) := by decide +kernel
theorem dX12_carryAll_231 : decode cX12_carryAll 231 = .ok (.return_, 1) := by decide +kernel
theorem dX12_open0_0 : decode cX12_open0 0 = .ok (.aload_n 0, 1) := by decide +kernel
theorem dX12_open0_1 : decode cX12_open0 1 = .ok (.aload_n 0, 1) := by decide +kernel
theorem dX12_open0_2 : decode cX12_open0 2 = .ok (.getfield 44, 3) := by decide +kernel
theorem dX12_open0_5 : decode cX12_open0 5 = .ok (.iconst 1, 1) := by decide +kernel
theorem dX12_open0_6 : decode cX12_open0 6 = .ok (.invokevirtual 127, 3) := by decide +kernel
theorem dX12_open0_9 : decode cX12_open0 9 = .ok (.return_, 1) := by decide +kernel
theorem dX12_close_0 : decode cX12_close 0 = .ok (.aload_n 0, 1) := by decide +kernel
theorem dX12_close_1 : decode cX12_close 1 = .ok (.aload_n 0, 1) := by decide +kernel
theorem dX12_close_2 : decode cX12_close 2 = .ok (.getfield 44, 3) := by decide +kernel
theorem dX12_close_5 : decode cX12_close 5 = .ok (.iconst 0, 1) := by decide +kernel
theorem dX12_close_6 : decode cX12_close 6 = .ok (.invokevirtual 127, 3) := by decide +kernel
theorem dX12_close_9 : decode cX12_close 9 = .ok (.return_, 1) := by decide +kernel
theorem dX12_image_0 : decode cX12_image 0 = .ok (.aload_n 0, 1) := by decide +kernel
theorem dX12_image_1 : decode cX12_image 1 = .ok (.iconst 0, 1) := by decide +kernel
theorem dX12_image_2 : decode cX12_image 2 = .ok (.putfield 65, 3) := by decide +kernel
theorem dX12_image_5 : decode cX12_image 5 = .ok (.aload_n 0, 1) := by decide +kernel
theorem dX12_image_6 : decode cX12_image 6 = .ok (.iconst 1, 1) := by decide +kernel
theorem dX12_image_7 : decode cX12_image 7 = .ok (.putfield 131, 3) := by decide +kernel
theorem dX12_image_10 : decode cX12_image 10 = .ok (.aload_n 0, 1) := by decide +kernel
theorem dX12_image_11 : decode cX12_image 11 = .ok (.aload_n 0, 1) := by decide +kernel
theorem dX12_image_12 : decode cX12_image 12 = .ok (.getfield 47, 3) := by decide +kernel
theorem dX12_image_15 : decode cX12_image 15 = .ok (.iconst 1, 1) := by decide +kernel
theorem dX12_image_16 : decode cX12_image 16 = .ok (.invokevirtual 127, 3) := by decide +kernel
theorem dX12_image_19 : decode cX12_image 19 = .ok (.aload_n 0, 1) := by decide +kernel
theorem dX12_image_20 : decode cX12_image 20 = .ok (.getfield 79, 3) := by decide +kernel
theorem dX12_image_23 : decode cX12_image 23 = .ok (.ireturn, 1) := by decide +kernel
theorem dX12_restore_0 : decode cX12_restore 0 = .ok (.aload_n 0, 1) := by decide +kernel
theorem dX12_restore_1 : decode cX12_restore 1 = .ok (.iconst 0, 1) := by decide +kernel
theorem dX12_restore_2 : decode cX12_restore 2 = .ok (.putfield 65, 3) := by decide +kernel
theorem dX12_restore_5 : decode cX12_restore 5 = .ok (.aload_n 0, 1) := by decide +kernel
theorem dX12_restore_6 : decode cX12_restore 6 = .ok (.getfield 131, 3) := by decide +kernel
theorem dX12_restore_9 : decode cX12_restore 9 = .ok (.ifCond .ne 10, 3) := by decide +kernel
theorem dX12_restore_12 : decode cX12_restore 12 = .ok (.aload_n 0, 1) := by decide +kernel
theorem dX12_restore_13 : decode cX12_restore 13 = .ok (.bipush (-3), 2) := by decide +kernel
theorem dX12_restore_15 : decode cX12_restore 15 = .ok (.invokevirtual 134, 3) := by decide +kernel
theorem dX12_restore_18 : decode cX12_restore 18 = .ok (.ireturn, 1) := by decide +kernel
theorem dX12_restore_19 : decode cX12_restore 19 = .ok (.aload_n 0, 1) := by decide +kernel
theorem dX12_restore_20 : decode cX12_restore 20 = .ok (.aload_n 0, 1) := by decide +kernel
theorem dX12_restore_21 : decode cX12_restore 21 = .ok (.getfield 47, 3) := by decide +kernel
theorem dX12_restore_24 : decode cX12_restore 24 = .ok (.iconst 0, 1) := by decide +kernel
theorem dX12_restore_25 : decode cX12_restore 25 = .ok (.invokevirtual 127, 3) := by decide +kernel
theorem dX12_restore_28 : decode cX12_restore 28 = .ok (.aload_n 0, 1) := by decide +kernel
theorem dX12_restore_29 : decode cX12_restore 29 = .ok (.getfield 79, 3) := by decide +kernel
theorem dX12_restore_32 : decode cX12_restore 32 = .ok (.ireturn, 1) := by decide +kernel
theorem dX12_feed_0 : decode cX12_feed 0 = .ok (.aload_n 0, 1) := by decide +kernel
theorem dX12_feed_1 : decode cX12_feed 1 = .ok (.iconst 0, 1) := by decide +kernel
theorem dX12_feed_2 : decode cX12_feed 2 = .ok (.putfield 65, 3) := by decide +kernel
theorem dX12_feed_5 : decode cX12_feed 5 = .ok (.iload_n 1, 1) := by decide +kernel
theorem dX12_feed_6 : decode cX12_feed 6 = .ok (.ifCond .ge 10, 3) := by decide +kernel
theorem dX12_feed_9 : decode cX12_feed 9 = .ok (.aload_n 0, 1) := by decide +kernel
theorem dX12_feed_10 : decode cX12_feed 10 = .ok (.bipush (-4), 2) := by decide +kernel
theorem dX12_feed_12 : decode cX12_feed 12 = .ok (.invokevirtual 134, 3) := by decide +kernel
theorem dX12_feed_15 : decode cX12_feed 15 = .ok (.ireturn, 1) := by decide +kernel
theorem dX12_feed_16 : decode cX12_feed 16 = .ok (.iload_n 1, 1) := by decide +kernel
theorem dX12_feed_17 : decode cX12_feed 17 = .ok (.sipush 255, 3) := by decide +kernel
theorem dX12_feed_20 : decode cX12_feed 20 = .ok (.if_icmp .gt 12, 3) := by decide +kernel
theorem dX12_feed_23 : decode cX12_feed 23 = .ok (.aload_n 0, 1) := by decide +kernel
theorem dX12_feed_24 : decode cX12_feed 24 = .ok (.getfield 137, 3) := by decide +kernel
theorem dX12_feed_27 : decode cX12_feed 27 = .ok (.bipush 80, 2) := by decide +kernel
theorem dX12_feed_29 : decode cX12_feed 29 = .ok (.if_icmp .ne 10, 3) := by decide +kernel
theorem dX12_feed_32 : decode cX12_feed 32 = .ok (.aload_n 0, 1) := by decide +kernel
theorem dX12_feed_33 : decode cX12_feed 33 = .ok (.bipush (-6), 2) := by decide +kernel
theorem dX12_feed_35 : decode cX12_feed 35 = .ok (.invokevirtual 134, 3) := by decide +kernel
theorem dX12_feed_38 : decode cX12_feed 38 = .ok (.ireturn, 1) := by decide +kernel
theorem dX12_feed_39 : decode cX12_feed 39 = .ok (.aload_n 0, 1) := by decide +kernel
theorem dX12_feed_40 : decode cX12_feed 40 = .ok (.getfield 50, 3) := by decide +kernel
theorem dX12_feed_43 : decode cX12_feed 43 = .ok (.aload_n 0, 1) := by decide +kernel
theorem dX12_feed_44 : decode cX12_feed 44 = .ok (.getfield 137, 3) := by decide +kernel
theorem dX12_feed_47 : decode cX12_feed 47 = .ok (.iload_n 1, 1) := by decide +kernel
theorem dX12_feed_48 : decode cX12_feed 48 = .ok (.iastore, 1) := by decide +kernel
theorem dX12_feed_49 : decode cX12_feed 49 = .ok (.aload_n 0, 1) := by decide +kernel
theorem dX12_feed_50 : decode cX12_feed 50 = .ok (.dup, 1) := by decide +kernel
theorem dX12_feed_51 : decode cX12_feed 51 = .ok (.getfield 137, 3) := by decide +kernel
theorem dX12_feed_54 : decode cX12_feed 54 = .ok (.iconst 1, 1) := by decide +kernel
theorem dX12_feed_55 : decode cX12_feed 55 = .ok (.iadd, 1) := by decide +kernel
theorem dX12_feed_56 : decode cX12_feed 56 = .ok (.putfield 137, 3) := by decide +kernel
theorem dX12_feed_59 : decode cX12_feed 59 = .ok (.aload_n 0, 1) := by decide +kernel
theorem dX12_feed_60 : decode cX12_feed 60 = .ok (.getfield 137, 3) := by decide +kernel
theorem dX12_feed_63 : decode cX12_feed 63 = .ok (.ireturn, 1) := by decide +kernel
theorem dX12_here_0 : decode cX12_here 0 = .ok (.aload_n 0, 1) := by decide +kernel
theorem dX12_here_1 : decode cX12_here 1 = .ok (.getfield 140, 3) := by decide +kernel
theorem dX12_here_4 : decode cX12_here 4 = .ok (.aload_n 0, 1) := by decide +kernel
theorem dX12_here_5 : decode cX12_here 5 = .ok (.getfield 137, 3) := by decide +kernel
theorem dX12_here_8 : decode cX12_here 8 = .ok (.if_icmp .ge 15, 3) := by decide +kernel
theorem dX12_here_11 : decode cX12_here 11 = .ok (.aload_n 0, 1) := by decide +kernel
theorem dX12_here_12 : decode cX12_here 12 = .ok (.getfield 50, 3) := by decide +kernel
theorem dX12_here_15 : decode cX12_here 15 = .ok (.aload_n 0, 1) := by decide +kernel
theorem dX12_here_16 : decode cX12_here 16 = .ok (.getfield 140, 3) := by decide +kernel
theorem dX12_here_19 : decode cX12_here 19 = .ok (.iaload, 1) := by decide +kernel
theorem dX12_here_20 : decode cX12_here 20 = .ok (.goto 4, 3) := by decide +kernel
theorem dX12_here_23 : decode cX12_here 23 = .ok (.iconst (-1), 1) := by decide +kernel
theorem dX12_here_24 : decode cX12_here 24 = .ok (.ireturn, 1) := by decide +kernel
theorem dX12_readDigit_0 : decode cX12_readDigit 0 = .ok (.aload_n 0, 1) := by decide +kernel
theorem dX12_readDigit_1 : decode cX12_readDigit 1 = .ok (.aload_n 0, 1) := by decide +kernel
theorem dX12_readDigit_2 : decode cX12_readDigit 2 = .ok (.getfield 143, 3) := by decide +kernel
theorem dX12_readDigit_5 : decode cX12_readDigit 5 = .ok (.ifCond .ne 20, 3) := by decide +kernel
theorem dX12_readDigit_8 : decode cX12_readDigit 8 = .ok (.aload_n 0, 1) := by decide +kernel
theorem dX12_readDigit_9 : decode cX12_readDigit 9 = .ok (.invokevirtual 146, 3) := by decide +kernel
theorem dX12_readDigit_12 : decode cX12_readDigit 12 = .ok (.i2l, 1) := by decide +kernel
theorem dX12_readDigit_13 : decode cX12_readDigit 13 = .ok (.ldc2_w 149, 3) := by decide +kernel
theorem dX12_readDigit_16 : decode cX12_readDigit 16 = .ok (.ldc2_w 151, 3) := by decide +kernel
theorem dX12_readDigit_19 : decode cX12_readDigit 19 = .ok (.invokestatic 71, 3) := by decide +kernel
theorem dX12_readDigit_22 : decode cX12_readDigit 22 = .ok (.ifCond .ne 7, 3) := by decide +kernel
theorem dX12_readDigit_25 : decode cX12_readDigit 25 = .ok (.iconst 1, 1) := by decide +kernel
theorem dX12_readDigit_26 : decode cX12_readDigit 26 = .ok (.goto 4, 3) := by decide +kernel
theorem dX12_readDigit_29 : decode cX12_readDigit 29 = .ok (.iconst 0, 1) := by decide +kernel
theorem dX12_readDigit_30 : decode cX12_readDigit 30 = .ok (.putfield 143, 3) := by decide +kernel
theorem dX12_readDigit_33 : decode cX12_readDigit 33 = .ok (.aload_n 0, 1) := by decide +kernel
theorem dX12_readDigit_34 : decode cX12_readDigit 34 = .ok (.getfield 143, 3) := by decide +kernel
theorem dX12_readDigit_37 : decode cX12_readDigit 37 = .ok (.ifCond .eq 5, 3) := by decide +kernel
theorem dX12_readDigit_40 : decode cX12_readDigit 40 = .ok (.iconst 0, 1) := by decide +kernel
theorem dX12_readDigit_41 : decode cX12_readDigit 41 = .ok (.ireturn, 1) := by decide +kernel
theorem dX12_readDigit_42 : decode cX12_readDigit 42 = .ok (.aload_n 0, 1) := by decide +kernel
theorem dX12_readDigit_43 : decode cX12_readDigit 43 = .ok (.dup, 1) := by decide +kernel
theorem dX12_readDigit_44 : decode cX12_readDigit 44 = .ok (.getfield 140, 3) := by decide +kernel
theorem dX12_readDigit_47 : decode cX12_readDigit 47 = .ok (.iconst 1, 1) := by decide +kernel
theorem dX12_readDigit_48 : decode cX12_readDigit 48 = .ok (.iadd, 1) := by decide +kernel
theorem dX12_readDigit_49 : decode cX12_readDigit 49 = .ok (.putfield 140, 3) := by decide +kernel
theorem dX12_readDigit_52 : decode cX12_readDigit 52 = .ok (.aload_n 0, 1) := by decide +kernel
theorem dX12_readDigit_53 : decode cX12_readDigit 53 = .ok (.getfield 50, 3) := by decide +kernel
theorem dX12_readDigit_56 : decode cX12_readDigit 56 = .ok (.aload_n 0, 1) := by decide +kernel
theorem dX12_readDigit_57 : decode cX12_readDigit 57 = .ok (.getfield 140, 3) := by decide +kernel
theorem dX12_readDigit_60 : decode cX12_readDigit 60 = .ok (.iconst 1, 1) := by decide +kernel
theorem dX12_readDigit_61 : decode cX12_readDigit 61 = .ok (.isub, 1) := by decide +kernel
theorem dX12_readDigit_62 : decode cX12_readDigit 62 = .ok (.iaload, 1) := by decide +kernel
theorem dX12_readDigit_63 : decode cX12_readDigit 63 = .ok (.bipush 48, 2) := by decide +kernel
theorem dX12_readDigit_65 : decode cX12_readDigit 65 = .ok (.isub, 1) := by decide +kernel
theorem dX12_readDigit_66 : decode cX12_readDigit 66 = .ok (.ireturn, 1) := by decide +kernel
theorem dX12_readNumber_0 : decode cX12_readNumber 0 = .ok (.aload_n 0, 1) := by decide +kernel
theorem dX12_readNumber_1 : decode cX12_readNumber 1 = .ok (.invokevirtual 153, 3) := by decide +kernel
theorem dX12_readNumber_4 : decode cX12_readNumber 4 = .ok (.istore_n 2, 1) := by decide +kernel
theorem dX12_readNumber_5 : decode cX12_readNumber 5 = .ok (.iconst 1, 1) := by decide +kernel
theorem dX12_readNumber_6 : decode cX12_readNumber 6 = .ok (.istore_n 3, 1) := by decide +kernel
theorem dX12_readNumber_7 : decode cX12_readNumber 7 = .ok (.iload_n 3, 1) := by decide +kernel
theorem dX12_readNumber_8 : decode cX12_readNumber 8 = .ok (.iload_n 1, 1) := by decide +kernel
theorem dX12_readNumber_9 : decode cX12_readNumber 9 = .ok (.if_icmp .ge 43, 3) := by decide +kernel
theorem dX12_readNumber_12 : decode cX12_readNumber 12 = .ok (.aload_n 0, 1) := by decide +kernel
theorem dX12_readNumber_13 : decode cX12_readNumber 13 = .ok (.getfield 143, 3) := by decide +kernel
theorem dX12_readNumber_16 : decode cX12_readNumber 16 = .ok (.ifCond .ne 36, 3) := by decide +kernel
theorem dX12_readNumber_19 : decode cX12_readNumber 19 = .ok (.aload_n 0, 1) := by decide +kernel
theorem dX12_readNumber_20 : decode cX12_readNumber 20 = .ok (.invokevirtual 146, 3) := by decide +kernel
theorem dX12_readNumber_23 : decode cX12_readNumber 23 = .ok (.i2l, 1) := by decide +kernel
theorem dX12_readNumber_24 : decode cX12_readNumber 24 = .ok (.ldc2_w 149, 3) := by decide +kernel
theorem dX12_readNumber_27 : decode cX12_readNumber 27 = .ok (.ldc2_w 151, 3) := by decide +kernel
theorem dX12_readNumber_30 : decode cX12_readNumber 30 = .ok (.invokestatic 71, 3) := by decide +kernel
theorem dX12_readNumber_33 : decode cX12_readNumber 33 = .ok (.ifCond .eq 19, 3) := by decide +kernel
theorem dX12_readNumber_36 : decode cX12_readNumber 36 = .ok (.bipush 10, 2) := by decide +kernel
theorem dX12_readNumber_38 : decode cX12_readNumber 38 = .ok (.iload_n 2, 1) := by decide +kernel
theorem dX12_readNumber_39 : decode cX12_readNumber 39 = .ok (.imul, 1) := by decide +kernel
theorem dX12_readNumber_40 : decode cX12_readNumber 40 = .ok (.aload_n 0, 1) := by decide +kernel
theorem dX12_readNumber_41 : decode cX12_readNumber 41 = .ok (.invokevirtual 153, 3) := by decide +kernel
theorem dX12_readNumber_44 : decode cX12_readNumber 44 = .ok (.iadd, 1) := by decide +kernel
theorem dX12_readNumber_45 : decode cX12_readNumber 45 = .ok (.istore_n 2, 1) := by decide +kernel
theorem dX12_readNumber_46 : decode cX12_readNumber 46 = .ok (.iinc 3 1, 3) := by decide +kernel
theorem dX12_readNumber_49 : decode cX12_readNumber 49 = .ok (.goto (-42), 3) := by decide +kernel
theorem dX12_readNumber_52 : decode cX12_readNumber 52 = .ok (.iload_n 2, 1) := by decide +kernel
theorem dX12_readNumber_53 : decode cX12_readNumber 53 = .ok (.ireturn, 1) := by decide +kernel
theorem dX12_readSigned_0 : decode cX12_readSigned 0 = .ok (.aload_n 0, 1) := by decide +kernel
theorem dX12_readSigned_1 : decode cX12_readSigned 1 = .ok (.getfield 143, 3) := by decide +kernel
theorem dX12_readSigned_4 : decode cX12_readSigned 4 = .ok (.ifCond .ne 16, 3) := by decide +kernel
theorem dX12_readSigned_7 : decode cX12_readSigned 7 = .ok (.aload_n 0, 1) := by decide +kernel
theorem dX12_readSigned_8 : decode cX12_readSigned 8 = .ok (.invokevirtual 146, 3) := by decide +kernel
theorem dX12_readSigned_11 : decode cX12_readSigned 11 = .ok (.bipush 45, 2) := by decide +kernel
theorem dX12_readSigned_13 : decode cX12_readSigned 13 = .ok (.if_icmp .ne 7, 3) := by decide +kernel
theorem dX12_readSigned_16 : decode cX12_readSigned 16 = .ok (.iconst 1, 1) := by decide +kernel
theorem dX12_readSigned_17 : decode cX12_readSigned 17 = .ok (.goto 4, 3) := by decide +kernel
theorem dX12_readSigned_20 : decode cX12_readSigned 20 = .ok (.iconst 0, 1) := by decide +kernel
theorem dX12_readSigned_21 : decode cX12_readSigned 21 = .ok (.istore_n 2, 1) := by decide +kernel
theorem dX12_readSigned_22 : decode cX12_readSigned 22 = .ok (.aload_n 0, 1) := by decide +kernel
theorem dX12_readSigned_23 : decode cX12_readSigned 23 = .ok (.dup, 1) := by decide +kernel
theorem dX12_readSigned_24 : decode cX12_readSigned 24 = .ok (.getfield 140, 3) := by decide +kernel
theorem dX12_readSigned_27 : decode cX12_readSigned 27 = .ok (.iload_n 2, 1) := by decide +kernel
theorem dX12_readSigned_28 : decode cX12_readSigned 28 = .ok (.ifCond .eq 7, 3) := by decide +kernel
theorem dX12_readSigned_31 : decode cX12_readSigned 31 = .ok (.iconst 1, 1) := by decide +kernel
theorem dX12_readSigned_32 : decode cX12_readSigned 32 = .ok (.goto 4, 3) := by decide +kernel
theorem dX12_readSigned_35 : decode cX12_readSigned 35 = .ok (.iconst 0, 1) := by decide +kernel
theorem dX12_readSigned_36 : decode cX12_readSigned 36 = .ok (.iadd, 1) := by decide +kernel
theorem dX12_readSigned_37 : decode cX12_readSigned 37 = .ok (.putfield 140, 3) := by decide +kernel
theorem dX12_readSigned_40 : decode cX12_readSigned 40 = .ok (.aload_n 0, 1) := by decide +kernel
theorem dX12_readSigned_41 : decode cX12_readSigned 41 = .ok (.iload_n 1, 1) := by decide +kernel
theorem dX12_readSigned_42 : decode cX12_readSigned 42 = .ok (.invokevirtual 156, 3) := by decide +kernel
theorem dX12_readSigned_45 : decode cX12_readSigned 45 = .ok (.istore_n 3, 1) := by decide +kernel
theorem dX12_readSigned_46 : decode cX12_readSigned 46 = .ok (.iload_n 2, 1) := by decide +kernel
theorem dX12_readSigned_47 : decode cX12_readSigned 47 = .ok (.ifCond .eq 8, 3) := by decide +kernel
theorem dX12_readSigned_50 : decode cX12_readSigned 50 = .ok (.iload_n 3, 1) := by decide +kernel
theorem dX12_readSigned_51 : decode cX12_readSigned 51 = .ok (.ineg, 1) := by decide +kernel
theorem dX12_readSigned_52 : decode cX12_readSigned 52 = .ok (.goto 4, 3) := by decide +kernel
theorem dX12_readSigned_55 : decode cX12_readSigned 55 = .ok (.iload_n 3, 1) := by decide +kernel
theorem dX12_readSigned_56 : decode cX12_readSigned 56 = .ok (.ireturn, 1) := by decide +kernel
theorem dX12_readComma_0 : decode cX12_readComma 0 = .ok (.aload_n 0, 1) := by decide +kernel
theorem dX12_readComma_1 : decode cX12_readComma 1 = .ok (.aload_n 0, 1) := by decide +kernel
theorem dX12_readComma_2 : decode cX12_readComma 2 = .ok (.getfield 143, 3) := by decide +kernel
theorem dX12_readComma_5 : decode cX12_readComma 5 = .ok (.ifCond .ne 12, 3) := by decide +kernel
theorem dX12_readComma_8 : decode cX12_readComma 8 = .ok (.aload_n 0, 1) := by decide +kernel
theorem dX12_readComma_9 : decode cX12_readComma 9 = .ok (.invokevirtual 146, 3) := by decide +kernel
theorem dX12_readComma_12 : decode cX12_readComma 12 = .ok (.bipush 44, 2) := by decide +kernel
theorem dX12_readComma_14 : decode cX12_readComma 14 = .ok (.if_icmp .eq 7, 3) := by decide +kernel
theorem dX12_readComma_17 : decode cX12_readComma 17 = .ok (.iconst 1, 1) := by decide +kernel
theorem dX12_readComma_18 : decode cX12_readComma 18 = .ok (.goto 4, 3) := by decide +kernel
theorem dX12_readComma_21 : decode cX12_readComma 21 = .ok (.iconst 0, 1) := by decide +kernel
theorem dX12_readComma_22 : decode cX12_readComma 22 = .ok (.putfield 143, 3) := by decide +kernel
theorem dX12_readComma_25 : decode cX12_readComma 25 = .ok (.aload_n 0, 1) := by decide +kernel
theorem dX12_readComma_26 : decode cX12_readComma 26 = .ok (.dup, 1) := by decide +kernel
theorem dX12_readComma_27 : decode cX12_readComma 27 = .ok (.getfield 140, 3) := by decide +kernel
theorem dX12_readComma_30 : decode cX12_readComma 30 = .ok (.aload_n 0, 1) := by decide +kernel
theorem dX12_readComma_31 : decode cX12_readComma 31 = .ok (.getfield 143, 3) := by decide +kernel
theorem dX12_readComma_34 : decode cX12_readComma 34 = .ok (.ifCond .eq 7, 3) := by decide +kernel
theorem dX12_readComma_37 : decode cX12_readComma 37 = .ok (.iconst 0, 1) := by decide +kernel
theorem dX12_readComma_38 : decode cX12_readComma 38 = .ok (.goto 4, 3) := by decide +kernel
theorem dX12_readComma_41 : decode cX12_readComma 41 = .ok (.iconst 1, 1) := by decide +kernel
theorem dX12_readComma_42 : decode cX12_readComma 42 = .ok (.iadd, 1) := by decide +kernel
theorem dX12_readComma_43 : decode cX12_readComma 43 = .ok (.putfield 140, 3) := by decide +kernel
theorem dX12_readComma_46 : decode cX12_readComma 46 = .ok (.return_, 1) := by decide +kernel
theorem dX12_readStatement_0 : decode cX12_readStatement 0 = .ok (.aload_n 0, 1) := by decide +kernel
theorem dX12_readStatement_1 : decode cX12_readStatement 1 = .ok (.getfield 159, 3) := by decide +kernel
theorem dX12_readStatement_4 : decode cX12_readStatement 4 = .ok (.istore_n 1, 1) := by decide +kernel
theorem dX12_readStatement_5 : decode cX12_readStatement 5 = .ok (.aload_n 0, 1) := by decide +kernel
theorem dX12_readStatement_6 : decode cX12_readStatement 6 = .ok (.invokevirtual 146, 3) := by decide +kernel
theorem dX12_readStatement_9 : decode cX12_readStatement 9 = .ok (.istore_n 2, 1) := by decide +kernel
theorem dX12_readStatement_10 : decode cX12_readStatement 10 = .ok (.aload_n 0, 1) := by decide +kernel
theorem dX12_readStatement_11 : decode cX12_readStatement 11 = .ok (.getfield 53, 3) := by decide +kernel
theorem dX12_readStatement_14 : decode cX12_readStatement 14 = .ok (.iload_n 1, 1) := by decide +kernel
theorem dX12_readStatement_15 : decode cX12_readStatement 15 = .ok (.aload_n 0, 1) := by decide +kernel
theorem dX12_readStatement_16 : decode cX12_readStatement 16 = .ok (.getfield 140, 3) := by decide +kernel
theorem dX12_readStatement_19 : decode cX12_readStatement 19 = .ok (.iastore, 1) := by decide +kernel
theorem dX12_readStatement_20 : decode cX12_readStatement 20 = .ok (.aload_n 0, 1) := by decide +kernel
theorem dX12_readStatement_21 : decode cX12_readStatement 21 = .ok (.getfield 56, 3) := by decide +kernel
theorem dX12_readStatement_24 : decode cX12_readStatement 24 = .ok (.iload_n 1, 1) := by decide +kernel
theorem dX12_readStatement_25 : decode cX12_readStatement 25 = .ok (.iload_n 2, 1) := by decide +kernel
theorem dX12_readStatement_26 : decode cX12_readStatement 26 = .ok (.iastore, 1) := by decide +kernel
theorem dX12_readStatement_27 : decode cX12_readStatement 27 = .ok (.aload_n 0, 1) := by decide +kernel
theorem dX12_readStatement_28 : decode cX12_readStatement 28 = .ok (.aload_n 0, 1) := by decide +kernel
theorem dX12_readStatement_29 : decode cX12_readStatement 29 = .ok (.getfield 143, 3) := by decide +kernel
theorem dX12_readStatement_32 : decode cX12_readStatement 32 = .ok (.ifCond .ne 27, 3) := by decide +kernel
theorem dX12_readStatement_35 : decode cX12_readStatement 35 = .ok (.iload_n 2, 1) := by decide +kernel
theorem dX12_readStatement_36 : decode cX12_readStatement 36 = .ok (.bipush 115, 2) := by decide +kernel
theorem dX12_readStatement_38 : decode cX12_readStatement 38 = .ok (.if_icmp .eq 25, 3) := by decide +kernel
theorem dX12_readStatement_41 : decode cX12_readStatement 41 = .ok (.iload_n 2, 1) := by decide +kernel
theorem dX12_readStatement_42 : decode cX12_readStatement 42 = .ok (.bipush 119, 2) := by decide +kernel
theorem dX12_readStatement_44 : decode cX12_readStatement 44 = .ok (.if_icmp .eq 19, 3) := by decide +kernel
theorem dX12_readStatement_47 : decode cX12_readStatement 47 = .ok (.iload_n 2, 1) := by decide +kernel
theorem dX12_readStatement_48 : decode cX12_readStatement 48 = .ok (.bipush 114, 2) := by decide +kernel
theorem dX12_readStatement_50 : decode cX12_readStatement 50 = .ok (.if_icmp .eq 13, 3) := by decide +kernel
theorem dX12_readStatement_53 : decode cX12_readStatement 53 = .ok (.iload_n 2, 1) := by decide +kernel
theorem dX12_readStatement_54 : decode cX12_readStatement 54 = .ok (.bipush 118, 2) := by decide +kernel
theorem dX12_readStatement_56 : decode cX12_readStatement 56 = .ok (.if_icmp .eq 7, 3) := by decide +kernel
theorem dX12_readStatement_59 : decode cX12_readStatement 59 = .ok (.iconst 1, 1) := by decide +kernel
theorem dX12_readStatement_60 : decode cX12_readStatement 60 = .ok (.goto 4, 3) := by decide +kernel
theorem dX12_readStatement_63 : decode cX12_readStatement 63 = .ok (.iconst 0, 1) := by decide +kernel
theorem dX12_readStatement_64 : decode cX12_readStatement 64 = .ok (.putfield 143, 3) := by decide +kernel
theorem dX12_readStatement_67 : decode cX12_readStatement 67 = .ok (.aload_n 0, 1) := by decide +kernel
theorem dX12_readStatement_68 : decode cX12_readStatement 68 = .ok (.dup, 1) := by decide +kernel
theorem dX12_readStatement_69 : decode cX12_readStatement 69 = .ok (.getfield 140, 3) := by decide +kernel
theorem dX12_readStatement_72 : decode cX12_readStatement 72 = .ok (.aload_n 0, 1) := by decide +kernel
theorem dX12_readStatement_73 : decode cX12_readStatement 73 = .ok (.getfield 143, 3) := by decide +kernel
theorem dX12_readStatement_76 : decode cX12_readStatement 76 = .ok (.ifCond .eq 7, 3) := by decide +kernel
theorem dX12_readStatement_79 : decode cX12_readStatement 79 = .ok (.iconst 0, 1) := by decide +kernel
theorem dX12_readStatement_80 : decode cX12_readStatement 80 = .ok (.goto 4, 3) := by decide +kernel
theorem dX12_readStatement_83 : decode cX12_readStatement 83 = .ok (.iconst 1, 1) := by decide +kernel
theorem dX12_readStatement_84 : decode cX12_readStatement 84 = .ok (.iadd, 1) := by decide +kernel
theorem dX12_readStatement_85 : decode cX12_readStatement 85 = .ok (.putfield 140, 3) := by decide +kernel
theorem dX12_readStatement_88 : decode cX12_readStatement 88 = .ok (.bipush 6, 2) := by decide +kernel
theorem dX12_readStatement_90 : decode cX12_readStatement 90 = .ok (.iload_n 1, 1) := by decide +kernel
theorem dX12_readStatement_91 : decode cX12_readStatement 91 = .ok (.imul, 1) := by decide +kernel
theorem dX12_readStatement_92 : decode cX12_readStatement 92 = .ok (.istore_n 3, 1) := by decide +kernel
theorem dX12_readStatement_93 : decode cX12_readStatement 93 = .ok (.iload_n 2, 1) := by decide +kernel
theorem dX12_readStatement_94 : decode cX12_readStatement 94 = .ok (.bipush 115, 2) := by decide +kernel
theorem dX12_readStatement_96 : decode cX12_readStatement 96 = .ok (.if_icmp .ne 87, 3) := by decide +kernel
theorem dX12_readStatement_99 : decode cX12_readStatement 99 = .ok (.aload_n 0, 1) := by decide +kernel
theorem dX12_readStatement_100 : decode cX12_readStatement 100 = .ok (.getfield 59, 3) := by decide +kernel
theorem dX12_readStatement_103 : decode cX12_readStatement 103 = .ok (.iload_n 3, 1) := by decide +kernel
theorem dX12_readStatement_104 : decode cX12_readStatement 104 = .ok (.aload_n 0, 1) := by decide +kernel
theorem dX12_readStatement_105 : decode cX12_readStatement 105 = .ok (.invokevirtual 153, 3) := by decide +kernel
theorem dX12_readStatement_108 : decode cX12_readStatement 108 = .ok (.iastore, 1) := by decide +kernel
theorem dX12_readStatement_109 : decode cX12_readStatement 109 = .ok (.aload_n 0, 1) := by decide +kernel
theorem dX12_readStatement_110 : decode cX12_readStatement 110 = .ok (.getfield 59, 3) := by decide +kernel
theorem dX12_readStatement_113 : decode cX12_readStatement 113 = .ok (.iload_n 3, 1) := by decide +kernel
theorem dX12_readStatement_114 : decode cX12_readStatement 114 = .ok (.iconst 1, 1) := by decide +kernel
theorem dX12_readStatement_115 : decode cX12_readStatement 115 = .ok (.iadd, 1) := by decide +kernel
theorem dX12_readStatement_116 : decode cX12_readStatement 116 = .ok (.aload_n 0, 1) := by decide +kernel
theorem dX12_readStatement_117 : decode cX12_readStatement 117 = .ok (.invokevirtual 153, 3) := by decide +kernel
theorem dX12_readStatement_120 : decode cX12_readStatement 120 = .ok (.iastore, 1) := by decide +kernel
theorem dX12_readStatement_121 : decode cX12_readStatement 121 = .ok (.aload_n 0, 1) := by decide +kernel
theorem dX12_readStatement_122 : decode cX12_readStatement 122 = .ok (.getfield 59, 3) := by decide +kernel
theorem dX12_readStatement_125 : decode cX12_readStatement 125 = .ok (.iload_n 3, 1) := by decide +kernel
theorem dX12_readStatement_126 : decode cX12_readStatement 126 = .ok (.iconst 2, 1) := by decide +kernel
theorem dX12_readStatement_127 : decode cX12_readStatement 127 = .ok (.iadd, 1) := by decide +kernel
theorem dX12_readStatement_128 : decode cX12_readStatement 128 = .ok (.aload_n 0, 1) := by decide +kernel
theorem dX12_readStatement_129 : decode cX12_readStatement 129 = .ok (.invokevirtual 153, 3) := by decide +kernel
theorem dX12_readStatement_132 : decode cX12_readStatement 132 = .ok (.iastore, 1) := by decide +kernel
theorem dX12_readStatement_133 : decode cX12_readStatement 133 = .ok (.aload_n 0, 1) := by decide +kernel
theorem dX12_readStatement_134 : decode cX12_readStatement 134 = .ok (.getfield 59, 3) := by decide +kernel
theorem dX12_readStatement_137 : decode cX12_readStatement 137 = .ok (.iload_n 3, 1) := by decide +kernel
theorem dX12_readStatement_138 : decode cX12_readStatement 138 = .ok (.iconst 3, 1) := by decide +kernel
theorem dX12_readStatement_139 : decode cX12_readStatement 139 = .ok (.iadd, 1) := by decide +kernel
theorem dX12_readStatement_140 : decode cX12_readStatement 140 = .ok (.aload_n 0, 1) := by decide +kernel
theorem dX12_readStatement_141 : decode cX12_readStatement 141 = .ok (.iconst 3, 1) := by decide +kernel
theorem dX12_readStatement_142 : decode cX12_readStatement 142 = .ok (.invokevirtual 156, 3) := by decide +kernel
theorem dX12_readStatement_145 : decode cX12_readStatement 145 = .ok (.iastore, 1) := by decide +kernel
theorem dX12_readStatement_146 : decode cX12_readStatement 146 = .ok (.aload_n 0, 1) := by decide +kernel
theorem dX12_readStatement_147 : decode cX12_readStatement 147 = .ok (.invokevirtual 162, 3) := by decide +kernel
theorem dX12_readStatement_150 : decode cX12_readStatement 150 = .ok (.aload_n 0, 1) := by decide +kernel
theorem dX12_readStatement_151 : decode cX12_readStatement 151 = .ok (.getfield 59, 3) := by decide +kernel
theorem dX12_readStatement_154 : decode cX12_readStatement 154 = .ok (.iload_n 3, 1) := by decide +kernel
theorem dX12_readStatement_155 : decode cX12_readStatement 155 = .ok (.iconst 4, 1) := by decide +kernel
theorem dX12_readStatement_156 : decode cX12_readStatement 156 = .ok (.iadd, 1) := by decide +kernel
theorem dX12_readStatement_157 : decode cX12_readStatement 157 = .ok (.aload_n 0, 1) := by decide +kernel
theorem dX12_readStatement_158 : decode cX12_readStatement 158 = .ok (.iconst 2, 1) := by decide +kernel
theorem dX12_readStatement_159 : decode cX12_readStatement 159 = .ok (.invokevirtual 165, 3) := by decide +kernel
theorem dX12_readStatement_162 : decode cX12_readStatement 162 = .ok (.iastore, 1) := by decide +kernel
theorem dX12_readStatement_163 : decode cX12_readStatement 163 = .ok (.aload_n 0, 1) := by decide +kernel
theorem dX12_readStatement_164 : decode cX12_readStatement 164 = .ok (.invokevirtual 162, 3) := by decide +kernel
theorem dX12_readStatement_167 : decode cX12_readStatement 167 = .ok (.aload_n 0, 1) := by decide +kernel
theorem dX12_readStatement_168 : decode cX12_readStatement 168 = .ok (.getfield 59, 3) := by decide +kernel
theorem dX12_readStatement_171 : decode cX12_readStatement 171 = .ok (.iload_n 3, 1) := by decide +kernel
theorem dX12_readStatement_172 : decode cX12_readStatement 172 = .ok (.iconst 5, 1) := by decide +kernel
theorem dX12_readStatement_173 : decode cX12_readStatement 173 = .ok (.iadd, 1) := by decide +kernel
theorem dX12_readStatement_174 : decode cX12_readStatement 174 = .ok (.aload_n 0, 1) := by decide +kernel
theorem dX12_readStatement_175 : decode cX12_readStatement 175 = .ok (.iconst 2, 1) := by decide +kernel
theorem dX12_readStatement_176 : decode cX12_readStatement 176 = .ok (.invokevirtual 165, 3) := by decide +kernel
theorem dX12_readStatement_179 : decode cX12_readStatement 179 = .ok (.iastore, 1) := by decide +kernel
theorem dX12_readStatement_180 : decode cX12_readStatement 180 = .ok (.goto 59, 3) := by decide +kernel
theorem dX12_readStatement_183 : decode cX12_readStatement 183 = .ok (.iload_n 2, 1) := by decide +kernel
theorem dX12_readStatement_184 : decode cX12_readStatement 184 = .ok (.bipush 119, 2) := by decide +kernel
theorem dX12_readStatement_186 : decode cX12_readStatement 186 = .ok (.if_icmp .ne 42, 3) := by decide +kernel
theorem dX12_readStatement_189 : decode cX12_readStatement 189 = .ok (.aload_n 0, 1) := by decide +kernel
theorem dX12_readStatement_190 : decode cX12_readStatement 190 = .ok (.getfield 59, 3) := by decide +kernel
theorem dX12_readStatement_193 : decode cX12_readStatement 193 = .ok (.iload_n 3, 1) := by decide +kernel
theorem dX12_readStatement_194 : decode cX12_readStatement 194 = .ok (.aload_n 0, 1) := by decide +kernel
theorem dX12_readStatement_195 : decode cX12_readStatement 195 = .ok (.invokevirtual 153, 3) := by decide +kernel
theorem dX12_readStatement_198 : decode cX12_readStatement 198 = .ok (.iastore, 1) := by decide +kernel
theorem dX12_readStatement_199 : decode cX12_readStatement 199 = .ok (.aload_n 0, 1) := by decide +kernel
theorem dX12_readStatement_200 : decode cX12_readStatement 200 = .ok (.getfield 59, 3) := by decide +kernel
theorem dX12_readStatement_203 : decode cX12_readStatement 203 = .ok (.iload_n 3, 1) := by decide +kernel
theorem dX12_readStatement_204 : decode cX12_readStatement 204 = .ok (.iconst 1, 1) := by decide +kernel
theorem dX12_readStatement_205 : decode cX12_readStatement 205 = .ok (.iadd, 1) := by decide +kernel
theorem dX12_readStatement_206 : decode cX12_readStatement 206 = .ok (.aload_n 0, 1) := by decide +kernel
theorem dX12_readStatement_207 : decode cX12_readStatement 207 = .ok (.iconst 1, 1) := by decide +kernel
theorem dX12_readStatement_208 : decode cX12_readStatement 208 = .ok (.invokevirtual 165, 3) := by decide +kernel
theorem dX12_readStatement_211 : decode cX12_readStatement 211 = .ok (.iastore, 1) := by decide +kernel
theorem dX12_readStatement_212 : decode cX12_readStatement 212 = .ok (.aload_n 0, 1) := by decide +kernel
theorem dX12_readStatement_213 : decode cX12_readStatement 213 = .ok (.getfield 59, 3) := by decide +kernel
theorem dX12_readStatement_216 : decode cX12_readStatement 216 = .ok (.iload_n 3, 1) := by decide +kernel
theorem dX12_readStatement_217 : decode cX12_readStatement 217 = .ok (.iconst 2, 1) := by decide +kernel
theorem dX12_readStatement_218 : decode cX12_readStatement 218 = .ok (.iadd, 1) := by decide +kernel
theorem dX12_readStatement_219 : decode cX12_readStatement 219 = .ok (.aload_n 0, 1) := by decide +kernel
theorem dX12_readStatement_220 : decode cX12_readStatement 220 = .ok (.iconst 1, 1) := by decide +kernel
theorem dX12_readStatement_221 : decode cX12_readStatement 221 = .ok (.invokevirtual 165, 3) := by decide +kernel
theorem dX12_readStatement_224 : decode cX12_readStatement 224 = .ok (.iastore, 1) := by decide +kernel
theorem dX12_readStatement_225 : decode cX12_readStatement 225 = .ok (.goto 14, 3) := by decide +kernel
theorem dX12_readStatement_228 : decode cX12_readStatement 228 = .ok (.aload_n 0, 1) := by decide +kernel
theorem dX12_readStatement_229 : decode cX12_readStatement 229 = .ok (.getfield 59, 3) := by decide +kernel
theorem dX12_readStatement_232 : decode cX12_readStatement 232 = .ok (.iload_n 3, 1) := by decide +kernel
theorem dX12_readStatement_233 : decode cX12_readStatement 233 = .ok (.aload_n 0, 1) := by decide +kernel
theorem dX12_readStatement_234 : decode cX12_readStatement 234 = .ok (.iconst 2, 1) := by decide +kernel
theorem dX12_readStatement_235 : decode cX12_readStatement 235 = .ok (.invokevirtual 156, 3) := by decide +kernel
theorem dX12_readStatement_238 : decode cX12_readStatement 238 = .ok (.iastore, 1) := by decide +kernel
theorem dX12_readStatement_239 : decode cX12_readStatement 239 = .ok (.aload_n 0, 1) := by decide +kernel
theorem dX12_readStatement_240 : decode cX12_readStatement 240 = .ok (.aload_n 0, 1) := by decide +kernel
theorem dX12_readStatement_241 : decode cX12_readStatement 241 = .ok (.getfield 143, 3) := by decide +kernel
theorem dX12_readStatement_244 : decode cX12_readStatement 244 = .ok (.ifCond .ne 12, 3) := by decide +kernel
theorem dX12_readStatement_247 : decode cX12_readStatement 247 = .ok (.aload_n 0, 1) := by decide +kernel
theorem dX12_readStatement_248 : decode cX12_readStatement 248 = .ok (.invokevirtual 146, 3) := by decide +kernel
theorem dX12_readStatement_251 : decode cX12_readStatement 251 = .ok (.bipush 59, 2) := by decide +kernel
theorem dX12_readStatement_253 : decode cX12_readStatement 253 = .ok (.if_icmp .eq 7, 3) := by decide +kernel
theorem dX12_readStatement_256 : decode cX12_readStatement 256 = .ok (.iconst 1, 1) := by decide +kernel
theorem dX12_readStatement_257 : decode cX12_readStatement 257 = .ok (.goto 4, 3) := by decide +kernel
theorem dX12_readStatement_260 : decode cX12_readStatement 260 = .ok (.iconst 0, 1) := by decide +kernel
theorem dX12_readStatement_261 : decode cX12_readStatement 261 = .ok (.putfield 143, 3) := by decide +kernel
theorem dX12_readStatement_264 : decode cX12_readStatement 264 = .ok (.aload_n 0, 1) := by decide +kernel
theorem dX12_readStatement_265 : decode cX12_readStatement 265 = .ok (.dup, 1) := by decide +kernel
theorem dX12_readStatement_266 : decode cX12_readStatement 266 = .ok (.getfield 140, 3) := by decide +kernel
theorem dX12_readStatement_269 : decode cX12_readStatement 269 = .ok (.aload_n 0, 1) := by decide +kernel
theorem dX12_readStatement_270 : decode cX12_readStatement 270 = .ok (.getfield 143, 3) := by decide +kernel
theorem dX12_readStatement_273 : decode cX12_readStatement 273 = .ok (.ifCond .eq 7, 3) := by decide +kernel
theorem dX12_readStatement_276 : decode cX12_readStatement 276 = .ok (.iconst 0, 1) := by decide +kernel
theorem dX12_readStatement_277 : decode cX12_readStatement 277 = .ok (.goto 4, 3) := by decide +kernel
theorem dX12_readStatement_280 : decode cX12_readStatement 280 = .ok (.iconst 1, 1) := by decide +kernel
theorem dX12_readStatement_281 : decode cX12_readStatement 281 = .ok (.iadd, 1) := by decide +kernel
theorem dX12_readStatement_282 : decode cX12_readStatement 282 = .ok (.putfield 140, 3) := by decide +kernel
theorem dX12_readStatement_285 : decode cX12_readStatement 285 = .ok (.aload_n 0, 1) := by decide +kernel
theorem dX12_readStatement_286 : decode cX12_readStatement 286 = .ok (.dup, 1) := by decide +kernel
theorem dX12_readStatement_287 : decode cX12_readStatement 287 = .ok (.getfield 159, 3) := by decide +kernel
theorem dX12_readStatement_290 : decode cX12_readStatement 290 = .ok (.iconst 1, 1) := by decide +kernel
theorem dX12_readStatement_291 : decode cX12_readStatement 291 = .ok (.iadd, 1) := by decide +kernel
theorem dX12_readStatement_292 : decode cX12_readStatement 292 = .ok (.putfield 159, 3) := by decide +kernel
theorem dX12_readStatement_295 : decode cX12_readStatement 295 = .ok (.return_, 1) := by decide +kernel
theorem dX12_shipComes_0 : decode cX12_shipComes 0 = .ok (.aload_n 0, 1) := by decide +kernel
theorem dX12_shipComes_1 : decode cX12_shipComes 1 = .ok (.getfield 59, 3) := by decide +kernel
theorem dX12_shipComes_4 : decode cX12_shipComes 4 = .ok (.iload_n 1, 1) := by decide +kernel
theorem dX12_shipComes_5 : decode cX12_shipComes 5 = .ok (.iaload, 1) := by decide +kernel
theorem dX12_shipComes_6 : decode cX12_shipComes 6 = .ok (.iconst 5, 1) := by decide +kernel
theorem dX12_shipComes_7 : decode cX12_shipComes 7 = .ok (.if_icmp .gt 12, 3) := by decide +kernel
theorem dX12_shipComes_10 : decode cX12_shipComes 10 = .ok (.aload_n 0, 1) := by decide +kernel
theorem dX12_shipComes_11 : decode cX12_shipComes 11 = .ok (.getfield 68, 3) := by decide +kernel
theorem dX12_shipComes_14 : decode cX12_shipComes 14 = .ok (.bipush 6, 2) := by decide +kernel
theorem dX12_shipComes_16 : decode cX12_shipComes 16 = .ok (.if_icmp .ne 5, 3) := by decide +kernel
theorem dX12_shipComes_19 : decode cX12_shipComes 19 = .ok (.iconst 0, 1) := by decide +kernel
theorem dX12_shipComes_20 : decode cX12_shipComes 20 = .ok (.ireturn, 1) := by decide +kernel
theorem dX12_shipComes_21 : decode cX12_shipComes 21 = .ok (.aload_n 0, 1) := by decide +kernel
theorem dX12_shipComes_22 : decode cX12_shipComes 22 = .ok (.getfield 23, 3) := by decide +kernel
theorem dX12_shipComes_25 : decode cX12_shipComes 25 = .ok (.aload_n 0, 1) := by decide +kernel
theorem dX12_shipComes_26 : decode cX12_shipComes 26 = .ok (.getfield 68, 3) := by decide +kernel
theorem dX12_shipComes_29 : decode cX12_shipComes 29 = .ok (.aload_n 0, 1) := by decide +kernel
theorem dX12_shipComes_30 : decode cX12_shipComes 30 = .ok (.getfield 59, 3) := by decide +kernel
theorem dX12_shipComes_33 : decode cX12_shipComes 33 = .ok (.iload_n 1, 1) := by decide +kernel
theorem dX12_shipComes_34 : decode cX12_shipComes 34 = .ok (.iaload, 1) := by decide +kernel
theorem dX12_shipComes_35 : decode cX12_shipComes 35 = .ok (.iastore, 1) := by decide +kernel
theorem dX12_shipComes_36 : decode cX12_shipComes 36 = .ok (.aload_n 0, 1) := by decide +kernel
theorem dX12_shipComes_37 : decode cX12_shipComes 37 = .ok (.getfield 26, 3) := by decide +kernel
theorem dX12_shipComes_40 : decode cX12_shipComes 40 = .ok (.aload_n 0, 1) := by decide +kernel
theorem dX12_shipComes_41 : decode cX12_shipComes 41 = .ok (.getfield 68, 3) := by decide +kernel
theorem dX12_shipComes_44 : decode cX12_shipComes 44 = .ok (.aload_n 0, 1) := by decide +kernel
theorem dX12_shipComes_45 : decode cX12_shipComes 45 = .ok (.getfield 59, 3) := by decide +kernel
theorem dX12_shipComes_48 : decode cX12_shipComes 48 = .ok (.iload_n 1, 1) := by decide +kernel
theorem dX12_shipComes_49 : decode cX12_shipComes 49 = .ok (.iconst 1, 1) := by decide +kernel
theorem dX12_shipComes_50 : decode cX12_shipComes 50 = .ok (.iadd, 1) := by decide +kernel
theorem dX12_shipComes_51 : decode cX12_shipComes 51 = .ok (.iaload, 1) := by decide +kernel
theorem dX12_shipComes_52 : decode cX12_shipComes 52 = .ok (.iastore, 1) := by decide +kernel
theorem dX12_shipComes_53 : decode cX12_shipComes 53 = .ok (.aload_n 0, 1) := by decide +kernel
theorem dX12_shipComes_54 : decode cX12_shipComes 54 = .ok (.getfield 29, 3) := by decide +kernel
theorem dX12_shipComes_57 : decode cX12_shipComes 57 = .ok (.aload_n 0, 1) := by decide +kernel
theorem dX12_shipComes_58 : decode cX12_shipComes 58 = .ok (.getfield 68, 3) := by decide +kernel
theorem dX12_shipComes_61 : decode cX12_shipComes 61 = .ok (.aload_n 0, 1) := by decide +kernel
theorem dX12_shipComes_62 : decode cX12_shipComes 62 = .ok (.getfield 59, 3) := by decide +kernel
theorem dX12_shipComes_65 : decode cX12_shipComes 65 = .ok (.iload_n 1, 1) := by decide +kernel
theorem dX12_shipComes_66 : decode cX12_shipComes 66 = .ok (.iconst 2, 1) := by decide +kernel
theorem dX12_shipComes_67 : decode cX12_shipComes 67 = .ok (.iadd, 1) := by decide +kernel
theorem dX12_shipComes_68 : decode cX12_shipComes 68 = .ok (.iaload, 1) := by decide +kernel
theorem dX12_shipComes_69 : decode cX12_shipComes 69 = .ok (.iastore, 1) := by decide +kernel
theorem dX12_shipComes_70 : decode cX12_shipComes 70 = .ok (.aload_n 0, 1) := by decide +kernel
theorem dX12_shipComes_71 : decode cX12_shipComes 71 = .ok (.getfield 32, 3) := by decide +kernel
theorem dX12_shipComes_74 : decode cX12_shipComes 74 = .ok (.aload_n 0, 1) := by decide +kernel
theorem dX12_shipComes_75 : decode cX12_shipComes 75 = .ok (.getfield 68, 3) := by decide +kernel
theorem dX12_shipComes_78 : decode cX12_shipComes 78 = .ok (.aload_n 0, 1) := by decide +kernel
theorem dX12_shipComes_79 : decode cX12_shipComes 79 = .ok (.getfield 59, 3) := by decide +kernel
theorem dX12_shipComes_82 : decode cX12_shipComes 82 = .ok (.iload_n 1, 1) := by decide +kernel
theorem dX12_shipComes_83 : decode cX12_shipComes 83 = .ok (.iconst 3, 1) := by decide +kernel
theorem dX12_shipComes_84 : decode cX12_shipComes 84 = .ok (.iadd, 1) := by decide +kernel
theorem dX12_shipComes_85 : decode cX12_shipComes 85 = .ok (.iaload, 1) := by decide +kernel
theorem dX12_shipComes_86 : decode cX12_shipComes 86 = .ok (.iastore, 1) := by decide +kernel
theorem dX12_shipComes_87 : decode cX12_shipComes 87 = .ok (.aload_n 0, 1) := by decide +kernel
theorem dX12_shipComes_88 : decode cX12_shipComes 88 = .ok (.getfield 35, 3) := by decide +kernel
theorem dX12_shipComes_91 : decode cX12_shipComes 91 = .ok (.aload_n 0, 1) := by decide +kernel
theorem dX12_shipComes_92 : decode cX12_shipComes 92 = .ok (.getfield 68, 3) := by decide +kernel
theorem dX12_shipComes_95 : decode cX12_shipComes 95 = .ok (.aload_n 0, 1) := by decide +kernel
theorem dX12_shipComes_96 : decode cX12_shipComes 96 = .ok (.getfield 59, 3) := by decide +kernel
theorem dX12_shipComes_99 : decode cX12_shipComes 99 = .ok (.iload_n 1, 1) := by decide +kernel
theorem dX12_shipComes_100 : decode cX12_shipComes 100 = .ok (.iconst 4, 1) := by decide +kernel
theorem dX12_shipComes_101 : decode cX12_shipComes 101 = .ok (.iadd, 1) := by decide +kernel
theorem dX12_shipComes_102 : decode cX12_shipComes 102 = .ok (.iaload, 1) := by decide +kernel
theorem dX12_shipComes_103 : decode cX12_shipComes 103 = .ok (.iastore, 1) := by decide +kernel
theorem dX12_shipComes_104 : decode cX12_shipComes 104 = .ok (.aload_n 0, 1) := by decide +kernel
theorem dX12_shipComes_105 : decode cX12_shipComes 105 = .ok (.getfield 38, 3) := by decide +kernel
theorem dX12_shipComes_108 : decode cX12_shipComes 108 = .ok (.aload_n 0, 1) := by decide +kernel
theorem dX12_shipComes_109 : decode cX12_shipComes 109 = .ok (.getfield 68, 3) := by decide +kernel
theorem dX12_shipComes_112 : decode cX12_shipComes 112 = .ok (.aload_n 0, 1) := by decide +kernel
theorem dX12_shipComes_113 : decode cX12_shipComes 113 = .ok (.getfield 59, 3) := by decide +kernel
theorem dX12_shipComes_116 : decode cX12_shipComes 116 = .ok (.iload_n 1, 1) := by decide +kernel
theorem dX12_shipComes_117 : decode cX12_shipComes 117 = .ok (.iconst 5, 1) := by decide +kernel
theorem dX12_shipComes_118 : decode cX12_shipComes 118 = .ok (.iadd, 1) := by decide +kernel
theorem dX12_shipComes_119 : decode cX12_shipComes 119 = .ok (.iaload, 1) := by decide +kernel
theorem dX12_shipComes_120 : decode cX12_shipComes 120 = .ok (.iastore, 1) := by decide +kernel
theorem dX12_shipComes_121 : decode cX12_shipComes 121 = .ok (.aload_n 0, 1) := by decide +kernel
theorem dX12_shipComes_122 : decode cX12_shipComes 122 = .ok (.dup, 1) := by decide +kernel
theorem dX12_shipComes_123 : decode cX12_shipComes 123 = .ok (.getfield 68, 3) := by decide +kernel
theorem dX12_shipComes_126 : decode cX12_shipComes 126 = .ok (.iconst 1, 1) := by decide +kernel
theorem dX12_shipComes_127 : decode cX12_shipComes 127 = .ok (.iadd, 1) := by decide +kernel
theorem dX12_shipComes_128 : decode cX12_shipComes 128 = .ok (.putfield 68, 3) := by decide +kernel
theorem dX12_shipComes_131 : decode cX12_shipComes 131 = .ok (.iconst 1, 1) := by decide +kernel
theorem dX12_shipComes_132 : decode cX12_shipComes 132 = .ok (.ireturn, 1) := by decide +kernel
theorem dX12_comes_0 : decode cX12_comes 0 = .ok (.bipush 6, 2) := by decide +kernel
theorem dX12_comes_2 : decode cX12_comes 2 = .ok (.iload_n 1, 1) := by decide +kernel
theorem dX12_comes_3 : decode cX12_comes 3 = .ok (.imul, 1) := by decide +kernel
theorem dX12_comes_4 : decode cX12_comes 4 = .ok (.istore_n 2, 1) := by decide +kernel
theorem dX12_comes_5 : decode cX12_comes 5 = .ok (.aload_n 0, 1) := by decide +kernel
theorem dX12_comes_6 : decode cX12_comes 6 = .ok (.getfield 56, 3) := by decide +kernel
theorem dX12_comes_9 : decode cX12_comes 9 = .ok (.iload_n 1, 1) := by decide +kernel
theorem dX12_comes_10 : decode cX12_comes 10 = .ok (.iaload, 1) := by decide +kernel
theorem dX12_comes_11 : decode cX12_comes 11 = .ok (.lookupswitch 167 #[(114, 142), (115, 33), (119, 39)], 33) := by decide +kernel
theorem dX12_comes_44 : decode cX12_comes 44 = .ok (.aload_n 0, 1) := by decide +kernel
theorem dX12_comes_45 : decode cX12_comes 45 = .ok (.iload_n 2, 1) := by decide +kernel
theorem dX12_comes_46 : decode cX12_comes 46 = .ok (.invokevirtual 168, 3) := by decide +kernel
theorem dX12_comes_49 : decode cX12_comes 49 = .ok (.ireturn, 1) := by decide +kernel
theorem dX12_comes_50 : decode cX12_comes 50 = .ok (.aload_n 0, 1) := by decide +kernel
theorem dX12_comes_51 : decode cX12_comes 51 = .ok (.getfield 59, 3) := by decide +kernel
theorem dX12_comes_54 : decode cX12_comes 54 = .ok (.iload_n 2, 1) := by decide +kernel
theorem dX12_comes_55 : decode cX12_comes 55 = .ok (.iaload, 1) := by decide +kernel
theorem dX12_comes_56 : decode cX12_comes 56 = .ok (.bipush 7, 2) := by decide +kernel
theorem dX12_comes_58 : decode cX12_comes 58 = .ok (.if_icmp .ge 49, 3) := by decide +kernel
theorem dX12_comes_61 : decode cX12_comes 61 = .ok (.aload_n 0, 1) := by decide +kernel
theorem dX12_comes_62 : decode cX12_comes 62 = .ok (.getfield 59, 3) := by decide +kernel
theorem dX12_comes_65 : decode cX12_comes 65 = .ok (.iload_n 2, 1) := by decide +kernel
theorem dX12_comes_66 : decode cX12_comes 66 = .ok (.iconst 1, 1) := by decide +kernel
theorem dX12_comes_67 : decode cX12_comes 67 = .ok (.iadd, 1) := by decide +kernel
theorem dX12_comes_68 : decode cX12_comes 68 = .ok (.iaload, 1) := by decide +kernel
theorem dX12_comes_69 : decode cX12_comes 69 = .ok (.i2l, 1) := by decide +kernel
theorem dX12_comes_70 : decode cX12_comes 70 = .ok (.ldc2_w 171, 3) := by decide +kernel
theorem dX12_comes_73 : decode cX12_comes 73 = .ok (.ldc2_w 173, 3) := by decide +kernel
theorem dX12_comes_76 : decode cX12_comes 76 = .ok (.invokestatic 71, 3) := by decide +kernel
theorem dX12_comes_79 : decode cX12_comes 79 = .ok (.ifCond .eq 28, 3) := by decide +kernel
theorem dX12_comes_82 : decode cX12_comes 82 = .ok (.aload_n 0, 1) := by decide +kernel
theorem dX12_comes_83 : decode cX12_comes 83 = .ok (.getfield 59, 3) := by decide +kernel
theorem dX12_comes_86 : decode cX12_comes 86 = .ok (.iload_n 2, 1) := by decide +kernel
theorem dX12_comes_87 : decode cX12_comes 87 = .ok (.iconst 2, 1) := by decide +kernel
theorem dX12_comes_88 : decode cX12_comes 88 = .ok (.iadd, 1) := by decide +kernel
theorem dX12_comes_89 : decode cX12_comes 89 = .ok (.iaload, 1) := by decide +kernel
theorem dX12_comes_90 : decode cX12_comes 90 = .ok (.i2l, 1) := by decide +kernel
theorem dX12_comes_91 : decode cX12_comes 91 = .ok (.ldc2_w 171, 3) := by decide +kernel
theorem dX12_comes_94 : decode cX12_comes 94 = .ok (.ldc2_w 173, 3) := by decide +kernel
theorem dX12_comes_97 : decode cX12_comes 97 = .ok (.invokestatic 71, 3) := by decide +kernel
theorem dX12_comes_100 : decode cX12_comes 100 = .ok (.ifCond .eq 7, 3) := by decide +kernel
theorem dX12_comes_103 : decode cX12_comes 103 = .ok (.iconst 1, 1) := by decide +kernel
theorem dX12_comes_104 : decode cX12_comes 104 = .ok (.goto 4, 3) := by decide +kernel
theorem dX12_comes_107 : decode cX12_comes 107 = .ok (.iconst 0, 1) := by decide +kernel
theorem dX12_comes_108 : decode cX12_comes 108 = .ok (.istore_n 3, 1) := by decide +kernel
theorem dX12_comes_109 : decode cX12_comes 109 = .ok (.iload_n 3, 1) := by decide +kernel
theorem dX12_comes_110 : decode cX12_comes 110 = .ok (.ifCond .eq 41, 3) := by decide +kernel
theorem dX12_comes_113 : decode cX12_comes 113 = .ok (.aload_n 0, 1) := by decide +kernel
theorem dX12_comes_114 : decode cX12_comes 114 = .ok (.getfield 16, 3) := by decide +kernel
theorem dX12_comes_117 : decode cX12_comes 117 = .ok (.aload_n 0, 1) := by decide +kernel
theorem dX12_comes_118 : decode cX12_comes 118 = .ok (.getfield 59, 3) := by decide +kernel
theorem dX12_comes_121 : decode cX12_comes 121 = .ok (.iload_n 2, 1) := by decide +kernel
theorem dX12_comes_122 : decode cX12_comes 122 = .ok (.iaload, 1) := by decide +kernel
theorem dX12_comes_123 : decode cX12_comes 123 = .ok (.aload_n 0, 1) := by decide +kernel
theorem dX12_comes_124 : decode cX12_comes 124 = .ok (.getfield 59, 3) := by decide +kernel
theorem dX12_comes_127 : decode cX12_comes 127 = .ok (.iload_n 2, 1) := by decide +kernel
theorem dX12_comes_128 : decode cX12_comes 128 = .ok (.iconst 1, 1) := by decide +kernel
theorem dX12_comes_129 : decode cX12_comes 129 = .ok (.iadd, 1) := by decide +kernel
theorem dX12_comes_130 : decode cX12_comes 130 = .ok (.iaload, 1) := by decide +kernel
theorem dX12_comes_131 : decode cX12_comes 131 = .ok (.iastore, 1) := by decide +kernel
theorem dX12_comes_132 : decode cX12_comes 132 = .ok (.aload_n 0, 1) := by decide +kernel
theorem dX12_comes_133 : decode cX12_comes 133 = .ok (.getfield 20, 3) := by decide +kernel
theorem dX12_comes_136 : decode cX12_comes 136 = .ok (.aload_n 0, 1) := by decide +kernel
theorem dX12_comes_137 : decode cX12_comes 137 = .ok (.getfield 59, 3) := by decide +kernel
theorem dX12_comes_140 : decode cX12_comes 140 = .ok (.iload_n 2, 1) := by decide +kernel
theorem dX12_comes_141 : decode cX12_comes 141 = .ok (.iaload, 1) := by decide +kernel
theorem dX12_comes_142 : decode cX12_comes 142 = .ok (.aload_n 0, 1) := by decide +kernel
theorem dX12_comes_143 : decode cX12_comes 143 = .ok (.getfield 59, 3) := by decide +kernel
theorem dX12_comes_146 : decode cX12_comes 146 = .ok (.iload_n 2, 1) := by decide +kernel
theorem dX12_comes_147 : decode cX12_comes 147 = .ok (.iconst 2, 1) := by decide +kernel
theorem dX12_comes_148 : decode cX12_comes 148 = .ok (.iadd, 1) := by decide +kernel
theorem dX12_comes_149 : decode cX12_comes 149 = .ok (.iaload, 1) := by decide +kernel
theorem dX12_comes_150 : decode cX12_comes 150 = .ok (.iastore, 1) := by decide +kernel
theorem dX12_comes_151 : decode cX12_comes 151 = .ok (.iload_n 3, 1) := by decide +kernel
theorem dX12_comes_152 : decode cX12_comes 152 = .ok (.ireturn, 1) := by decide +kernel
theorem dX12_comes_153 : decode cX12_comes 153 = .ok (.aload_n 0, 1) := by decide +kernel
theorem dX12_comes_154 : decode cX12_comes 154 = .ok (.aload_n 0, 1) := by decide +kernel
theorem dX12_comes_155 : decode cX12_comes 155 = .ok (.getfield 59, 3) := by decide +kernel
theorem dX12_comes_158 : decode cX12_comes 158 = .ok (.iload_n 2, 1) := by decide +kernel
theorem dX12_comes_159 : decode cX12_comes 159 = .ok (.iaload, 1) := by decide +kernel
theorem dX12_comes_160 : decode cX12_comes 160 = .ok (.putfield 7, 3) := by decide +kernel
theorem dX12_comes_163 : decode cX12_comes 163 = .ok (.aload_n 0, 1) := by decide +kernel
theorem dX12_comes_164 : decode cX12_comes 164 = .ok (.getfield 59, 3) := by decide +kernel
theorem dX12_comes_167 : decode cX12_comes 167 = .ok (.iload_n 2, 1) := by decide +kernel
theorem dX12_comes_168 : decode cX12_comes 168 = .ok (.iaload, 1) := by decide +kernel
theorem dX12_comes_169 : decode cX12_comes 169 = .ok (.i2l, 1) := by decide +kernel
theorem dX12_comes_170 : decode cX12_comes 170 = .ok (.lconst 1, 1) := by decide +kernel
theorem dX12_comes_171 : decode cX12_comes 171 = .ok (.ldc2_w 175, 3) := by decide +kernel
theorem dX12_comes_174 : decode cX12_comes 174 = .ok (.invokestatic 71, 3) := by decide +kernel
theorem dX12_comes_177 : decode cX12_comes 177 = .ok (.ireturn, 1) := by decide +kernel
theorem dX12_comes_178 : decode cX12_comes 178 = .ok (.aload_n 0, 1) := by decide +kernel
theorem dX12_comes_179 : decode cX12_comes 179 = .ok (.aload_n 0, 1) := by decide +kernel
theorem dX12_comes_180 : decode cX12_comes 180 = .ok (.getfield 59, 3) := by decide +kernel
theorem dX12_comes_183 : decode cX12_comes 183 = .ok (.iload_n 2, 1) := by decide +kernel
theorem dX12_comes_184 : decode cX12_comes 184 = .ok (.iaload, 1) := by decide +kernel
theorem dX12_comes_185 : decode cX12_comes 185 = .ok (.putfield 13, 3) := by decide +kernel
theorem dX12_comes_188 : decode cX12_comes 188 = .ok (.aload_n 0, 1) := by decide +kernel
theorem dX12_comes_189 : decode cX12_comes 189 = .ok (.getfield 59, 3) := by decide +kernel
theorem dX12_comes_192 : decode cX12_comes 192 = .ok (.iload_n 2, 1) := by decide +kernel
theorem dX12_comes_193 : decode cX12_comes 193 = .ok (.iaload, 1) := by decide +kernel
theorem dX12_comes_194 : decode cX12_comes 194 = .ok (.i2l, 1) := by decide +kernel
theorem dX12_comes_195 : decode cX12_comes 195 = .ok (.lconst 1, 1) := by decide +kernel
theorem dX12_comes_196 : decode cX12_comes 196 = .ok (.ldc2_w 177, 3) := by decide +kernel
theorem dX12_comes_199 : decode cX12_comes 199 = .ok (.invokestatic 71, 3) := by decide +kernel
theorem dX12_comes_202 : decode cX12_comes 202 = .ok (.ireturn, 1) := by decide +kernel
theorem dX12_pack_0 : decode cX12_pack 0 = .ok (.aload_n 0, 1) := by decide +kernel
theorem dX12_pack_1 : decode cX12_pack 1 = .ok (.iconst 0, 1) := by decide +kernel
theorem dX12_pack_2 : decode cX12_pack 2 = .ok (.putfield 65, 3) := by decide +kernel
theorem dX12_pack_5 : decode cX12_pack 5 = .ok (.aload_n 0, 1) := by decide +kernel
theorem dX12_pack_6 : decode cX12_pack 6 = .ok (.iconst 0, 1) := by decide +kernel
theorem dX12_pack_7 : decode cX12_pack 7 = .ok (.putfield 140, 3) := by decide +kernel
theorem dX12_pack_10 : decode cX12_pack 10 = .ok (.aload_n 0, 1) := by decide +kernel
theorem dX12_pack_11 : decode cX12_pack 11 = .ok (.iconst 0, 1) := by decide +kernel
theorem dX12_pack_12 : decode cX12_pack 12 = .ok (.putfield 143, 3) := by decide +kernel
theorem dX12_pack_15 : decode cX12_pack 15 = .ok (.aload_n 0, 1) := by decide +kernel
theorem dX12_pack_16 : decode cX12_pack 16 = .ok (.iconst 0, 1) := by decide +kernel
theorem dX12_pack_17 : decode cX12_pack 17 = .ok (.putfield 159, 3) := by decide +kernel
theorem dX12_pack_20 : decode cX12_pack 20 = .ok (.aload_n 0, 1) := by decide +kernel
theorem dX12_pack_21 : decode cX12_pack 21 = .ok (.getfield 143, 3) := by decide +kernel
theorem dX12_pack_24 : decode cX12_pack 24 = .ok (.ifCond .ne 28, 3) := by decide +kernel
theorem dX12_pack_27 : decode cX12_pack 27 = .ok (.aload_n 0, 1) := by decide +kernel
theorem dX12_pack_28 : decode cX12_pack 28 = .ok (.getfield 159, 3) := by decide +kernel
theorem dX12_pack_31 : decode cX12_pack 31 = .ok (.ifCond .eq 14, 3) := by decide +kernel
theorem dX12_pack_34 : decode cX12_pack 34 = .ok (.aload_n 0, 1) := by decide +kernel
theorem dX12_pack_35 : decode cX12_pack 35 = .ok (.getfield 140, 3) := by decide +kernel
theorem dX12_pack_38 : decode cX12_pack 38 = .ok (.aload_n 0, 1) := by decide +kernel
theorem dX12_pack_39 : decode cX12_pack 39 = .ok (.getfield 137, 3) := by decide +kernel
theorem dX12_pack_42 : decode cX12_pack 42 = .ok (.if_icmp .ge 10, 3) := by decide +kernel
theorem dX12_pack_45 : decode cX12_pack 45 = .ok (.aload_n 0, 1) := by decide +kernel
theorem dX12_pack_46 : decode cX12_pack 46 = .ok (.invokevirtual 179, 3) := by decide +kernel
theorem dX12_pack_49 : decode cX12_pack 49 = .ok (.goto (-29), 3) := by decide +kernel
theorem dX12_pack_52 : decode cX12_pack 52 = .ok (.aload_n 0, 1) := by decide +kernel
theorem dX12_pack_53 : decode cX12_pack 53 = .ok (.iconst 0, 1) := by decide +kernel
theorem dX12_pack_54 : decode cX12_pack 54 = .ok (.putfield 137, 3) := by decide +kernel
theorem dX12_pack_57 : decode cX12_pack 57 = .ok (.aload_n 0, 1) := by decide +kernel
theorem dX12_pack_58 : decode cX12_pack 58 = .ok (.getfield 143, 3) := by decide +kernel
theorem dX12_pack_61 : decode cX12_pack 61 = .ok (.ifCond .eq 12, 3) := by decide +kernel
theorem dX12_pack_64 : decode cX12_pack 64 = .ok (.sipush (-1000), 3) := by decide +kernel
theorem dX12_pack_67 : decode cX12_pack 67 = .ok (.aload_n 0, 1) := by decide +kernel
theorem dX12_pack_68 : decode cX12_pack 68 = .ok (.getfield 140, 3) := by decide +kernel
theorem dX12_pack_71 : decode cX12_pack 71 = .ok (.isub, 1) := by decide +kernel
theorem dX12_pack_72 : decode cX12_pack 72 = .ok (.ireturn, 1) := by decide +kernel
theorem dX12_pack_73 : decode cX12_pack 73 = .ok (.aload_n 0, 1) := by decide +kernel
theorem dX12_pack_74 : decode cX12_pack 74 = .ok (.invokevirtual 182, 3) := by decide +kernel
theorem dX12_pack_77 : decode cX12_pack 77 = .ok (.iconst 0, 1) := by decide +kernel
theorem dX12_pack_78 : decode cX12_pack 78 = .ok (.istore_n 1, 1) := by decide +kernel
theorem dX12_pack_79 : decode cX12_pack 79 = .ok (.iload_n 1, 1) := by decide +kernel
theorem dX12_pack_80 : decode cX12_pack 80 = .ok (.aload_n 0, 1) := by decide +kernel
theorem dX12_pack_81 : decode cX12_pack 81 = .ok (.getfield 159, 3) := by decide +kernel
theorem dX12_pack_84 : decode cX12_pack 84 = .ok (.if_icmp .ge 32, 3) := by decide +kernel
theorem dX12_pack_87 : decode cX12_pack 87 = .ok (.aload_n 0, 1) := by decide +kernel
theorem dX12_pack_88 : decode cX12_pack 88 = .ok (.iload_n 1, 1) := by decide +kernel
theorem dX12_pack_89 : decode cX12_pack 89 = .ok (.invokevirtual 185, 3) := by decide +kernel
theorem dX12_pack_92 : decode cX12_pack 92 = .ok (.ifCond .ne 18, 3) := by decide +kernel
theorem dX12_pack_95 : decode cX12_pack 95 = .ok (.aload_n 0, 1) := by decide +kernel
theorem dX12_pack_96 : decode cX12_pack 96 = .ok (.invokevirtual 188, 3) := by decide +kernel
theorem dX12_pack_99 : decode cX12_pack 99 = .ok (.sipush (-2000), 3) := by decide +kernel
theorem dX12_pack_102 : decode cX12_pack 102 = .ok (.aload_n 0, 1) := by decide +kernel
theorem dX12_pack_103 : decode cX12_pack 103 = .ok (.getfield 53, 3) := by decide +kernel
theorem dX12_pack_106 : decode cX12_pack 106 = .ok (.iload_n 1, 1) := by decide +kernel
theorem dX12_pack_107 : decode cX12_pack 107 = .ok (.iaload, 1) := by decide +kernel
theorem dX12_pack_108 : decode cX12_pack 108 = .ok (.isub, 1) := by decide +kernel
theorem dX12_pack_109 : decode cX12_pack 109 = .ok (.ireturn, 1) := by decide +kernel
theorem dX12_pack_110 : decode cX12_pack 110 = .ok (.iinc 1 1, 3) := by decide +kernel
theorem dX12_pack_113 : decode cX12_pack 113 = .ok (.goto (-34), 3) := by decide +kernel
theorem dX12_pack_116 : decode cX12_pack 116 = .ok (.aload_n 0, 1) := by decide +kernel
theorem dX12_pack_117 : decode cX12_pack 117 = .ok (.getfield 159, 3) := by decide +kernel
theorem dX12_pack_120 : decode cX12_pack 120 = .ok (.ireturn, 1) := by decide +kernel
theorem dX12_ship_0 : decode cX12_ship 0 = .ok (.aload_n 0, 1) := by decide +kernel
theorem dX12_ship_1 : decode cX12_ship 1 = .ok (.iconst 0, 1) := by decide +kernel
theorem dX12_ship_2 : decode cX12_ship 2 = .ok (.putfield 65, 3) := by decide +kernel
theorem dX12_ship_5 : decode cX12_ship 5 = .ok (.aload_n 0, 1) := by decide +kernel
theorem dX12_ship_6 : decode cX12_ship 6 = .ok (.iload_n 1, 1) := by decide +kernel
theorem dX12_ship_7 : decode cX12_ship 7 = .ok (.invokevirtual 75, 3) := by decide +kernel
theorem dX12_ship_10 : decode cX12_ship 10 = .ok (.ifCond .eq 15, 3) := by decide +kernel
theorem dX12_ship_13 : decode cX12_ship 13 = .ok (.iload_n 2, 1) := by decide +kernel
theorem dX12_ship_14 : decode cX12_ship 14 = .ok (.i2l, 1) := by decide +kernel
theorem dX12_ship_15 : decode cX12_ship 15 = .ok (.lconst 0, 1) := by decide +kernel
theorem dX12_ship_16 : decode cX12_ship 16 = .ok (.ldc2_w 191, 3) := by decide +kernel
theorem dX12_ship_19 : decode cX12_ship 19 = .ok (.invokestatic 71, 3) := by decide +kernel
theorem dX12_ship_22 : decode cX12_ship 22 = .ok (.ifCond .ne 22, 3) := by decide +kernel
theorem dX12_ship_25 : decode cX12_ship 25 = .ok (.aload_n 0, 1) := by decide +kernel
theorem dX12_ship_26 : decode cX12_ship 26 = .ok (.aload_n 0, 1) := by decide +kernel
theorem dX12_ship_27 : decode cX12_ship 27 = .ok (.iload_n 1, 1) := by decide +kernel
theorem dX12_ship_28 : decode cX12_ship 28 = .ok (.invokevirtual 75, 3) := by decide +kernel
theorem dX12_ship_31 : decode cX12_ship 31 = .ok (.ifCond .eq 8, 3) := by decide +kernel
theorem dX12_ship_34 : decode cX12_ship 34 = .ok (.bipush (-2), 2) := by decide +kernel
theorem dX12_ship_36 : decode cX12_ship 36 = .ok (.goto 4, 3) := by decide +kernel
theorem dX12_ship_39 : decode cX12_ship 39 = .ok (.iconst (-1), 1) := by decide +kernel
theorem dX12_ship_40 : decode cX12_ship 40 = .ok (.invokevirtual 134, 3) := by decide +kernel
theorem dX12_ship_43 : decode cX12_ship 43 = .ok (.ireturn, 1) := by decide +kernel
theorem dX12_ship_44 : decode cX12_ship 44 = .ok (.aload_n 0, 1) := by decide +kernel
theorem dX12_ship_45 : decode cX12_ship 45 = .ok (.aload_n 0, 1) := by decide +kernel
theorem dX12_ship_46 : decode cX12_ship 46 = .ok (.getfield 23, 3) := by decide +kernel
theorem dX12_ship_49 : decode cX12_ship 49 = .ok (.iload_n 1, 1) := by decide +kernel
theorem dX12_ship_50 : decode cX12_ship 50 = .ok (.iaload, 1) := by decide +kernel
theorem dX12_ship_51 : decode cX12_ship 51 = .ok (.aload_n 0, 1) := by decide +kernel
theorem dX12_ship_52 : decode cX12_ship 52 = .ok (.getfield 26, 3) := by decide +kernel
theorem dX12_ship_55 : decode cX12_ship 55 = .ok (.iload_n 1, 1) := by decide +kernel
theorem dX12_ship_56 : decode cX12_ship 56 = .ok (.iaload, 1) := by decide +kernel
theorem dX12_ship_57 : decode cX12_ship 57 = .ok (.invokevirtual 92, 3) := by decide +kernel
theorem dX12_ship_60 : decode cX12_ship 60 = .ok (.iload_n 2, 1) := by decide +kernel
theorem dX12_ship_61 : decode cX12_ship 61 = .ok (.tableswitch 99 0 6 #[43, 50, 57, 64, 71, 81, 91], 43) := by decide +kernel
theorem dX12_ship_104 : decode cX12_ship 104 = .ok (.aload_n 0, 1) := by decide +kernel
theorem dX12_ship_105 : decode cX12_ship 105 = .ok (.getfield 23, 3) := by decide +kernel
theorem dX12_ship_108 : decode cX12_ship 108 = .ok (.iload_n 1, 1) := by decide +kernel
theorem dX12_ship_109 : decode cX12_ship 109 = .ok (.iaload, 1) := by decide +kernel
theorem dX12_ship_110 : decode cX12_ship 110 = .ok (.ireturn, 1) := by decide +kernel
theorem dX12_ship_111 : decode cX12_ship 111 = .ok (.aload_n 0, 1) := by decide +kernel
theorem dX12_ship_112 : decode cX12_ship 112 = .ok (.getfield 26, 3) := by decide +kernel
theorem dX12_ship_115 : decode cX12_ship 115 = .ok (.iload_n 1, 1) := by decide +kernel
theorem dX12_ship_116 : decode cX12_ship 116 = .ok (.iaload, 1) := by decide +kernel
theorem dX12_ship_117 : decode cX12_ship 117 = .ok (.ireturn, 1) := by decide +kernel
theorem dX12_ship_118 : decode cX12_ship 118 = .ok (.aload_n 0, 1) := by decide +kernel
theorem dX12_ship_119 : decode cX12_ship 119 = .ok (.getfield 29, 3) := by decide +kernel
theorem dX12_ship_122 : decode cX12_ship 122 = .ok (.iload_n 1, 1) := by decide +kernel
theorem dX12_ship_123 : decode cX12_ship 123 = .ok (.iaload, 1) := by decide +kernel
theorem dX12_ship_124 : decode cX12_ship 124 = .ok (.ireturn, 1) := by decide +kernel
theorem dX12_ship_125 : decode cX12_ship 125 = .ok (.aload_n 0, 1) := by decide +kernel
theorem dX12_ship_126 : decode cX12_ship 126 = .ok (.getfield 32, 3) := by decide +kernel
theorem dX12_ship_129 : decode cX12_ship 129 = .ok (.iload_n 1, 1) := by decide +kernel
theorem dX12_ship_130 : decode cX12_ship 130 = .ok (.iaload, 1) := by decide +kernel
theorem dX12_ship_131 : decode cX12_ship 131 = .ok (.ireturn, 1) := by decide +kernel
theorem dX12_ship_132 : decode cX12_ship 132 = .ok (.ldc 193, 2) := by decide +kernel
theorem dX12_ship_134 : decode cX12_ship 134 = .ok (.aload_n 0, 1) := by decide +kernel
theorem dX12_ship_135 : decode cX12_ship 135 = .ok (.getfield 35, 3) := by decide +kernel
theorem dX12_ship_138 : decode cX12_ship 138 = .ok (.iload_n 1, 1) := by decide +kernel
theorem dX12_ship_139 : decode cX12_ship 139 = .ok (.iaload, 1) := by decide +kernel
theorem dX12_ship_140 : decode cX12_ship 140 = .ok (.iadd, 1) := by decide +kernel
theorem dX12_ship_141 : decode cX12_ship 141 = .ok (.ireturn, 1) := by decide +kernel
theorem dX12_ship_142 : decode cX12_ship 142 = .ok (.ldc 193, 2) := by decide +kernel
theorem dX12_ship_144 : decode cX12_ship 144 = .ok (.aload_n 0, 1) := by decide +kernel
theorem dX12_ship_145 : decode cX12_ship 145 = .ok (.getfield 38, 3) := by decide +kernel
theorem dX12_ship_148 : decode cX12_ship 148 = .ok (.iload_n 1, 1) := by decide +kernel
theorem dX12_ship_149 : decode cX12_ship 149 = .ok (.iaload, 1) := by decide +kernel
theorem dX12_ship_150 : decode cX12_ship 150 = .ok (.iadd, 1) := by decide +kernel
theorem dX12_ship_151 : decode cX12_ship 151 = .ok (.ireturn, 1) := by decide +kernel
theorem dX12_ship_152 : decode cX12_ship 152 = .ok (.ldc 193, 2) := by decide +kernel
theorem dX12_ship_154 : decode cX12_ship 154 = .ok (.aload_n 0, 1) := by decide +kernel
theorem dX12_ship_155 : decode cX12_ship 155 = .ok (.getfield 82, 3) := by decide +kernel
theorem dX12_ship_158 : decode cX12_ship 158 = .ok (.iadd, 1) := by decide +kernel
theorem dX12_ship_159 : decode cX12_ship 159 = .ok (.ireturn, 1) := by decide +kernel
theorem dX12_ship_160 : decode cX12_ship 160 = .ok (.ldc 193, 2) := by decide +kernel
theorem dX12_ship_162 : decode cX12_ship 162 = .ok (.aload_n 0, 1) := by decide +kernel
theorem dX12_ship_163 : decode cX12_ship 163 = .ok (.getfield 85, 3) := by decide +kernel
theorem dX12_ship_166 : decode cX12_ship 166 = .ok (.iadd, 1) := by decide +kernel
theorem dX12_ship_167 : decode cX12_ship 167 = .ok (.ireturn, 1) := by decide +kernel
theorem dX12_windTold_0 : decode cX12_windTold 0 = .ok (.bipush 10, 2) := by decide +kernel
theorem dX12_windTold_2 : decode cX12_windTold 2 = .ok (.aload_n 0, 1) := by decide +kernel
theorem dX12_windTold_3 : decode cX12_windTold 3 = .ok (.getfield 16, 3) := by decide +kernel
theorem dX12_windTold_6 : decode cX12_windTold 6 = .ok (.iload_n 1, 1) := by decide +kernel
theorem dX12_windTold_7 : decode cX12_windTold 7 = .ok (.iaload, 1) := by decide +kernel
theorem dX12_windTold_8 : decode cX12_windTold 8 = .ok (.iconst 4, 1) := by decide +kernel
theorem dX12_windTold_9 : decode cX12_windTold 9 = .ok (.iadd, 1) := by decide +kernel
theorem dX12_windTold_10 : decode cX12_windTold 10 = .ok (.imul, 1) := by decide +kernel
theorem dX12_windTold_11 : decode cX12_windTold 11 = .ok (.aload_n 0, 1) := by decide +kernel
theorem dX12_windTold_12 : decode cX12_windTold 12 = .ok (.getfield 20, 3) := by decide +kernel
theorem dX12_windTold_15 : decode cX12_windTold 15 = .ok (.iload_n 1, 1) := by decide +kernel
theorem dX12_windTold_16 : decode cX12_windTold 16 = .ok (.iaload, 1) := by decide +kernel
theorem dX12_windTold_17 : decode cX12_windTold 17 = .ok (.iadd, 1) := by decide +kernel
theorem dX12_windTold_18 : decode cX12_windTold 18 = .ok (.iconst 4, 1) := by decide +kernel
theorem dX12_windTold_19 : decode cX12_windTold 19 = .ok (.iadd, 1) := by decide +kernel
theorem dX12_windTold_20 : decode cX12_windTold 20 = .ok (.ireturn, 1) := by decide +kernel
theorem dX12_wind_0 : decode cX12_wind 0 = .ok (.aload_n 0, 1) := by decide +kernel
theorem dX12_wind_1 : decode cX12_wind 1 = .ok (.iconst 0, 1) := by decide +kernel
theorem dX12_wind_2 : decode cX12_wind 2 = .ok (.putfield 65, 3) := by decide +kernel
theorem dX12_wind_5 : decode cX12_wind 5 = .ok (.iload_n 1, 1) := by decide +kernel
theorem dX12_wind_6 : decode cX12_wind 6 = .ok (.i2l, 1) := by decide +kernel
theorem dX12_wind_7 : decode cX12_wind 7 = .ok (.lconst 0, 1) := by decide +kernel
theorem dX12_wind_8 : decode cX12_wind 8 = .ok (.ldc2_w 194, 3) := by decide +kernel
theorem dX12_wind_11 : decode cX12_wind 11 = .ok (.invokestatic 71, 3) := by decide +kernel
theorem dX12_wind_14 : decode cX12_wind 14 = .ok (.ifCond .eq 11, 3) := by decide +kernel
theorem dX12_wind_17 : decode cX12_wind 17 = .ok (.aload_n 0, 1) := by decide +kernel
theorem dX12_wind_18 : decode cX12_wind 18 = .ok (.iload_n 1, 1) := by decide +kernel
theorem dX12_wind_19 : decode cX12_wind 19 = .ok (.invokevirtual 196, 3) := by decide +kernel
theorem dX12_wind_22 : decode cX12_wind 22 = .ok (.goto 8, 3) := by decide +kernel
theorem dX12_wind_25 : decode cX12_wind 25 = .ok (.aload_n 0, 1) := by decide +kernel
theorem dX12_wind_26 : decode cX12_wind 26 = .ok (.iconst (-1), 1) := by decide +kernel
theorem dX12_wind_27 : decode cX12_wind 27 = .ok (.invokevirtual 134, 3) := by decide +kernel
theorem dX12_wind_30 : decode cX12_wind 30 = .ok (.ireturn, 1) := by decide +kernel
theorem dX12_blow_0 : decode cX12_blow 0 = .ok (.aload_n 0, 1) := by decide +kernel
theorem dX12_blow_1 : decode cX12_blow 1 = .ok (.iconst 0, 1) := by decide +kernel
theorem dX12_blow_2 : decode cX12_blow 2 = .ok (.putfield 65, 3) := by decide +kernel
theorem dX12_blow_5 : decode cX12_blow 5 = .ok (.iload_n 1, 1) := by decide +kernel
theorem dX12_blow_6 : decode cX12_blow 6 = .ok (.i2l, 1) := by decide +kernel
theorem dX12_blow_7 : decode cX12_blow 7 = .ok (.lconst 0, 1) := by decide +kernel
theorem dX12_blow_8 : decode cX12_blow 8 = .ok (.ldc2_w 194, 3) := by decide +kernel
theorem dX12_blow_11 : decode cX12_blow 11 = .ok (.invokestatic 71, 3) := by decide +kernel
theorem dX12_blow_14 : decode cX12_blow 14 = .ok (.ifCond .ne 7, 3) := by decide +kernel
theorem dX12_blow_17 : decode cX12_blow 17 = .ok (.iconst (-1), 1) := by decide +kernel
theorem dX12_blow_18 : decode cX12_blow 18 = .ok (.goto 36, 3) := by decide +kernel
theorem dX12_blow_21 : decode cX12_blow 21 = .ok (.iload_n 2, 1) := by decide +kernel
theorem dX12_blow_22 : decode cX12_blow 22 = .ok (.bipush (-4), 2) := by decide +kernel
theorem dX12_blow_24 : decode cX12_blow 24 = .ok (.if_icmp .lt 9, 3) := by decide +kernel
theorem dX12_blow_27 : decode cX12_blow 27 = .ok (.iload_n 3, 1) := by decide +kernel
theorem dX12_blow_28 : decode cX12_blow 28 = .ok (.bipush (-4), 2) := by decide +kernel
theorem dX12_blow_30 : decode cX12_blow 30 = .ok (.if_icmp .ge 8, 3) := by decide +kernel
theorem dX12_blow_33 : decode cX12_blow 33 = .ok (.bipush (-4), 2) := by decide +kernel
theorem dX12_blow_35 : decode cX12_blow 35 = .ok (.goto 19, 3) := by decide +kernel
theorem dX12_blow_38 : decode cX12_blow 38 = .ok (.iload_n 2, 1) := by decide +kernel
theorem dX12_blow_39 : decode cX12_blow 39 = .ok (.iconst 4, 1) := by decide +kernel
theorem dX12_blow_40 : decode cX12_blow 40 = .ok (.if_icmp .gt 8, 3) := by decide +kernel
theorem dX12_blow_43 : decode cX12_blow 43 = .ok (.iload_n 3, 1) := by decide +kernel
theorem dX12_blow_44 : decode cX12_blow 44 = .ok (.iconst 4, 1) := by decide +kernel
theorem dX12_blow_45 : decode cX12_blow 45 = .ok (.if_icmp .le 8, 3) := by decide +kernel
theorem dX12_blow_48 : decode cX12_blow 48 = .ok (.bipush (-6), 2) := by decide +kernel
theorem dX12_blow_50 : decode cX12_blow 50 = .ok (.goto 4, 3) := by decide +kernel
theorem dX12_blow_53 : decode cX12_blow 53 = .ok (.iconst 0, 1) := by decide +kernel
theorem dX12_blow_54 : decode cX12_blow 54 = .ok (.istore 4, 2) := by decide +kernel
theorem dX12_blow_56 : decode cX12_blow 56 = .ok (.iload 4, 2) := by decide +kernel
theorem dX12_blow_58 : decode cX12_blow 58 = .ok (.ifCond .ge 10, 3) := by decide +kernel
theorem dX12_blow_61 : decode cX12_blow 61 = .ok (.aload_n 0, 1) := by decide +kernel
theorem dX12_blow_62 : decode cX12_blow 62 = .ok (.iload 4, 2) := by decide +kernel
theorem dX12_blow_64 : decode cX12_blow 64 = .ok (.invokevirtual 134, 3) := by decide +kernel
theorem dX12_blow_67 : decode cX12_blow 67 = .ok (.ireturn, 1) := by decide +kernel
theorem dX12_blow_68 : decode cX12_blow 68 = .ok (.aload_n 0, 1) := by decide +kernel
theorem dX12_blow_69 : decode cX12_blow 69 = .ok (.iload_n 1, 1) := by decide +kernel
theorem dX12_blow_70 : decode cX12_blow 70 = .ok (.invokevirtual 196, 3) := by decide +kernel
theorem dX12_blow_73 : decode cX12_blow 73 = .ok (.istore 5, 2) := by decide +kernel
theorem dX12_blow_75 : decode cX12_blow 75 = .ok (.aload_n 0, 1) := by decide +kernel
theorem dX12_blow_76 : decode cX12_blow 76 = .ok (.getfield 16, 3) := by decide +kernel
theorem dX12_blow_79 : decode cX12_blow 79 = .ok (.iload_n 1, 1) := by decide +kernel
theorem dX12_blow_80 : decode cX12_blow 80 = .ok (.iload_n 2, 1) := by decide +kernel
theorem dX12_blow_81 : decode cX12_blow 81 = .ok (.iastore, 1) := by decide +kernel
theorem dX12_blow_82 : decode cX12_blow 82 = .ok (.aload_n 0, 1) := by decide +kernel
theorem dX12_blow_83 : decode cX12_blow 83 = .ok (.getfield 20, 3) := by decide +kernel
theorem dX12_blow_86 : decode cX12_blow 86 = .ok (.iload_n 1, 1) := by decide +kernel
theorem dX12_blow_87 : decode cX12_blow 87 = .ok (.iload_n 3, 1) := by decide +kernel
theorem dX12_blow_88 : decode cX12_blow 88 = .ok (.iastore, 1) := by decide +kernel
theorem dX12_blow_89 : decode cX12_blow 89 = .ok (.iload 5, 2) := by decide +kernel
theorem dX12_blow_91 : decode cX12_blow 91 = .ok (.ireturn, 1) := by decide +kernel
theorem dX12_set_0 : decode cX12_set 0 = .ok (.aload_n 0, 1) := by decide +kernel
theorem dX12_set_1 : decode cX12_set 1 = .ok (.iconst 0, 1) := by decide +kernel
theorem dX12_set_2 : decode cX12_set 2 = .ok (.putfield 65, 3) := by decide +kernel
theorem dX12_set_5 : decode cX12_set 5 = .ok (.iload_n 1, 1) := by decide +kernel
theorem dX12_set_6 : decode cX12_set 6 = .ok (.i2l, 1) := by decide +kernel
theorem dX12_set_7 : decode cX12_set 7 = .ok (.lconst 0, 1) := by decide +kernel
theorem dX12_set_8 : decode cX12_set 8 = .ok (.lconst 1, 1) := by decide +kernel
theorem dX12_set_9 : decode cX12_set 9 = .ok (.invokestatic 71, 3) := by decide +kernel
theorem dX12_set_12 : decode cX12_set 12 = .ok (.ifCond .ne 8, 3) := by decide +kernel
theorem dX12_set_15 : decode cX12_set 15 = .ok (.bipush (-2), 2) := by decide +kernel
theorem dX12_set_17 : decode cX12_set 17 = .ok (.goto 34, 3) := by decide +kernel
theorem dX12_set_20 : decode cX12_set 20 = .ok (.iload_n 2, 1) := by decide +kernel
theorem dX12_set_21 : decode cX12_set 21 = .ok (.iconst 1, 1) := by decide +kernel
theorem dX12_set_22 : decode cX12_set 22 = .ok (.if_icmp .ge 8, 3) := by decide +kernel
theorem dX12_set_25 : decode cX12_set 25 = .ok (.bipush (-4), 2) := by decide +kernel
theorem dX12_set_27 : decode cX12_set 27 = .ok (.goto 24, 3) := by decide +kernel
theorem dX12_set_30 : decode cX12_set 30 = .ok (.iload_n 2, 1) := by decide +kernel
theorem dX12_set_31 : decode cX12_set 31 = .ok (.iload_n 1, 1) := by decide +kernel
theorem dX12_set_32 : decode cX12_set 32 = .ok (.ifCond .ne 8, 3) := by decide +kernel
theorem dX12_set_35 : decode cX12_set 35 = .ok (.bipush 40, 2) := by decide +kernel
theorem dX12_set_37 : decode cX12_set 37 = .ok (.goto 5, 3) := by decide +kernel
theorem dX12_set_40 : decode cX12_set 40 = .ok (.bipush 99, 2) := by decide +kernel
theorem dX12_set_42 : decode cX12_set 42 = .ok (.if_icmp .le 8, 3) := by decide +kernel
theorem dX12_set_45 : decode cX12_set 45 = .ok (.bipush (-6), 2) := by decide +kernel
theorem dX12_set_47 : decode cX12_set 47 = .ok (.goto 4, 3) := by decide +kernel
theorem dX12_set_50 : decode cX12_set 50 = .ok (.iconst 0, 1) := by decide +kernel
theorem dX12_set_51 : decode cX12_set 51 = .ok (.istore_n 3, 1) := by decide +kernel
theorem dX12_set_52 : decode cX12_set 52 = .ok (.iload_n 3, 1) := by decide +kernel
theorem dX12_set_53 : decode cX12_set 53 = .ok (.ifCond .ge 9, 3) := by decide +kernel
theorem dX12_set_56 : decode cX12_set 56 = .ok (.aload_n 0, 1) := by decide +kernel
theorem dX12_set_57 : decode cX12_set 57 = .ok (.iload_n 3, 1) := by decide +kernel
theorem dX12_set_58 : decode cX12_set 58 = .ok (.invokevirtual 134, 3) := by decide +kernel
theorem dX12_set_61 : decode cX12_set 61 = .ok (.ireturn, 1) := by decide +kernel
theorem dX12_set_62 : decode cX12_set 62 = .ok (.iload_n 1, 1) := by decide +kernel
theorem dX12_set_63 : decode cX12_set 63 = .ok (.ifCond .ne 10, 3) := by decide +kernel
theorem dX12_set_66 : decode cX12_set 66 = .ok (.aload_n 0, 1) := by decide +kernel
theorem dX12_set_67 : decode cX12_set 67 = .ok (.getfield 7, 3) := by decide +kernel
theorem dX12_set_70 : decode cX12_set 70 = .ok (.goto 7, 3) := by decide +kernel
theorem dX12_set_73 : decode cX12_set 73 = .ok (.aload_n 0, 1) := by decide +kernel
theorem dX12_set_74 : decode cX12_set 74 = .ok (.getfield 13, 3) := by decide +kernel
theorem dX12_set_77 : decode cX12_set 77 = .ok (.istore 4, 2) := by decide +kernel
theorem dX12_set_79 : decode cX12_set 79 = .ok (.aload_n 0, 1) := by decide +kernel
theorem dX12_set_80 : decode cX12_set 80 = .ok (.iload_n 1, 1) := by decide +kernel
theorem dX12_set_81 : decode cX12_set 81 = .ok (.ifCond .ne 7, 3) := by decide +kernel
theorem dX12_set_84 : decode cX12_set 84 = .ok (.iload_n 2, 1) := by decide +kernel
theorem dX12_set_85 : decode cX12_set 85 = .ok (.goto 7, 3) := by decide +kernel
theorem dX12_set_88 : decode cX12_set 88 = .ok (.aload_n 0, 1) := by decide +kernel
theorem dX12_set_89 : decode cX12_set 89 = .ok (.getfield 7, 3) := by decide +kernel
theorem dX12_set_92 : decode cX12_set 92 = .ok (.putfield 7, 3) := by decide +kernel
theorem dX12_set_95 : decode cX12_set 95 = .ok (.aload_n 0, 1) := by decide +kernel
theorem dX12_set_96 : decode cX12_set 96 = .ok (.iload_n 1, 1) := by decide +kernel
theorem dX12_set_97 : decode cX12_set 97 = .ok (.iconst 1, 1) := by decide +kernel
theorem dX12_set_98 : decode cX12_set 98 = .ok (.if_icmp .ne 7, 3) := by decide +kernel
theorem dX12_set_101 : decode cX12_set 101 = .ok (.iload_n 2, 1) := by decide +kernel
theorem dX12_set_102 : decode cX12_set 102 = .ok (.goto 7, 3) := by decide +kernel
theorem dX12_set_105 : decode cX12_set 105 = .ok (.aload_n 0, 1) := by decide +kernel
theorem dX12_set_106 : decode cX12_set 106 = .ok (.getfield 13, 3) := by decide +kernel
theorem dX12_set_109 : decode cX12_set 109 = .ok (.putfield 13, 3) := by decide +kernel
theorem dX12_set_112 : decode cX12_set 112 = .ok (.iload 4, 2) := by decide +kernel
theorem dX12_set_114 : decode cX12_set 114 = .ok (.ireturn, 1) := by decide +kernel
theorem dX12_go_0 : decode cX12_go 0 = .ok (.aload_n 0, 1) := by decide +kernel
theorem dX12_go_1 : decode cX12_go 1 = .ok (.iconst 0, 1) := by decide +kernel
theorem dX12_go_2 : decode cX12_go 2 = .ok (.putfield 65, 3) := by decide +kernel
theorem dX12_go_5 : decode cX12_go 5 = .ok (.iload_n 1, 1) := by decide +kernel
theorem dX12_go_6 : decode cX12_go 6 = .ok (.iconst 1, 1) := by decide +kernel
theorem dX12_go_7 : decode cX12_go 7 = .ok (.if_icmp .lt 21, 3) := by decide +kernel
theorem dX12_go_10 : decode cX12_go 10 = .ok (.iload_n 1, 1) := by decide +kernel
theorem dX12_go_11 : decode cX12_go 11 = .ok (.bipush 60, 2) := by decide +kernel
theorem dX12_go_13 : decode cX12_go 13 = .ok (.if_icmp .gt 15, 3) := by decide +kernel
theorem dX12_go_16 : decode cX12_go 16 = .ok (.aload_n 0, 1) := by decide +kernel
theorem dX12_go_17 : decode cX12_go 17 = .ok (.getfield 79, 3) := by decide +kernel
theorem dX12_go_20 : decode cX12_go 20 = .ok (.iload_n 1, 1) := by decide +kernel
theorem dX12_go_21 : decode cX12_go 21 = .ok (.iadd, 1) := by decide +kernel
theorem dX12_go_22 : decode cX12_go 22 = .ok (.sipush 9999, 3) := by decide +kernel
theorem dX12_go_25 : decode cX12_go 25 = .ok (.if_icmp .le 20, 3) := by decide +kernel
theorem dX12_go_28 : decode cX12_go 28 = .ok (.aload_n 0, 1) := by decide +kernel
theorem dX12_go_29 : decode cX12_go 29 = .ok (.iload_n 1, 1) := by decide +kernel
theorem dX12_go_30 : decode cX12_go 30 = .ok (.iconst 1, 1) := by decide +kernel
theorem dX12_go_31 : decode cX12_go 31 = .ok (.if_icmp .ge 8, 3) := by decide +kernel
theorem dX12_go_34 : decode cX12_go 34 = .ok (.bipush (-4), 2) := by decide +kernel
theorem dX12_go_36 : decode cX12_go 36 = .ok (.goto 5, 3) := by decide +kernel
theorem dX12_go_39 : decode cX12_go 39 = .ok (.bipush (-6), 2) := by decide +kernel
theorem dX12_go_41 : decode cX12_go 41 = .ok (.invokevirtual 134, 3) := by decide +kernel
theorem dX12_go_44 : decode cX12_go 44 = .ok (.ireturn, 1) := by decide +kernel
theorem dX12_go_45 : decode cX12_go 45 = .ok (.aload_n 0, 1) := by decide +kernel
theorem dX12_go_46 : decode cX12_go 46 = .ok (.iload_n 1, 1) := by decide +kernel
theorem dX12_go_47 : decode cX12_go 47 = .ok (.invokevirtual 199, 3) := by decide +kernel
theorem dX12_go_50 : decode cX12_go 50 = .ok (.istore_n 2, 1) := by decide +kernel
theorem dX12_go_51 : decode cX12_go 51 = .ok (.aload_n 0, 1) := by decide +kernel
theorem dX12_go_52 : decode cX12_go 52 = .ok (.dup, 1) := by decide +kernel
theorem dX12_go_53 : decode cX12_go 53 = .ok (.getfield 124, 3) := by decide +kernel
theorem dX12_go_56 : decode cX12_go 56 = .ok (.iload_n 2, 1) := by decide +kernel
theorem dX12_go_57 : decode cX12_go 57 = .ok (.iadd, 1) := by decide +kernel
theorem dX12_go_58 : decode cX12_go 58 = .ok (.putfield 124, 3) := by decide +kernel
theorem dX12_go_61 : decode cX12_go 61 = .ok (.iload_n 2, 1) := by decide +kernel
theorem dX12_go_62 : decode cX12_go 62 = .ok (.ireturn, 1) := by decide +kernel
theorem dX12_far_0 : decode cX12_far 0 = .ok (.aload_n 0, 1) := by decide +kernel
theorem dX12_far_1 : decode cX12_far 1 = .ok (.iconst 0, 1) := by decide +kernel
theorem dX12_far_2 : decode cX12_far 2 = .ok (.putfield 65, 3) := by decide +kernel
theorem dX12_far_5 : decode cX12_far 5 = .ok (.aload_n 0, 1) := by decide +kernel
theorem dX12_far_6 : decode cX12_far 6 = .ok (.iload_n 1, 1) := by decide +kernel
theorem dX12_far_7 : decode cX12_far 7 = .ok (.iload_n 2, 1) := by decide +kernel
theorem dX12_far_8 : decode cX12_far 8 = .ok (.invokevirtual 202, 3) := by decide +kernel
theorem dX12_far_11 : decode cX12_far 11 = .ok (.ifCond .eq 12, 3) := by decide +kernel
theorem dX12_far_14 : decode cX12_far 14 = .ok (.aload_n 0, 1) := by decide +kernel
theorem dX12_far_15 : decode cX12_far 15 = .ok (.iload_n 1, 1) := by decide +kernel
theorem dX12_far_16 : decode cX12_far 16 = .ok (.iload_n 2, 1) := by decide +kernel
theorem dX12_far_17 : decode cX12_far 17 = .ok (.invokevirtual 107, 3) := by decide +kernel
theorem dX12_far_20 : decode cX12_far 20 = .ok (.goto 8, 3) := by decide +kernel
theorem dX12_far_23 : decode cX12_far 23 = .ok (.aload_n 0, 1) := by decide +kernel
theorem dX12_far_24 : decode cX12_far 24 = .ok (.iconst (-1), 1) := by decide +kernel
theorem dX12_far_25 : decode cX12_far 25 = .ok (.invokevirtual 134, 3) := by decide +kernel
theorem dX12_far_28 : decode cX12_far 28 = .ok (.ireturn, 1) := by decide +kernel
theorem dX12_open_0 : decode cX12_open 0 = .ok (.aload_n 0, 1) := by decide +kernel
theorem dX12_open_1 : decode cX12_open 1 = .ok (.iconst 0, 1) := by decide +kernel
theorem dX12_open_2 : decode cX12_open 2 = .ok (.putfield 65, 3) := by decide +kernel
theorem dX12_open_5 : decode cX12_open 5 = .ok (.aload_n 0, 1) := by decide +kernel
theorem dX12_open_6 : decode cX12_open 6 = .ok (.iload_n 1, 1) := by decide +kernel
theorem dX12_open_7 : decode cX12_open 7 = .ok (.iload_n 2, 1) := by decide +kernel
theorem dX12_open_8 : decode cX12_open 8 = .ok (.invokevirtual 202, 3) := by decide +kernel
theorem dX12_open_11 : decode cX12_open 11 = .ok (.ifCond .eq 15, 3) := by decide +kernel
theorem dX12_open_14 : decode cX12_open 14 = .ok (.iload_n 3, 1) := by decide +kernel
theorem dX12_open_15 : decode cX12_open 15 = .ok (.i2l, 1) := by decide +kernel
theorem dX12_open_16 : decode cX12_open 16 = .ok (.lconst 0, 1) := by decide +kernel
theorem dX12_open_17 : decode cX12_open 17 = .ok (.ldc2_w 206, 3) := by decide +kernel
theorem dX12_open_20 : decode cX12_open 20 = .ok (.invokestatic 71, 3) := by decide +kernel
theorem dX12_open_23 : decode cX12_open 23 = .ok (.ifCond .ne 23, 3) := by decide +kernel
theorem dX12_open_26 : decode cX12_open 26 = .ok (.aload_n 0, 1) := by decide +kernel
theorem dX12_open_27 : decode cX12_open 27 = .ok (.aload_n 0, 1) := by decide +kernel
theorem dX12_open_28 : decode cX12_open 28 = .ok (.iload_n 1, 1) := by decide +kernel
theorem dX12_open_29 : decode cX12_open 29 = .ok (.iload_n 2, 1) := by decide +kernel
theorem dX12_open_30 : decode cX12_open 30 = .ok (.invokevirtual 202, 3) := by decide +kernel
theorem dX12_open_33 : decode cX12_open 33 = .ok (.ifCond .eq 8, 3) := by decide +kernel
theorem dX12_open_36 : decode cX12_open 36 = .ok (.bipush (-2), 2) := by decide +kernel
theorem dX12_open_38 : decode cX12_open 38 = .ok (.goto 4, 3) := by decide +kernel
theorem dX12_open_41 : decode cX12_open 41 = .ok (.iconst (-1), 1) := by decide +kernel
theorem dX12_open_42 : decode cX12_open 42 = .ok (.invokevirtual 134, 3) := by decide +kernel
theorem dX12_open_45 : decode cX12_open 45 = .ok (.ireturn, 1) := by decide +kernel
theorem dX12_open_46 : decode cX12_open 46 = .ok (.aload_n 0, 1) := by decide +kernel
theorem dX12_open_47 : decode cX12_open 47 = .ok (.iload_n 1, 1) := by decide +kernel
theorem dX12_open_48 : decode cX12_open 48 = .ok (.iload_n 2, 1) := by decide +kernel
theorem dX12_open_49 : decode cX12_open 49 = .ok (.invokevirtual 107, 3) := by decide +kernel
theorem dX12_open_52 : decode cX12_open 52 = .ok (.iload_n 3, 1) := by decide +kernel
theorem dX12_open_53 : decode cX12_open 53 = .ok (.ifCond .ne 10, 3) := by decide +kernel
theorem dX12_open_56 : decode cX12_open 56 = .ok (.aload_n 0, 1) := by decide +kernel
theorem dX12_open_57 : decode cX12_open 57 = .ok (.getfield 7, 3) := by decide +kernel
theorem dX12_open_60 : decode cX12_open 60 = .ok (.goto 16, 3) := by decide +kernel
theorem dX12_open_63 : decode cX12_open 63 = .ok (.iload_n 3, 1) := by decide +kernel
theorem dX12_open_64 : decode cX12_open 64 = .ok (.iconst 1, 1) := by decide +kernel
theorem dX12_open_65 : decode cX12_open 65 = .ok (.if_icmp .ne 7, 3) := by decide +kernel
theorem dX12_open_68 : decode cX12_open 68 = .ok (.iconst 1, 1) := by decide +kernel
theorem dX12_open_69 : decode cX12_open 69 = .ok (.goto 7, 3) := by decide +kernel
theorem dX12_open_72 : decode cX12_open 72 = .ok (.aload_n 0, 1) := by decide +kernel
theorem dX12_open_73 : decode cX12_open 73 = .ok (.getfield 13, 3) := by decide +kernel
theorem dX12_open_76 : decode cX12_open 76 = .ok (.if_icmp .gt 7, 3) := by decide +kernel
theorem dX12_open_79 : decode cX12_open 79 = .ok (.iconst 1, 1) := by decide +kernel
theorem dX12_open_80 : decode cX12_open 80 = .ok (.goto 4, 3) := by decide +kernel
theorem dX12_open_83 : decode cX12_open 83 = .ok (.iconst 0, 1) := by decide +kernel
theorem dX12_open_84 : decode cX12_open 84 = .ok (.ireturn, 1) := by decide +kernel
theorem dX12_wrongDays_0 : decode cX12_wrongDays 0 = .ok (.iload_n 0, 1) := by decide +kernel
theorem dX12_wrongDays_1 : decode cX12_wrongDays 1 = .ok (.ifCond .ge 8, 3) := by decide +kernel
theorem dX12_wrongDays_4 : decode cX12_wrongDays 4 = .ok (.bipush (-4), 2) := by decide +kernel
theorem dX12_wrongDays_6 : decode cX12_wrongDays 6 = .ok (.goto 14, 3) := by decide +kernel
theorem dX12_wrongDays_9 : decode cX12_wrongDays 9 = .ok (.iload_n 0, 1) := by decide +kernel
theorem dX12_wrongDays_10 : decode cX12_wrongDays 10 = .ok (.iload_n 1, 1) := by decide +kernel
theorem dX12_wrongDays_11 : decode cX12_wrongDays 11 = .ok (.if_icmp .le 8, 3) := by decide +kernel
theorem dX12_wrongDays_14 : decode cX12_wrongDays 14 = .ok (.bipush (-6), 2) := by decide +kernel
theorem dX12_wrongDays_16 : decode cX12_wrongDays 16 = .ok (.goto 4, 3) := by decide +kernel
theorem dX12_wrongDays_19 : decode cX12_wrongDays 19 = .ok (.iconst 0, 1) := by decide +kernel
theorem dX12_wrongDays_20 : decode cX12_wrongDays 20 = .ok (.ireturn, 1) := by decide +kernel
theorem dX12_behind_0 : decode cX12_behind 0 = .ok (.aload_n 0, 1) := by decide +kernel
theorem dX12_behind_1 : decode cX12_behind 1 = .ok (.iconst 0, 1) := by decide +kernel
theorem dX12_behind_2 : decode cX12_behind 2 = .ok (.putfield 65, 3) := by decide +kernel
theorem dX12_behind_5 : decode cX12_behind 5 = .ok (.aload_n 0, 1) := by decide +kernel
theorem dX12_behind_6 : decode cX12_behind 6 = .ok (.iload_n 1, 1) := by decide +kernel
theorem dX12_behind_7 : decode cX12_behind 7 = .ok (.invokevirtual 75, 3) := by decide +kernel
theorem dX12_behind_10 : decode cX12_behind 10 = .ok (.ifCond .eq 12, 3) := by decide +kernel
theorem dX12_behind_13 : decode cX12_behind 13 = .ok (.iload_n 2, 1) := by decide +kernel
theorem dX12_behind_14 : decode cX12_behind 14 = .ok (.bipush 60, 2) := by decide +kernel
theorem dX12_behind_16 : decode cX12_behind 16 = .ok (.invokestatic 208, 3) := by decide +kernel
theorem dX12_behind_19 : decode cX12_behind 19 = .ok (.goto 4, 3) := by decide +kernel
theorem dX12_behind_22 : decode cX12_behind 22 = .ok (.iconst (-1), 1) := by decide +kernel
theorem dX12_behind_23 : decode cX12_behind 23 = .ok (.istore_n 3, 1) := by decide +kernel
theorem dX12_behind_24 : decode cX12_behind 24 = .ok (.iload_n 3, 1) := by decide +kernel
theorem dX12_behind_25 : decode cX12_behind 25 = .ok (.ifCond .ge 14, 3) := by decide +kernel
theorem dX12_behind_28 : decode cX12_behind 28 = .ok (.ldc2_w 211, 3) := by decide +kernel
theorem dX12_behind_31 : decode cX12_behind 31 = .ok (.aload_n 0, 1) := by decide +kernel
theorem dX12_behind_32 : decode cX12_behind 32 = .ok (.iload_n 3, 1) := by decide +kernel
theorem dX12_behind_33 : decode cX12_behind 33 = .ok (.invokevirtual 134, 3) := by decide +kernel
theorem dX12_behind_36 : decode cX12_behind 36 = .ok (.i2l, 1) := by decide +kernel
theorem dX12_behind_37 : decode cX12_behind 37 = .ok (.lsub, 1) := by decide +kernel
theorem dX12_behind_38 : decode cX12_behind 38 = .ok (.lreturn, 1) := by decide +kernel
theorem dX12_behind_39 : decode cX12_behind 39 = .ok (.aload_n 0, 1) := by decide +kernel
theorem dX12_behind_40 : decode cX12_behind 40 = .ok (.invokevirtual 182, 3) := by decide +kernel
theorem dX12_behind_43 : decode cX12_behind 43 = .ok (.aload_n 0, 1) := by decide +kernel
theorem dX12_behind_44 : decode cX12_behind 44 = .ok (.getfield 35, 3) := by decide +kernel
theorem dX12_behind_47 : decode cX12_behind 47 = .ok (.iload_n 1, 1) := by decide +kernel
theorem dX12_behind_48 : decode cX12_behind 48 = .ok (.iaload, 1) := by decide +kernel
theorem dX12_behind_49 : decode cX12_behind 49 = .ok (.istore 4, 2) := by decide +kernel
theorem dX12_behind_51 : decode cX12_behind 51 = .ok (.aload_n 0, 1) := by decide +kernel
theorem dX12_behind_52 : decode cX12_behind 52 = .ok (.getfield 38, 3) := by decide +kernel
theorem dX12_behind_55 : decode cX12_behind 55 = .ok (.iload_n 1, 1) := by decide +kernel
theorem dX12_behind_56 : decode cX12_behind 56 = .ok (.iaload, 1) := by decide +kernel
theorem dX12_behind_57 : decode cX12_behind 57 = .ok (.istore 5, 2) := by decide +kernel
theorem dX12_behind_59 : decode cX12_behind 59 = .ok (.aload_n 0, 1) := by decide +kernel
theorem dX12_behind_60 : decode cX12_behind 60 = .ok (.iload_n 2, 1) := by decide +kernel
theorem dX12_behind_61 : decode cX12_behind 61 = .ok (.invokevirtual 199, 3) := by decide +kernel
theorem dX12_behind_64 : decode cX12_behind 64 = .ok (.pop, 1) := by decide +kernel
theorem dX12_behind_65 : decode cX12_behind 65 = .ok (.ldc2_w 213, 3) := by decide +kernel
theorem dX12_behind_68 : decode cX12_behind 68 = .ok (.aload_n 0, 1) := by decide +kernel
theorem dX12_behind_69 : decode cX12_behind 69 = .ok (.getfield 35, 3) := by decide +kernel
theorem dX12_behind_72 : decode cX12_behind 72 = .ok (.iload_n 1, 1) := by decide +kernel
theorem dX12_behind_73 : decode cX12_behind 73 = .ok (.iaload, 1) := by decide +kernel
theorem dX12_behind_74 : decode cX12_behind 74 = .ok (.iload 4, 2) := by decide +kernel
theorem dX12_behind_76 : decode cX12_behind 76 = .ok (.isub, 1) := by decide +kernel
theorem dX12_behind_77 : decode cX12_behind 77 = .ok (.i2l, 1) := by decide +kernel
theorem dX12_behind_78 : decode cX12_behind 78 = .ok (.lmul, 1) := by decide +kernel
theorem dX12_behind_79 : decode cX12_behind 79 = .ok (.aload_n 0, 1) := by decide +kernel
theorem dX12_behind_80 : decode cX12_behind 80 = .ok (.getfield 38, 3) := by decide +kernel
theorem dX12_behind_83 : decode cX12_behind 83 = .ok (.iload_n 1, 1) := by decide +kernel
theorem dX12_behind_84 : decode cX12_behind 84 = .ok (.iaload, 1) := by decide +kernel
theorem dX12_behind_85 : decode cX12_behind 85 = .ok (.iload 5, 2) := by decide +kernel
theorem dX12_behind_87 : decode cX12_behind 87 = .ok (.isub, 1) := by decide +kernel
theorem dX12_behind_88 : decode cX12_behind 88 = .ok (.i2l, 1) := by decide +kernel
theorem dX12_behind_89 : decode cX12_behind 89 = .ok (.ladd, 1) := by decide +kernel
theorem dX12_behind_90 : decode cX12_behind 90 = .ok (.lstore 6, 2) := by decide +kernel
theorem dX12_behind_92 : decode cX12_behind 92 = .ok (.aload_n 0, 1) := by decide +kernel
theorem dX12_behind_93 : decode cX12_behind 93 = .ok (.invokevirtual 188, 3) := by decide +kernel
theorem dX12_behind_96 : decode cX12_behind 96 = .ok (.lload 6, 2) := by decide +kernel
theorem dX12_behind_98 : decode cX12_behind 98 = .ok (.lreturn, 1) := by decide +kernel
theorem dX12_meet_0 : decode cX12_meet 0 = .ok (.aload_n 0, 1) := by decide +kernel
theorem dX12_meet_1 : decode cX12_meet 1 = .ok (.iconst 0, 1) := by decide +kernel
theorem dX12_meet_2 : decode cX12_meet 2 = .ok (.putfield 65, 3) := by decide +kernel
theorem dX12_meet_5 : decode cX12_meet 5 = .ok (.aload_n 0, 1) := by decide +kernel
theorem dX12_meet_6 : decode cX12_meet 6 = .ok (.iload_n 1, 1) := by decide +kernel
theorem dX12_meet_7 : decode cX12_meet 7 = .ok (.iload_n 2, 1) := by decide +kernel
theorem dX12_meet_8 : decode cX12_meet 8 = .ok (.invokevirtual 202, 3) := by decide +kernel
theorem dX12_meet_11 : decode cX12_meet 11 = .ok (.ifCond .ne 9, 3) := by decide +kernel
theorem dX12_meet_14 : decode cX12_meet 14 = .ok (.aload_n 0, 1) := by decide +kernel
theorem dX12_meet_15 : decode cX12_meet 15 = .ok (.iconst (-1), 1) := by decide +kernel
theorem dX12_meet_16 : decode cX12_meet 16 = .ok (.invokevirtual 134, 3) := by decide +kernel
theorem dX12_meet_19 : decode cX12_meet 19 = .ok (.ireturn, 1) := by decide +kernel
theorem dX12_meet_20 : decode cX12_meet 20 = .ok (.aload_n 0, 1) := by decide +kernel
theorem dX12_meet_21 : decode cX12_meet 21 = .ok (.invokevirtual 182, 3) := by decide +kernel
theorem dX12_meet_24 : decode cX12_meet 24 = .ok (.bipush (-9), 2) := by decide +kernel
theorem dX12_meet_26 : decode cX12_meet 26 = .ok (.istore_n 3, 1) := by decide +kernel
theorem dX12_meet_27 : decode cX12_meet 27 = .ok (.iconst 0, 1) := by decide +kernel
theorem dX12_meet_28 : decode cX12_meet 28 = .ok (.istore 4, 2) := by decide +kernel
theorem dX12_meet_30 : decode cX12_meet 30 = .ok (.iload 4, 2) := by decide +kernel
theorem dX12_meet_32 : decode cX12_meet 32 = .ok (.bipush 60, 2) := by decide +kernel
theorem dX12_meet_34 : decode cX12_meet 34 = .ok (.if_icmp .gt 37, 3) := by decide +kernel
theorem dX12_meet_37 : decode cX12_meet 37 = .ok (.iload_n 3, 1) := by decide +kernel
theorem dX12_meet_38 : decode cX12_meet 38 = .ok (.ifCond .ge 33, 3) := by decide +kernel
theorem dX12_meet_41 : decode cX12_meet 41 = .ok (.aload_n 0, 1) := by decide +kernel
theorem dX12_meet_42 : decode cX12_meet 42 = .ok (.iload_n 1, 1) := by decide +kernel
theorem dX12_meet_43 : decode cX12_meet 43 = .ok (.iload_n 2, 1) := by decide +kernel
theorem dX12_meet_44 : decode cX12_meet 44 = .ok (.invokevirtual 107, 3) := by decide +kernel
theorem dX12_meet_47 : decode cX12_meet 47 = .ok (.iconst 1, 1) := by decide +kernel
theorem dX12_meet_48 : decode cX12_meet 48 = .ok (.if_icmp .gt 8, 3) := by decide +kernel
theorem dX12_meet_51 : decode cX12_meet 51 = .ok (.iload 4, 2) := by decide +kernel
theorem dX12_meet_53 : decode cX12_meet 53 = .ok (.goto 5, 3) := by decide +kernel
theorem dX12_meet_56 : decode cX12_meet 56 = .ok (.bipush (-9), 2) := by decide +kernel
theorem dX12_meet_58 : decode cX12_meet 58 = .ok (.istore_n 3, 1) := by decide +kernel
theorem dX12_meet_59 : decode cX12_meet 59 = .ok (.aload_n 0, 1) := by decide +kernel
theorem dX12_meet_60 : decode cX12_meet 60 = .ok (.iconst 1, 1) := by decide +kernel
theorem dX12_meet_61 : decode cX12_meet 61 = .ok (.invokevirtual 199, 3) := by decide +kernel
theorem dX12_meet_64 : decode cX12_meet 64 = .ok (.pop, 1) := by decide +kernel
theorem dX12_meet_65 : decode cX12_meet 65 = .ok (.iinc 4 1, 3) := by decide +kernel
theorem dX12_meet_68 : decode cX12_meet 68 = .ok (.goto (-38), 3) := by decide +kernel
theorem dX12_meet_71 : decode cX12_meet 71 = .ok (.aload_n 0, 1) := by decide +kernel
theorem dX12_meet_72 : decode cX12_meet 72 = .ok (.invokevirtual 188, 3) := by decide +kernel
theorem dX12_meet_75 : decode cX12_meet 75 = .ok (.iload_n 3, 1) := by decide +kernel
theorem dX12_meet_76 : decode cX12_meet 76 = .ok (.ireturn, 1) := by decide +kernel
theorem dX12_nearest_0 : decode cX12_nearest 0 = .ok (.aload_n 0, 1) := by decide +kernel
theorem dX12_nearest_1 : decode cX12_nearest 1 = .ok (.iconst 0, 1) := by decide +kernel
theorem dX12_nearest_2 : decode cX12_nearest 2 = .ok (.putfield 65, 3) := by decide +kernel
theorem dX12_nearest_5 : decode cX12_nearest 5 = .ok (.aload_n 0, 1) := by decide +kernel
theorem dX12_nearest_6 : decode cX12_nearest 6 = .ok (.iload_n 1, 1) := by decide +kernel
theorem dX12_nearest_7 : decode cX12_nearest 7 = .ok (.iload_n 2, 1) := by decide +kernel
theorem dX12_nearest_8 : decode cX12_nearest 8 = .ok (.invokevirtual 202, 3) := by decide +kernel
theorem dX12_nearest_11 : decode cX12_nearest 11 = .ok (.ifCond .eq 12, 3) := by decide +kernel
theorem dX12_nearest_14 : decode cX12_nearest 14 = .ok (.iload_n 3, 1) := by decide +kernel
theorem dX12_nearest_15 : decode cX12_nearest 15 = .ok (.bipush 60, 2) := by decide +kernel
theorem dX12_nearest_17 : decode cX12_nearest 17 = .ok (.invokestatic 208, 3) := by decide +kernel
theorem dX12_nearest_20 : decode cX12_nearest 20 = .ok (.goto 4, 3) := by decide +kernel
theorem dX12_nearest_23 : decode cX12_nearest 23 = .ok (.iconst (-1), 1) := by decide +kernel
theorem dX12_nearest_24 : decode cX12_nearest 24 = .ok (.istore 5, 2) := by decide +kernel
theorem dX12_nearest_26 : decode cX12_nearest 26 = .ok (.iload 5, 2) := by decide +kernel
theorem dX12_nearest_28 : decode cX12_nearest 28 = .ok (.ifCond .ne 19, 3) := by decide +kernel
theorem dX12_nearest_31 : decode cX12_nearest 31 = .ok (.iload 4, 2) := by decide +kernel
theorem dX12_nearest_33 : decode cX12_nearest 33 = .ok (.i2l, 1) := by decide +kernel
theorem dX12_nearest_34 : decode cX12_nearest 34 = .ok (.lconst 0, 1) := by decide +kernel
theorem dX12_nearest_35 : decode cX12_nearest 35 = .ok (.lconst 1, 1) := by decide +kernel
theorem dX12_nearest_36 : decode cX12_nearest 36 = .ok (.invokestatic 71, 3) := by decide +kernel
theorem dX12_nearest_39 : decode cX12_nearest 39 = .ok (.ifCond .ne 8, 3) := by decide +kernel
theorem dX12_nearest_42 : decode cX12_nearest 42 = .ok (.bipush (-2), 2) := by decide +kernel
theorem dX12_nearest_44 : decode cX12_nearest 44 = .ok (.goto 5, 3) := by decide +kernel
theorem dX12_nearest_47 : decode cX12_nearest 47 = .ok (.iload 5, 2) := by decide +kernel
theorem dX12_nearest_49 : decode cX12_nearest 49 = .ok (.istore 5, 2) := by decide +kernel
theorem dX12_nearest_51 : decode cX12_nearest 51 = .ok (.iload 5, 2) := by decide +kernel
theorem dX12_nearest_53 : decode cX12_nearest 53 = .ok (.ifCond .ge 10, 3) := by decide +kernel
theorem dX12_nearest_56 : decode cX12_nearest 56 = .ok (.aload_n 0, 1) := by decide +kernel
theorem dX12_nearest_57 : decode cX12_nearest 57 = .ok (.iload 5, 2) := by decide +kernel
theorem dX12_nearest_59 : decode cX12_nearest 59 = .ok (.invokevirtual 134, 3) := by decide +kernel
theorem dX12_nearest_62 : decode cX12_nearest 62 = .ok (.ireturn, 1) := by decide +kernel
theorem dX12_nearest_63 : decode cX12_nearest 63 = .ok (.aload_n 0, 1) := by decide +kernel
theorem dX12_nearest_64 : decode cX12_nearest 64 = .ok (.invokevirtual 182, 3) := by decide +kernel
theorem dX12_nearest_67 : decode cX12_nearest 67 = .ok (.iconst 0, 1) := by decide +kernel
theorem dX12_nearest_68 : decode cX12_nearest 68 = .ok (.istore 6, 2) := by decide +kernel
theorem dX12_nearest_70 : decode cX12_nearest 70 = .ok (.aload_n 0, 1) := by decide +kernel
theorem dX12_nearest_71 : decode cX12_nearest 71 = .ok (.iload_n 1, 1) := by decide +kernel
theorem dX12_nearest_72 : decode cX12_nearest 72 = .ok (.iload_n 2, 1) := by decide +kernel
theorem dX12_nearest_73 : decode cX12_nearest 73 = .ok (.invokevirtual 107, 3) := by decide +kernel
theorem dX12_nearest_76 : decode cX12_nearest 76 = .ok (.istore 7, 2) := by decide +kernel
theorem dX12_nearest_78 : decode cX12_nearest 78 = .ok (.iconst 1, 1) := by decide +kernel
theorem dX12_nearest_79 : decode cX12_nearest 79 = .ok (.istore 8, 2) := by decide +kernel
theorem dX12_nearest_81 : decode cX12_nearest 81 = .ok (.iload 8, 2) := by decide +kernel
theorem dX12_nearest_83 : decode cX12_nearest 83 = .ok (.iload_n 3, 1) := by decide +kernel
theorem dX12_nearest_84 : decode cX12_nearest 84 = .ok (.if_icmp .gt 55, 3) := by decide +kernel
theorem dX12_nearest_87 : decode cX12_nearest 87 = .ok (.aload_n 0, 1) := by decide +kernel
theorem dX12_nearest_88 : decode cX12_nearest 88 = .ok (.iconst 1, 1) := by decide +kernel
theorem dX12_nearest_89 : decode cX12_nearest 89 = .ok (.invokevirtual 199, 3) := by decide +kernel
theorem dX12_nearest_92 : decode cX12_nearest 92 = .ok (.pop, 1) := by decide +kernel
theorem dX12_nearest_93 : decode cX12_nearest 93 = .ok (.aload_n 0, 1) := by decide +kernel
theorem dX12_nearest_94 : decode cX12_nearest 94 = .ok (.iload_n 1, 1) := by decide +kernel
theorem dX12_nearest_95 : decode cX12_nearest 95 = .ok (.iload_n 2, 1) := by decide +kernel
theorem dX12_nearest_96 : decode cX12_nearest 96 = .ok (.invokevirtual 107, 3) := by decide +kernel
theorem dX12_nearest_99 : decode cX12_nearest 99 = .ok (.istore 9, 2) := by decide +kernel
theorem dX12_nearest_101 : decode cX12_nearest 101 = .ok (.iload 9, 2) := by decide +kernel
theorem dX12_nearest_103 : decode cX12_nearest 103 = .ok (.iload 7, 2) := by decide +kernel
theorem dX12_nearest_105 : decode cX12_nearest 105 = .ok (.if_icmp .ge 8, 3) := by decide +kernel
theorem dX12_nearest_108 : decode cX12_nearest 108 = .ok (.iload 8, 2) := by decide +kernel
theorem dX12_nearest_110 : decode cX12_nearest 110 = .ok (.goto 5, 3) := by decide +kernel
theorem dX12_nearest_113 : decode cX12_nearest 113 = .ok (.iload 6, 2) := by decide +kernel
theorem dX12_nearest_115 : decode cX12_nearest 115 = .ok (.istore 6, 2) := by decide +kernel
theorem dX12_nearest_117 : decode cX12_nearest 117 = .ok (.iload 9, 2) := by decide +kernel
theorem dX12_nearest_119 : decode cX12_nearest 119 = .ok (.iload 7, 2) := by decide +kernel
theorem dX12_nearest_121 : decode cX12_nearest 121 = .ok (.if_icmp .ge 8, 3) := by decide +kernel
theorem dX12_nearest_124 : decode cX12_nearest 124 = .ok (.iload 9, 2) := by decide +kernel
theorem dX12_nearest_126 : decode cX12_nearest 126 = .ok (.goto 5, 3) := by decide +kernel
theorem dX12_nearest_129 : decode cX12_nearest 129 = .ok (.iload 7, 2) := by decide +kernel
theorem dX12_nearest_131 : decode cX12_nearest 131 = .ok (.istore 7, 2) := by decide +kernel
theorem dX12_nearest_133 : decode cX12_nearest 133 = .ok (.iinc 8 1, 3) := by decide +kernel
theorem dX12_nearest_136 : decode cX12_nearest 136 = .ok (.goto (-55), 3) := by decide +kernel
theorem dX12_nearest_139 : decode cX12_nearest 139 = .ok (.aload_n 0, 1) := by decide +kernel
theorem dX12_nearest_140 : decode cX12_nearest 140 = .ok (.invokevirtual 188, 3) := by decide +kernel
theorem dX12_nearest_143 : decode cX12_nearest 143 = .ok (.iload 4, 2) := by decide +kernel
theorem dX12_nearest_145 : decode cX12_nearest 145 = .ok (.ifCond .ne 8, 3) := by decide +kernel
theorem dX12_nearest_148 : decode cX12_nearest 148 = .ok (.iload 6, 2) := by decide +kernel
theorem dX12_nearest_150 : decode cX12_nearest 150 = .ok (.goto 5, 3) := by decide +kernel
theorem dX12_nearest_153 : decode cX12_nearest 153 = .ok (.iload 7, 2) := by decide +kernel
theorem dX12_nearest_155 : decode cX12_nearest 155 = .ok (.ireturn, 1) := by decide +kernel
theorem dX12_reachOn_0 : decode cX12_reachOn 0 = .ok (.iload_n 1, 1) := by decide +kernel
theorem dX12_reachOn_1 : decode cX12_reachOn 1 = .ok (.istore_n 2, 1) := by decide +kernel
theorem dX12_reachOn_2 : decode cX12_reachOn 2 = .ok (.iconst 0, 1) := by decide +kernel
theorem dX12_reachOn_3 : decode cX12_reachOn 3 = .ok (.istore_n 3, 1) := by decide +kernel
theorem dX12_reachOn_4 : decode cX12_reachOn 4 = .ok (.iload_n 3, 1) := by decide +kernel
theorem dX12_reachOn_5 : decode cX12_reachOn 5 = .ok (.aload_n 0, 1) := by decide +kernel
theorem dX12_reachOn_6 : decode cX12_reachOn 6 = .ok (.getfield 68, 3) := by decide +kernel
theorem dX12_reachOn_9 : decode cX12_reachOn 9 = .ok (.if_icmp .ge 57, 3) := by decide +kernel
theorem dX12_reachOn_12 : decode cX12_reachOn 12 = .ok (.iconst 0, 1) := by decide +kernel
theorem dX12_reachOn_13 : decode cX12_reachOn 13 = .ok (.istore 4, 2) := by decide +kernel
theorem dX12_reachOn_15 : decode cX12_reachOn 15 = .ok (.iload 4, 2) := by decide +kernel
theorem dX12_reachOn_17 : decode cX12_reachOn 17 = .ok (.aload_n 0, 1) := by decide +kernel
theorem dX12_reachOn_18 : decode cX12_reachOn 18 = .ok (.getfield 68, 3) := by decide +kernel
theorem dX12_reachOn_21 : decode cX12_reachOn 21 = .ok (.if_icmp .ge 39, 3) := by decide +kernel
theorem dX12_reachOn_24 : decode cX12_reachOn 24 = .ok (.iload_n 2, 1) := by decide +kernel
theorem dX12_reachOn_25 : decode cX12_reachOn 25 = .ok (.iload_n 1, 1) := by decide +kernel
theorem dX12_reachOn_26 : decode cX12_reachOn 26 = .ok (.iload_n 3, 1) := by decide +kernel
theorem dX12_reachOn_27 : decode cX12_reachOn 27 = .ok (.ishr, 1) := by decide +kernel
theorem dX12_reachOn_28 : decode cX12_reachOn 28 = .ok (.iconst 1, 1) := by decide +kernel
theorem dX12_reachOn_29 : decode cX12_reachOn 29 = .ok (.iand, 1) := by decide +kernel
theorem dX12_reachOn_30 : decode cX12_reachOn 30 = .ok (.iconst 1, 1) := by decide +kernel
theorem dX12_reachOn_31 : decode cX12_reachOn 31 = .ok (.if_icmp .ne 20, 3) := by decide +kernel
theorem dX12_reachOn_34 : decode cX12_reachOn 34 = .ok (.aload_n 0, 1) := by decide +kernel
theorem dX12_reachOn_35 : decode cX12_reachOn 35 = .ok (.iload_n 3, 1) := by decide +kernel
theorem dX12_reachOn_36 : decode cX12_reachOn 36 = .ok (.iload 4, 2) := by decide +kernel
theorem dX12_reachOn_38 : decode cX12_reachOn 38 = .ok (.invokevirtual 215, 3) := by decide +kernel
theorem dX12_reachOn_41 : decode cX12_reachOn 41 = .ok (.ifCond .eq 10, 3) := by decide +kernel
theorem dX12_reachOn_44 : decode cX12_reachOn 44 = .ok (.iconst 1, 1) := by decide +kernel
theorem dX12_reachOn_45 : decode cX12_reachOn 45 = .ok (.iload 4, 2) := by decide +kernel
theorem dX12_reachOn_47 : decode cX12_reachOn 47 = .ok (.ishl, 1) := by decide +kernel
theorem dX12_reachOn_48 : decode cX12_reachOn 48 = .ok (.goto 4, 3) := by decide +kernel
theorem dX12_reachOn_51 : decode cX12_reachOn 51 = .ok (.iconst 0, 1) := by decide +kernel
theorem dX12_reachOn_52 : decode cX12_reachOn 52 = .ok (.ior, 1) := by decide +kernel
theorem dX12_reachOn_53 : decode cX12_reachOn 53 = .ok (.istore_n 2, 1) := by decide +kernel
theorem dX12_reachOn_54 : decode cX12_reachOn 54 = .ok (.iinc 4 1, 3) := by decide +kernel
theorem dX12_reachOn_57 : decode cX12_reachOn 57 = .ok (.goto (-42), 3) := by decide +kernel
theorem dX12_reachOn_60 : decode cX12_reachOn 60 = .ok (.iinc 3 1, 3) := by decide +kernel
theorem dX12_reachOn_63 : decode cX12_reachOn 63 = .ok (.goto (-59), 3) := by decide +kernel
theorem dX12_reachOn_66 : decode cX12_reachOn 66 = .ok (.iload_n 2, 1) := by decide +kernel
theorem dX12_reachOn_67 : decode cX12_reachOn 67 = .ok (.ireturn, 1) := by decide +kernel
theorem dX12_there_0 : decode cX12_there 0 = .ok (.aload_n 0, 1) := by decide +kernel
theorem dX12_there_1 : decode cX12_there 1 = .ok (.iconst 0, 1) := by decide +kernel
theorem dX12_there_2 : decode cX12_there 2 = .ok (.putfield 65, 3) := by decide +kernel
theorem dX12_there_5 : decode cX12_there 5 = .ok (.aload_n 0, 1) := by decide +kernel
theorem dX12_there_6 : decode cX12_there 6 = .ok (.iload_n 1, 1) := by decide +kernel
theorem dX12_there_7 : decode cX12_there 7 = .ok (.invokevirtual 75, 3) := by decide +kernel
theorem dX12_there_10 : decode cX12_there 10 = .ok (.ifCond .eq 11, 3) := by decide +kernel
theorem dX12_there_13 : decode cX12_there 13 = .ok (.aload_n 0, 1) := by decide +kernel
theorem dX12_there_14 : decode cX12_there 14 = .ok (.iload_n 2, 1) := by decide +kernel
theorem dX12_there_15 : decode cX12_there 15 = .ok (.invokevirtual 75, 3) := by decide +kernel
theorem dX12_there_18 : decode cX12_there 18 = .ok (.ifCond .ne 9, 3) := by decide +kernel
theorem dX12_there_21 : decode cX12_there 21 = .ok (.aload_n 0, 1) := by decide +kernel
theorem dX12_there_22 : decode cX12_there 22 = .ok (.iconst (-1), 1) := by decide +kernel
theorem dX12_there_23 : decode cX12_there 23 = .ok (.invokevirtual 134, 3) := by decide +kernel
theorem dX12_there_26 : decode cX12_there 26 = .ok (.ireturn, 1) := by decide +kernel
theorem dX12_there_27 : decode cX12_there 27 = .ok (.aload_n 0, 1) := by decide +kernel
theorem dX12_there_28 : decode cX12_there 28 = .ok (.invokevirtual 182, 3) := by decide +kernel
theorem dX12_there_31 : decode cX12_there 31 = .ok (.iconst 1, 1) := by decide +kernel
theorem dX12_there_32 : decode cX12_there 32 = .ok (.iload_n 1, 1) := by decide +kernel
theorem dX12_there_33 : decode cX12_there 33 = .ok (.ishl, 1) := by decide +kernel
theorem dX12_there_34 : decode cX12_there 34 = .ok (.istore_n 3, 1) := by decide +kernel
theorem dX12_there_35 : decode cX12_there 35 = .ok (.iload_n 1, 1) := by decide +kernel
theorem dX12_there_36 : decode cX12_there 36 = .ok (.iload_n 2, 1) := by decide +kernel
theorem dX12_there_37 : decode cX12_there 37 = .ok (.if_icmp .ne 7, 3) := by decide +kernel
theorem dX12_there_40 : decode cX12_there 40 = .ok (.iconst 0, 1) := by decide +kernel
theorem dX12_there_41 : decode cX12_there 41 = .ok (.goto 5, 3) := by decide +kernel
theorem dX12_there_44 : decode cX12_there 44 = .ok (.bipush (-9), 2) := by decide +kernel
theorem dX12_there_46 : decode cX12_there 46 = .ok (.istore 4, 2) := by decide +kernel
theorem dX12_there_48 : decode cX12_there 48 = .ok (.iconst 1, 1) := by decide +kernel
theorem dX12_there_49 : decode cX12_there 49 = .ok (.istore 5, 2) := by decide +kernel
theorem dX12_there_51 : decode cX12_there 51 = .ok (.iload 5, 2) := by decide +kernel
theorem dX12_there_53 : decode cX12_there 53 = .ok (.bipush 40, 2) := by decide +kernel
theorem dX12_there_55 : decode cX12_there 55 = .ok (.if_icmp .gt 44, 3) := by decide +kernel
theorem dX12_there_58 : decode cX12_there 58 = .ok (.iload 4, 2) := by decide +kernel
theorem dX12_there_60 : decode cX12_there 60 = .ok (.ifCond .ge 39, 3) := by decide +kernel
theorem dX12_there_63 : decode cX12_there 63 = .ok (.aload_n 0, 1) := by decide +kernel
theorem dX12_there_64 : decode cX12_there 64 = .ok (.iload_n 3, 1) := by decide +kernel
theorem dX12_there_65 : decode cX12_there 65 = .ok (.invokevirtual 218, 3) := by decide +kernel
theorem dX12_there_68 : decode cX12_there 68 = .ok (.istore_n 3, 1) := by decide +kernel
theorem dX12_there_69 : decode cX12_there 69 = .ok (.iload_n 3, 1) := by decide +kernel
theorem dX12_there_70 : decode cX12_there 70 = .ok (.iload_n 2, 1) := by decide +kernel
theorem dX12_there_71 : decode cX12_there 71 = .ok (.ishr, 1) := by decide +kernel
theorem dX12_there_72 : decode cX12_there 72 = .ok (.iconst 1, 1) := by decide +kernel
theorem dX12_there_73 : decode cX12_there 73 = .ok (.iand, 1) := by decide +kernel
theorem dX12_there_74 : decode cX12_there 74 = .ok (.iconst 1, 1) := by decide +kernel
theorem dX12_there_75 : decode cX12_there 75 = .ok (.if_icmp .ne 8, 3) := by decide +kernel
theorem dX12_there_78 : decode cX12_there 78 = .ok (.iload 5, 2) := by decide +kernel
theorem dX12_there_80 : decode cX12_there 80 = .ok (.goto 5, 3) := by decide +kernel
theorem dX12_there_83 : decode cX12_there 83 = .ok (.bipush (-9), 2) := by decide +kernel
theorem dX12_there_85 : decode cX12_there 85 = .ok (.istore 4, 2) := by decide +kernel
theorem dX12_there_87 : decode cX12_there 87 = .ok (.aload_n 0, 1) := by decide +kernel
theorem dX12_there_88 : decode cX12_there 88 = .ok (.iconst 1, 1) := by decide +kernel
theorem dX12_there_89 : decode cX12_there 89 = .ok (.invokevirtual 199, 3) := by decide +kernel
theorem dX12_there_92 : decode cX12_there 92 = .ok (.pop, 1) := by decide +kernel
theorem dX12_there_93 : decode cX12_there 93 = .ok (.iinc 5 1, 3) := by decide +kernel
theorem dX12_there_96 : decode cX12_there 96 = .ok (.goto (-45), 3) := by decide +kernel
theorem dX12_there_99 : decode cX12_there 99 = .ok (.aload_n 0, 1) := by decide +kernel
theorem dX12_there_100 : decode cX12_there 100 = .ok (.invokevirtual 188, 3) := by decide +kernel
theorem dX12_there_103 : decode cX12_there 103 = .ok (.iload 4, 2) := by decide +kernel
theorem dX12_there_105 : decode cX12_there 105 = .ok (.ireturn, 1) := by decide +kernel
theorem dX12_back_0 : decode cX12_back 0 = .ok (.aload_n 0, 1) := by decide +kernel
theorem dX12_back_1 : decode cX12_back 1 = .ok (.iconst 0, 1) := by decide +kernel
theorem dX12_back_2 : decode cX12_back 2 = .ok (.putfield 65, 3) := by decide +kernel
theorem dX12_back_5 : decode cX12_back 5 = .ok (.aload_n 0, 1) := by decide +kernel
theorem dX12_back_6 : decode cX12_back 6 = .ok (.iload_n 1, 1) := by decide +kernel
theorem dX12_back_7 : decode cX12_back 7 = .ok (.iload_n 2, 1) := by decide +kernel
theorem dX12_back_8 : decode cX12_back 8 = .ok (.invokevirtual 202, 3) := by decide +kernel
theorem dX12_back_11 : decode cX12_back 11 = .ok (.ifCond .ne 9, 3) := by decide +kernel
theorem dX12_back_14 : decode cX12_back 14 = .ok (.aload_n 0, 1) := by decide +kernel
theorem dX12_back_15 : decode cX12_back 15 = .ok (.iconst (-1), 1) := by decide +kernel
theorem dX12_back_16 : decode cX12_back 16 = .ok (.invokevirtual 134, 3) := by decide +kernel
theorem dX12_back_19 : decode cX12_back 19 = .ok (.ireturn, 1) := by decide +kernel
theorem dX12_back_20 : decode cX12_back 20 = .ok (.aload_n 0, 1) := by decide +kernel
theorem dX12_back_21 : decode cX12_back 21 = .ok (.invokevirtual 182, 3) := by decide +kernel
theorem dX12_back_24 : decode cX12_back 24 = .ok (.iconst 1, 1) := by decide +kernel
theorem dX12_back_25 : decode cX12_back 25 = .ok (.iload_n 1, 1) := by decide +kernel
theorem dX12_back_26 : decode cX12_back 26 = .ok (.ishl, 1) := by decide +kernel
theorem dX12_back_27 : decode cX12_back 27 = .ok (.istore_n 3, 1) := by decide +kernel
theorem dX12_back_28 : decode cX12_back 28 = .ok (.iconst 0, 1) := by decide +kernel
theorem dX12_back_29 : decode cX12_back 29 = .ok (.istore 4, 2) := by decide +kernel
theorem dX12_back_31 : decode cX12_back 31 = .ok (.bipush (-9), 2) := by decide +kernel
theorem dX12_back_33 : decode cX12_back 33 = .ok (.istore 5, 2) := by decide +kernel
theorem dX12_back_35 : decode cX12_back 35 = .ok (.iconst 1, 1) := by decide +kernel
theorem dX12_back_36 : decode cX12_back 36 = .ok (.istore 6, 2) := by decide +kernel
theorem dX12_back_38 : decode cX12_back 38 = .ok (.iload 6, 2) := by decide +kernel
theorem dX12_back_40 : decode cX12_back 40 = .ok (.bipush 40, 2) := by decide +kernel
theorem dX12_back_42 : decode cX12_back 42 = .ok (.if_icmp .gt 59, 3) := by decide +kernel
theorem dX12_back_45 : decode cX12_back 45 = .ok (.iload 5, 2) := by decide +kernel
theorem dX12_back_47 : decode cX12_back 47 = .ok (.ifCond .ge 54, 3) := by decide +kernel
theorem dX12_back_50 : decode cX12_back 50 = .ok (.aload_n 0, 1) := by decide +kernel
theorem dX12_back_51 : decode cX12_back 51 = .ok (.iload_n 3, 1) := by decide +kernel
theorem dX12_back_52 : decode cX12_back 52 = .ok (.invokevirtual 218, 3) := by decide +kernel
theorem dX12_back_55 : decode cX12_back 55 = .ok (.istore_n 3, 1) := by decide +kernel
theorem dX12_back_56 : decode cX12_back 56 = .ok (.aload_n 0, 1) := by decide +kernel
theorem dX12_back_57 : decode cX12_back 57 = .ok (.iload 4, 2) := by decide +kernel
theorem dX12_back_59 : decode cX12_back 59 = .ok (.invokevirtual 218, 3) := by decide +kernel
theorem dX12_back_62 : decode cX12_back 62 = .ok (.iload_n 3, 1) := by decide +kernel
theorem dX12_back_63 : decode cX12_back 63 = .ok (.iconst 1, 1) := by decide +kernel
theorem dX12_back_64 : decode cX12_back 64 = .ok (.iload_n 2, 1) := by decide +kernel
theorem dX12_back_65 : decode cX12_back 65 = .ok (.ishl, 1) := by decide +kernel
theorem dX12_back_66 : decode cX12_back 66 = .ok (.iand, 1) := by decide +kernel
theorem dX12_back_67 : decode cX12_back 67 = .ok (.ior, 1) := by decide +kernel
theorem dX12_back_68 : decode cX12_back 68 = .ok (.istore 4, 2) := by decide +kernel
theorem dX12_back_70 : decode cX12_back 70 = .ok (.iload 4, 2) := by decide +kernel
theorem dX12_back_72 : decode cX12_back 72 = .ok (.iload_n 1, 1) := by decide +kernel
theorem dX12_back_73 : decode cX12_back 73 = .ok (.ishr, 1) := by decide +kernel
theorem dX12_back_74 : decode cX12_back 74 = .ok (.iconst 1, 1) := by decide +kernel
theorem dX12_back_75 : decode cX12_back 75 = .ok (.iand, 1) := by decide +kernel
theorem dX12_back_76 : decode cX12_back 76 = .ok (.iconst 1, 1) := by decide +kernel
theorem dX12_back_77 : decode cX12_back 77 = .ok (.if_icmp .ne 8, 3) := by decide +kernel
theorem dX12_back_80 : decode cX12_back 80 = .ok (.iload 6, 2) := by decide +kernel
theorem dX12_back_82 : decode cX12_back 82 = .ok (.goto 5, 3) := by decide +kernel
theorem dX12_back_85 : decode cX12_back 85 = .ok (.bipush (-9), 2) := by decide +kernel
theorem dX12_back_87 : decode cX12_back 87 = .ok (.istore 5, 2) := by decide +kernel
theorem dX12_back_89 : decode cX12_back 89 = .ok (.aload_n 0, 1) := by decide +kernel
theorem dX12_back_90 : decode cX12_back 90 = .ok (.iconst 1, 1) := by decide +kernel
theorem dX12_back_91 : decode cX12_back 91 = .ok (.invokevirtual 199, 3) := by decide +kernel
theorem dX12_back_94 : decode cX12_back 94 = .ok (.pop, 1) := by decide +kernel
theorem dX12_back_95 : decode cX12_back 95 = .ok (.iinc 6 1, 3) := by decide +kernel
theorem dX12_back_98 : decode cX12_back 98 = .ok (.goto (-60), 3) := by decide +kernel
theorem dX12_back_101 : decode cX12_back 101 = .ok (.aload_n 0, 1) := by decide +kernel
theorem dX12_back_102 : decode cX12_back 102 = .ok (.invokevirtual 188, 3) := by decide +kernel
theorem dX12_back_105 : decode cX12_back 105 = .ok (.iload 5, 2) := by decide +kernel
theorem dX12_back_107 : decode cX12_back 107 = .ok (.ireturn, 1) := by decide +kernel
theorem dX12_news_0 : decode cX12_news 0 = .ok (.aload_n 0, 1) := by decide +kernel
theorem dX12_news_1 : decode cX12_news 1 = .ok (.iconst 0, 1) := by decide +kernel
theorem dX12_news_2 : decode cX12_news 2 = .ok (.putfield 65, 3) := by decide +kernel
theorem dX12_news_5 : decode cX12_news 5 = .ok (.aload_n 0, 1) := by decide +kernel
theorem dX12_news_6 : decode cX12_news 6 = .ok (.iload_n 1, 1) := by decide +kernel
theorem dX12_news_7 : decode cX12_news 7 = .ok (.invokevirtual 75, 3) := by decide +kernel
theorem dX12_news_10 : decode cX12_news 10 = .ok (.ifCond .ne 9, 3) := by decide +kernel
theorem dX12_news_13 : decode cX12_news 13 = .ok (.aload_n 0, 1) := by decide +kernel
theorem dX12_news_14 : decode cX12_news 14 = .ok (.iconst (-1), 1) := by decide +kernel
theorem dX12_news_15 : decode cX12_news 15 = .ok (.invokevirtual 134, 3) := by decide +kernel
theorem dX12_news_18 : decode cX12_news 18 = .ok (.ireturn, 1) := by decide +kernel
theorem dX12_news_19 : decode cX12_news 19 = .ok (.aload_n 0, 1) := by decide +kernel
theorem dX12_news_20 : decode cX12_news 20 = .ok (.invokevirtual 182, 3) := by decide +kernel
theorem dX12_news_23 : decode cX12_news 23 = .ok (.iconst 1, 1) := by decide +kernel
theorem dX12_news_24 : decode cX12_news 24 = .ok (.aload_n 0, 1) := by decide +kernel
theorem dX12_news_25 : decode cX12_news 25 = .ok (.getfield 68, 3) := by decide +kernel
theorem dX12_news_28 : decode cX12_news 28 = .ok (.ishl, 1) := by decide +kernel
theorem dX12_news_29 : decode cX12_news 29 = .ok (.iconst 1, 1) := by decide +kernel
theorem dX12_news_30 : decode cX12_news 30 = .ok (.isub, 1) := by decide +kernel
theorem dX12_news_31 : decode cX12_news 31 = .ok (.istore_n 2, 1) := by decide +kernel
theorem dX12_news_32 : decode cX12_news 32 = .ok (.iconst 1, 1) := by decide +kernel
theorem dX12_news_33 : decode cX12_news 33 = .ok (.iload_n 1, 1) := by decide +kernel
theorem dX12_news_34 : decode cX12_news 34 = .ok (.ishl, 1) := by decide +kernel
theorem dX12_news_35 : decode cX12_news 35 = .ok (.istore_n 3, 1) := by decide +kernel
theorem dX12_news_36 : decode cX12_news 36 = .ok (.iload_n 3, 1) := by decide +kernel
theorem dX12_news_37 : decode cX12_news 37 = .ok (.iload_n 2, 1) := by decide +kernel
theorem dX12_news_38 : decode cX12_news 38 = .ok (.if_icmp .ne 7, 3) := by decide +kernel
theorem dX12_news_41 : decode cX12_news 41 = .ok (.iconst 0, 1) := by decide +kernel
theorem dX12_news_42 : decode cX12_news 42 = .ok (.goto 5, 3) := by decide +kernel
theorem dX12_news_45 : decode cX12_news 45 = .ok (.bipush (-9), 2) := by decide +kernel
theorem dX12_news_47 : decode cX12_news 47 = .ok (.istore 4, 2) := by decide +kernel
theorem dX12_news_49 : decode cX12_news 49 = .ok (.iconst 1, 1) := by decide +kernel
theorem dX12_news_50 : decode cX12_news 50 = .ok (.istore 5, 2) := by decide +kernel
theorem dX12_news_52 : decode cX12_news 52 = .ok (.iload 5, 2) := by decide +kernel
theorem dX12_news_54 : decode cX12_news 54 = .ok (.bipush 40, 2) := by decide +kernel
theorem dX12_news_56 : decode cX12_news 56 = .ok (.if_icmp .gt 40, 3) := by decide +kernel
theorem dX12_news_59 : decode cX12_news 59 = .ok (.iload 4, 2) := by decide +kernel
theorem dX12_news_61 : decode cX12_news 61 = .ok (.ifCond .ge 35, 3) := by decide +kernel
theorem dX12_news_64 : decode cX12_news 64 = .ok (.aload_n 0, 1) := by decide +kernel
theorem dX12_news_65 : decode cX12_news 65 = .ok (.iload_n 3, 1) := by decide +kernel
theorem dX12_news_66 : decode cX12_news 66 = .ok (.invokevirtual 218, 3) := by decide +kernel
theorem dX12_news_69 : decode cX12_news 69 = .ok (.istore_n 3, 1) := by decide +kernel
theorem dX12_news_70 : decode cX12_news 70 = .ok (.iload_n 3, 1) := by decide +kernel
theorem dX12_news_71 : decode cX12_news 71 = .ok (.iload_n 2, 1) := by decide +kernel
theorem dX12_news_72 : decode cX12_news 72 = .ok (.if_icmp .ne 8, 3) := by decide +kernel
theorem dX12_news_75 : decode cX12_news 75 = .ok (.iload 5, 2) := by decide +kernel
theorem dX12_news_77 : decode cX12_news 77 = .ok (.goto 5, 3) := by decide +kernel
theorem dX12_news_80 : decode cX12_news 80 = .ok (.bipush (-9), 2) := by decide +kernel
theorem dX12_news_82 : decode cX12_news 82 = .ok (.istore 4, 2) := by decide +kernel
theorem dX12_news_84 : decode cX12_news 84 = .ok (.aload_n 0, 1) := by decide +kernel
theorem dX12_news_85 : decode cX12_news 85 = .ok (.iconst 1, 1) := by decide +kernel
theorem dX12_news_86 : decode cX12_news 86 = .ok (.invokevirtual 199, 3) := by decide +kernel
theorem dX12_news_89 : decode cX12_news 89 = .ok (.pop, 1) := by decide +kernel
theorem dX12_news_90 : decode cX12_news 90 = .ok (.iinc 5 1, 3) := by decide +kernel
theorem dX12_news_93 : decode cX12_news 93 = .ok (.goto (-41), 3) := by decide +kernel
theorem dX12_news_96 : decode cX12_news 96 = .ok (.aload_n 0, 1) := by decide +kernel
theorem dX12_news_97 : decode cX12_news 97 = .ok (.invokevirtual 188, 3) := by decide +kernel
theorem dX12_news_100 : decode cX12_news 100 = .ok (.iload 4, 2) := by decide +kernel
theorem dX12_news_102 : decode cX12_news 102 = .ok (.ireturn, 1) := by decide +kernel
theorem dX12_know_0 : decode cX12_know 0 = .ok (.aload_n 0, 1) := by decide +kernel
theorem dX12_know_1 : decode cX12_know 1 = .ok (.iconst 0, 1) := by decide +kernel
theorem dX12_know_2 : decode cX12_know 2 = .ok (.putfield 65, 3) := by decide +kernel
theorem dX12_know_5 : decode cX12_know 5 = .ok (.aload_n 0, 1) := by decide +kernel
theorem dX12_know_6 : decode cX12_know 6 = .ok (.iload_n 1, 1) := by decide +kernel
theorem dX12_know_7 : decode cX12_know 7 = .ok (.invokevirtual 75, 3) := by decide +kernel
theorem dX12_know_10 : decode cX12_know 10 = .ok (.ifCond .eq 12, 3) := by decide +kernel
theorem dX12_know_13 : decode cX12_know 13 = .ok (.iload_n 2, 1) := by decide +kernel
theorem dX12_know_14 : decode cX12_know 14 = .ok (.bipush 40, 2) := by decide +kernel
theorem dX12_know_16 : decode cX12_know 16 = .ok (.invokestatic 208, 3) := by decide +kernel
theorem dX12_know_19 : decode cX12_know 19 = .ok (.goto 4, 3) := by decide +kernel
theorem dX12_know_22 : decode cX12_know 22 = .ok (.iconst (-1), 1) := by decide +kernel
theorem dX12_know_23 : decode cX12_know 23 = .ok (.istore_n 3, 1) := by decide +kernel
theorem dX12_know_24 : decode cX12_know 24 = .ok (.iload_n 3, 1) := by decide +kernel
theorem dX12_know_25 : decode cX12_know 25 = .ok (.ifCond .ge 9, 3) := by decide +kernel
theorem dX12_know_28 : decode cX12_know 28 = .ok (.aload_n 0, 1) := by decide +kernel
theorem dX12_know_29 : decode cX12_know 29 = .ok (.iload_n 3, 1) := by decide +kernel
theorem dX12_know_30 : decode cX12_know 30 = .ok (.invokevirtual 134, 3) := by decide +kernel
theorem dX12_know_33 : decode cX12_know 33 = .ok (.ireturn, 1) := by decide +kernel
theorem dX12_know_34 : decode cX12_know 34 = .ok (.aload_n 0, 1) := by decide +kernel
theorem dX12_know_35 : decode cX12_know 35 = .ok (.invokevirtual 182, 3) := by decide +kernel
theorem dX12_know_38 : decode cX12_know 38 = .ok (.iconst 1, 1) := by decide +kernel
theorem dX12_know_39 : decode cX12_know 39 = .ok (.iload_n 1, 1) := by decide +kernel
theorem dX12_know_40 : decode cX12_know 40 = .ok (.ishl, 1) := by decide +kernel
theorem dX12_know_41 : decode cX12_know 41 = .ok (.istore 4, 2) := by decide +kernel
theorem dX12_know_43 : decode cX12_know 43 = .ok (.iconst 0, 1) := by decide +kernel
theorem dX12_know_44 : decode cX12_know 44 = .ok (.istore 5, 2) := by decide +kernel
theorem dX12_know_46 : decode cX12_know 46 = .ok (.iload 5, 2) := by decide +kernel
theorem dX12_know_48 : decode cX12_know 48 = .ok (.iload_n 2, 1) := by decide +kernel
theorem dX12_know_49 : decode cX12_know 49 = .ok (.if_icmp .ge 23, 3) := by decide +kernel
theorem dX12_know_52 : decode cX12_know 52 = .ok (.aload_n 0, 1) := by decide +kernel
theorem dX12_know_53 : decode cX12_know 53 = .ok (.iload 4, 2) := by decide +kernel
theorem dX12_know_55 : decode cX12_know 55 = .ok (.invokevirtual 218, 3) := by decide +kernel
theorem dX12_know_58 : decode cX12_know 58 = .ok (.istore 4, 2) := by decide +kernel
theorem dX12_know_60 : decode cX12_know 60 = .ok (.aload_n 0, 1) := by decide +kernel
theorem dX12_know_61 : decode cX12_know 61 = .ok (.iconst 1, 1) := by decide +kernel
theorem dX12_know_62 : decode cX12_know 62 = .ok (.invokevirtual 199, 3) := by decide +kernel
theorem dX12_know_65 : decode cX12_know 65 = .ok (.pop, 1) := by decide +kernel
theorem dX12_know_66 : decode cX12_know 66 = .ok (.iinc 5 1, 3) := by decide +kernel
theorem dX12_know_69 : decode cX12_know 69 = .ok (.goto (-23), 3) := by decide +kernel
theorem dX12_know_72 : decode cX12_know 72 = .ok (.aload_n 0, 1) := by decide +kernel
theorem dX12_know_73 : decode cX12_know 73 = .ok (.invokevirtual 188, 3) := by decide +kernel
theorem dX12_know_76 : decode cX12_know 76 = .ok (.iload 4, 2) := by decide +kernel
theorem dX12_know_78 : decode cX12_know 78 = .ok (.ireturn, 1) := by decide +kernel
theorem dX12_lost_0 : decode cX12_lost 0 = .ok (.aload_n 0, 1) := by decide +kernel
theorem dX12_lost_1 : decode cX12_lost 1 = .ok (.iconst 0, 1) := by decide +kernel
theorem dX12_lost_2 : decode cX12_lost 2 = .ok (.putfield 65, 3) := by decide +kernel
theorem dX12_lost_5 : decode cX12_lost 5 = .ok (.iconst 0, 1) := by decide +kernel
theorem dX12_lost_6 : decode cX12_lost 6 = .ok (.istore_n 1, 1) := by decide +kernel
theorem dX12_lost_7 : decode cX12_lost 7 = .ok (.iconst 0, 1) := by decide +kernel
theorem dX12_lost_8 : decode cX12_lost 8 = .ok (.istore_n 2, 1) := by decide +kernel
theorem dX12_lost_9 : decode cX12_lost 9 = .ok (.iload_n 2, 1) := by decide +kernel
theorem dX12_lost_10 : decode cX12_lost 10 = .ok (.aload_n 0, 1) := by decide +kernel
theorem dX12_lost_11 : decode cX12_lost 11 = .ok (.getfield 68, 3) := by decide +kernel
theorem dX12_lost_14 : decode cX12_lost 14 = .ok (.if_icmp .ge 73, 3) := by decide +kernel
theorem dX12_lost_17 : decode cX12_lost 17 = .ok (.iconst 1, 1) := by decide +kernel
theorem dX12_lost_18 : decode cX12_lost 18 = .ok (.istore_n 3, 1) := by decide +kernel
theorem dX12_lost_19 : decode cX12_lost 19 = .ok (.iconst 0, 1) := by decide +kernel
theorem dX12_lost_20 : decode cX12_lost 20 = .ok (.istore 4, 2) := by decide +kernel
theorem dX12_lost_22 : decode cX12_lost 22 = .ok (.iload 4, 2) := by decide +kernel
theorem dX12_lost_24 : decode cX12_lost 24 = .ok (.aload_n 0, 1) := by decide +kernel
theorem dX12_lost_25 : decode cX12_lost 25 = .ok (.getfield 68, 3) := by decide +kernel
theorem dX12_lost_28 : decode cX12_lost 28 = .ok (.if_icmp .ge 39, 3) := by decide +kernel
theorem dX12_lost_31 : decode cX12_lost 31 = .ok (.iload_n 3, 1) := by decide +kernel
theorem dX12_lost_32 : decode cX12_lost 32 = .ok (.ifCond .eq 27, 3) := by decide +kernel
theorem dX12_lost_35 : decode cX12_lost 35 = .ok (.iload_n 2, 1) := by decide +kernel
theorem dX12_lost_36 : decode cX12_lost 36 = .ok (.iload 4, 2) := by decide +kernel
theorem dX12_lost_38 : decode cX12_lost 38 = .ok (.if_icmp .eq 17, 3) := by decide +kernel
theorem dX12_lost_41 : decode cX12_lost 41 = .ok (.aload_n 0, 1) := by decide +kernel
theorem dX12_lost_42 : decode cX12_lost 42 = .ok (.iload_n 2, 1) := by decide +kernel
theorem dX12_lost_43 : decode cX12_lost 43 = .ok (.iload 4, 2) := by decide +kernel
theorem dX12_lost_45 : decode cX12_lost 45 = .ok (.invokevirtual 107, 3) := by decide +kernel
theorem dX12_lost_48 : decode cX12_lost 48 = .ok (.aload_n 0, 1) := by decide +kernel
theorem dX12_lost_49 : decode cX12_lost 49 = .ok (.getfield 13, 3) := by decide +kernel
theorem dX12_lost_52 : decode cX12_lost 52 = .ok (.if_icmp .le 7, 3) := by decide +kernel
theorem dX12_lost_55 : decode cX12_lost 55 = .ok (.iconst 1, 1) := by decide +kernel
theorem dX12_lost_56 : decode cX12_lost 56 = .ok (.goto 4, 3) := by decide +kernel
theorem dX12_lost_59 : decode cX12_lost 59 = .ok (.iconst 0, 1) := by decide +kernel
theorem dX12_lost_60 : decode cX12_lost 60 = .ok (.istore_n 3, 1) := by decide +kernel
theorem dX12_lost_61 : decode cX12_lost 61 = .ok (.iinc 4 1, 3) := by decide +kernel
theorem dX12_lost_64 : decode cX12_lost 64 = .ok (.goto (-42), 3) := by decide +kernel
theorem dX12_lost_67 : decode cX12_lost 67 = .ok (.iload_n 1, 1) := by decide +kernel
theorem dX12_lost_68 : decode cX12_lost 68 = .ok (.iload_n 3, 1) := by decide +kernel
theorem dX12_lost_69 : decode cX12_lost 69 = .ok (.ifCond .eq 9, 3) := by decide +kernel
theorem dX12_lost_72 : decode cX12_lost 72 = .ok (.iconst 1, 1) := by decide +kernel
theorem dX12_lost_73 : decode cX12_lost 73 = .ok (.iload_n 2, 1) := by decide +kernel
theorem dX12_lost_74 : decode cX12_lost 74 = .ok (.ishl, 1) := by decide +kernel
theorem dX12_lost_75 : decode cX12_lost 75 = .ok (.goto 4, 3) := by decide +kernel
theorem dX12_lost_78 : decode cX12_lost 78 = .ok (.iconst 0, 1) := by decide +kernel
theorem dX12_lost_79 : decode cX12_lost 79 = .ok (.ior, 1) := by decide +kernel
theorem dX12_lost_80 : decode cX12_lost 80 = .ok (.istore_n 1, 1) := by decide +kernel
theorem dX12_lost_81 : decode cX12_lost 81 = .ok (.iinc 2 1, 3) := by decide +kernel
theorem dX12_lost_84 : decode cX12_lost 84 = .ok (.goto (-75), 3) := by decide +kernel
theorem dX12_lost_87 : decode cX12_lost 87 = .ok (.iload_n 1, 1) := by decide +kernel
theorem dX12_lost_88 : decode cX12_lost 88 = .ok (.ireturn, 1) := by decide +kernel
theorem dX12_groups_0 : decode cX12_groups 0 = .ok (.aload_n 0, 1) := by decide +kernel
theorem dX12_groups_1 : decode cX12_groups 1 = .ok (.iconst 0, 1) := by decide +kernel
theorem dX12_groups_2 : decode cX12_groups 2 = .ok (.putfield 65, 3) := by decide +kernel
theorem dX12_groups_5 : decode cX12_groups 5 = .ok (.iconst 0, 1) := by decide +kernel
theorem dX12_groups_6 : decode cX12_groups 6 = .ok (.istore_n 1, 1) := by decide +kernel
theorem dX12_groups_7 : decode cX12_groups 7 = .ok (.iconst 0, 1) := by decide +kernel
theorem dX12_groups_8 : decode cX12_groups 8 = .ok (.istore_n 2, 1) := by decide +kernel
theorem dX12_groups_9 : decode cX12_groups 9 = .ok (.iload_n 2, 1) := by decide +kernel
theorem dX12_groups_10 : decode cX12_groups 10 = .ok (.aload_n 0, 1) := by decide +kernel
theorem dX12_groups_11 : decode cX12_groups 11 = .ok (.getfield 68, 3) := by decide +kernel
theorem dX12_groups_14 : decode cX12_groups 14 = .ok (.if_icmp .ge 55, 3) := by decide +kernel
theorem dX12_groups_17 : decode cX12_groups 17 = .ok (.iconst 1, 1) := by decide +kernel
theorem dX12_groups_18 : decode cX12_groups 18 = .ok (.iload_n 2, 1) := by decide +kernel
theorem dX12_groups_19 : decode cX12_groups 19 = .ok (.ishl, 1) := by decide +kernel
theorem dX12_groups_20 : decode cX12_groups 20 = .ok (.istore_n 3, 1) := by decide +kernel
theorem dX12_groups_21 : decode cX12_groups 21 = .ok (.iconst 0, 1) := by decide +kernel
theorem dX12_groups_22 : decode cX12_groups 22 = .ok (.istore 4, 2) := by decide +kernel
theorem dX12_groups_24 : decode cX12_groups 24 = .ok (.iload 4, 2) := by decide +kernel
theorem dX12_groups_26 : decode cX12_groups 26 = .ok (.aload_n 0, 1) := by decide +kernel
theorem dX12_groups_27 : decode cX12_groups 27 = .ok (.getfield 68, 3) := by decide +kernel
theorem dX12_groups_30 : decode cX12_groups 30 = .ok (.if_icmp .ge 15, 3) := by decide +kernel
theorem dX12_groups_33 : decode cX12_groups 33 = .ok (.aload_n 0, 1) := by decide +kernel
theorem dX12_groups_34 : decode cX12_groups 34 = .ok (.iload_n 3, 1) := by decide +kernel
theorem dX12_groups_35 : decode cX12_groups 35 = .ok (.invokevirtual 218, 3) := by decide +kernel
theorem dX12_groups_38 : decode cX12_groups 38 = .ok (.istore_n 3, 1) := by decide +kernel
theorem dX12_groups_39 : decode cX12_groups 39 = .ok (.iinc 4 1, 3) := by decide +kernel
theorem dX12_groups_42 : decode cX12_groups 42 = .ok (.goto (-18), 3) := by decide +kernel
theorem dX12_groups_45 : decode cX12_groups 45 = .ok (.iload_n 1, 1) := by decide +kernel
theorem dX12_groups_46 : decode cX12_groups 46 = .ok (.iload_n 3, 1) := by decide +kernel
theorem dX12_groups_47 : decode cX12_groups 47 = .ok (.iconst 1, 1) := by decide +kernel
theorem dX12_groups_48 : decode cX12_groups 48 = .ok (.iload_n 2, 1) := by decide +kernel
theorem dX12_groups_49 : decode cX12_groups 49 = .ok (.ishl, 1) := by decide +kernel
theorem dX12_groups_50 : decode cX12_groups 50 = .ok (.iconst 1, 1) := by decide +kernel
theorem dX12_groups_51 : decode cX12_groups 51 = .ok (.isub, 1) := by decide +kernel
theorem dX12_groups_52 : decode cX12_groups 52 = .ok (.iand, 1) := by decide +kernel
theorem dX12_groups_53 : decode cX12_groups 53 = .ok (.ifCond .ne 7, 3) := by decide +kernel
theorem dX12_groups_56 : decode cX12_groups 56 = .ok (.iconst 1, 1) := by decide +kernel
theorem dX12_groups_57 : decode cX12_groups 57 = .ok (.goto 4, 3) := by decide +kernel
theorem dX12_groups_60 : decode cX12_groups 60 = .ok (.iconst 0, 1) := by decide +kernel
theorem dX12_groups_61 : decode cX12_groups 61 = .ok (.iadd, 1) := by decide +kernel
theorem dX12_groups_62 : decode cX12_groups 62 = .ok (.istore_n 1, 1) := by decide +kernel
theorem dX12_groups_63 : decode cX12_groups 63 = .ok (.iinc 2 1, 3) := by decide +kernel
theorem dX12_groups_66 : decode cX12_groups 66 = .ok (.goto (-57), 3) := by decide +kernel
theorem dX12_groups_69 : decode cX12_groups 69 = .ok (.iload_n 1, 1) := by decide +kernel
theorem dX12_groups_70 : decode cX12_groups 70 = .ok (.ireturn, 1) := by decide +kernel
theorem dX12_hungryIn_0 : decode cX12_hungryIn 0 = .ok (.iconst 0, 1) := by decide +kernel
theorem dX12_hungryIn_1 : decode cX12_hungryIn 1 = .ok (.istore_n 2, 1) := by decide +kernel
theorem dX12_hungryIn_2 : decode cX12_hungryIn 2 = .ok (.iconst 0, 1) := by decide +kernel
theorem dX12_hungryIn_3 : decode cX12_hungryIn 3 = .ok (.istore_n 3, 1) := by decide +kernel
theorem dX12_hungryIn_4 : decode cX12_hungryIn 4 = .ok (.iload_n 3, 1) := by decide +kernel
theorem dX12_hungryIn_5 : decode cX12_hungryIn 5 = .ok (.iload_n 1, 1) := by decide +kernel
theorem dX12_hungryIn_6 : decode cX12_hungryIn 6 = .ok (.if_icmp .ge 16, 3) := by decide +kernel
theorem dX12_hungryIn_9 : decode cX12_hungryIn 9 = .ok (.iload_n 2, 1) := by decide +kernel
theorem dX12_hungryIn_10 : decode cX12_hungryIn 10 = .ok (.aload_n 0, 1) := by decide +kernel
theorem dX12_hungryIn_11 : decode cX12_hungryIn 11 = .ok (.invokevirtual 99, 3) := by decide +kernel
theorem dX12_hungryIn_14 : decode cX12_hungryIn 14 = .ok (.iadd, 1) := by decide +kernel
theorem dX12_hungryIn_15 : decode cX12_hungryIn 15 = .ok (.istore_n 2, 1) := by decide +kernel
theorem dX12_hungryIn_16 : decode cX12_hungryIn 16 = .ok (.iinc 3 1, 3) := by decide +kernel
theorem dX12_hungryIn_19 : decode cX12_hungryIn 19 = .ok (.goto (-15), 3) := by decide +kernel
theorem dX12_hungryIn_22 : decode cX12_hungryIn 22 = .ok (.iload_n 2, 1) := by decide +kernel
theorem dX12_hungryIn_23 : decode cX12_hungryIn 23 = .ok (.ireturn, 1) := by decide +kernel
theorem dX12_hungry_0 : decode cX12_hungry 0 = .ok (.aload_n 0, 1) := by decide +kernel
theorem dX12_hungry_1 : decode cX12_hungry 1 = .ok (.iconst 0, 1) := by decide +kernel
theorem dX12_hungry_2 : decode cX12_hungry 2 = .ok (.putfield 65, 3) := by decide +kernel
theorem dX12_hungry_5 : decode cX12_hungry 5 = .ok (.iload_n 1, 1) := by decide +kernel
theorem dX12_hungry_6 : decode cX12_hungry 6 = .ok (.bipush 60, 2) := by decide +kernel
theorem dX12_hungry_8 : decode cX12_hungry 8 = .ok (.invokestatic 208, 3) := by decide +kernel
theorem dX12_hungry_11 : decode cX12_hungry 11 = .ok (.istore_n 2, 1) := by decide +kernel
theorem dX12_hungry_12 : decode cX12_hungry 12 = .ok (.iload_n 2, 1) := by decide +kernel
theorem dX12_hungry_13 : decode cX12_hungry 13 = .ok (.ifCond .ge 9, 3) := by decide +kernel
theorem dX12_hungry_16 : decode cX12_hungry 16 = .ok (.aload_n 0, 1) := by decide +kernel
theorem dX12_hungry_17 : decode cX12_hungry 17 = .ok (.iload_n 2, 1) := by decide +kernel
theorem dX12_hungry_18 : decode cX12_hungry 18 = .ok (.invokevirtual 134, 3) := by decide +kernel
theorem dX12_hungry_21 : decode cX12_hungry 21 = .ok (.ireturn, 1) := by decide +kernel
theorem dX12_hungry_22 : decode cX12_hungry 22 = .ok (.aload_n 0, 1) := by decide +kernel
theorem dX12_hungry_23 : decode cX12_hungry 23 = .ok (.invokevirtual 182, 3) := by decide +kernel
theorem dX12_hungry_26 : decode cX12_hungry 26 = .ok (.aload_n 0, 1) := by decide +kernel
theorem dX12_hungry_27 : decode cX12_hungry 27 = .ok (.iload_n 1, 1) := by decide +kernel
theorem dX12_hungry_28 : decode cX12_hungry 28 = .ok (.invokevirtual 221, 3) := by decide +kernel
theorem dX12_hungry_31 : decode cX12_hungry 31 = .ok (.istore_n 3, 1) := by decide +kernel
theorem dX12_hungry_32 : decode cX12_hungry 32 = .ok (.aload_n 0, 1) := by decide +kernel
theorem dX12_hungry_33 : decode cX12_hungry 33 = .ok (.invokevirtual 188, 3) := by decide +kernel
theorem dX12_hungry_36 : decode cX12_hungry 36 = .ok (.iload_n 3, 1) := by decide +kernel
theorem dX12_hungry_37 : decode cX12_hungry 37 = .ok (.ireturn, 1) := by decide +kernel
theorem dX12_lasts_0 : decode cX12_lasts 0 = .ok (.aload_n 0, 1) := by decide +kernel
theorem dX12_lasts_1 : decode cX12_lasts 1 = .ok (.iconst 0, 1) := by decide +kernel
theorem dX12_lasts_2 : decode cX12_lasts 2 = .ok (.putfield 65, 3) := by decide +kernel
theorem dX12_lasts_5 : decode cX12_lasts 5 = .ok (.aload_n 0, 1) := by decide +kernel
theorem dX12_lasts_6 : decode cX12_lasts 6 = .ok (.iload_n 1, 1) := by decide +kernel
theorem dX12_lasts_7 : decode cX12_lasts 7 = .ok (.invokevirtual 75, 3) := by decide +kernel
theorem dX12_lasts_10 : decode cX12_lasts 10 = .ok (.ifCond .ne 9, 3) := by decide +kernel
theorem dX12_lasts_13 : decode cX12_lasts 13 = .ok (.aload_n 0, 1) := by decide +kernel
theorem dX12_lasts_14 : decode cX12_lasts 14 = .ok (.iconst (-1), 1) := by decide +kernel
theorem dX12_lasts_15 : decode cX12_lasts 15 = .ok (.invokevirtual 134, 3) := by decide +kernel
theorem dX12_lasts_18 : decode cX12_lasts 18 = .ok (.ireturn, 1) := by decide +kernel
theorem dX12_lasts_19 : decode cX12_lasts 19 = .ok (.aload_n 0, 1) := by decide +kernel
theorem dX12_lasts_20 : decode cX12_lasts 20 = .ok (.getfield 29, 3) := by decide +kernel
theorem dX12_lasts_23 : decode cX12_lasts 23 = .ok (.iload_n 1, 1) := by decide +kernel
theorem dX12_lasts_24 : decode cX12_lasts 24 = .ok (.iaload, 1) := by decide +kernel
theorem dX12_lasts_25 : decode cX12_lasts 25 = .ok (.ifCond .ne 8, 3) := by decide +kernel
theorem dX12_lasts_28 : decode cX12_lasts 28 = .ok (.bipush 99, 2) := by decide +kernel
theorem dX12_lasts_30 : decode cX12_lasts 30 = .ok (.goto 16, 3) := by decide +kernel
theorem dX12_lasts_33 : decode cX12_lasts 33 = .ok (.aload_n 0, 1) := by decide +kernel
theorem dX12_lasts_34 : decode cX12_lasts 34 = .ok (.getfield 32, 3) := by decide +kernel
theorem dX12_lasts_37 : decode cX12_lasts 37 = .ok (.iload_n 1, 1) := by decide +kernel
theorem dX12_lasts_38 : decode cX12_lasts 38 = .ok (.iaload, 1) := by decide +kernel
theorem dX12_lasts_39 : decode cX12_lasts 39 = .ok (.aload_n 0, 1) := by decide +kernel
theorem dX12_lasts_40 : decode cX12_lasts 40 = .ok (.getfield 29, 3) := by decide +kernel
theorem dX12_lasts_43 : decode cX12_lasts 43 = .ok (.iload_n 1, 1) := by decide +kernel
theorem dX12_lasts_44 : decode cX12_lasts 44 = .ok (.iaload, 1) := by decide +kernel
theorem dX12_lasts_45 : decode cX12_lasts 45 = .ok (.idiv, 1) := by decide +kernel
theorem dX12_lasts_46 : decode cX12_lasts 46 = .ok (.istore_n 2, 1) := by decide +kernel
theorem dX12_lasts_47 : decode cX12_lasts 47 = .ok (.iload_n 2, 1) := by decide +kernel
theorem dX12_lasts_48 : decode cX12_lasts 48 = .ok (.bipush 99, 2) := by decide +kernel
theorem dX12_lasts_50 : decode cX12_lasts 50 = .ok (.if_icmp .le 8, 3) := by decide +kernel
theorem dX12_lasts_53 : decode cX12_lasts 53 = .ok (.bipush 99, 2) := by decide +kernel
theorem dX12_lasts_55 : decode cX12_lasts 55 = .ok (.goto 4, 3) := by decide +kernel
theorem dX12_lasts_58 : decode cX12_lasts 58 = .ok (.iload_n 2, 1) := by decide +kernel
theorem dX12_lasts_59 : decode cX12_lasts 59 = .ok (.ireturn, 1) := by decide +kernel
theorem dX12_held_0 : decode cX12_held 0 = .ok (.iload_n 0, 1) := by decide +kernel
theorem dX12_held_1 : decode cX12_held 1 = .ok (.iload_n 1, 1) := by decide +kernel
theorem dX12_held_2 : decode cX12_held 2 = .ok (.if_icmp .le 7, 3) := by decide +kernel
theorem dX12_held_5 : decode cX12_held 5 = .ok (.iload_n 1, 1) := by decide +kernel
theorem dX12_held_6 : decode cX12_held 6 = .ok (.goto 4, 3) := by decide +kernel
theorem dX12_held_9 : decode cX12_held 9 = .ok (.iload_n 0, 1) := by decide +kernel
theorem dX12_held_10 : decode cX12_held 10 = .ok (.ireturn, 1) := by decide +kernel
theorem dX12_share_0 : decode cX12_share 0 = .ok (.aload_n 0, 1) := by decide +kernel
theorem dX12_share_1 : decode cX12_share 1 = .ok (.iconst 0, 1) := by decide +kernel
theorem dX12_share_2 : decode cX12_share 2 = .ok (.putfield 65, 3) := by decide +kernel
theorem dX12_share_5 : decode cX12_share 5 = .ok (.aload_n 0, 1) := by decide +kernel
theorem dX12_share_6 : decode cX12_share 6 = .ok (.iload_n 1, 1) := by decide +kernel
theorem dX12_share_7 : decode cX12_share 7 = .ok (.iload_n 2, 1) := by decide +kernel
theorem dX12_share_8 : decode cX12_share 8 = .ok (.invokevirtual 202, 3) := by decide +kernel
theorem dX12_share_11 : decode cX12_share 11 = .ok (.ifCond .ne 9, 3) := by decide +kernel
theorem dX12_share_14 : decode cX12_share 14 = .ok (.aload_n 0, 1) := by decide +kernel
theorem dX12_share_15 : decode cX12_share 15 = .ok (.iconst (-1), 1) := by decide +kernel
theorem dX12_share_16 : decode cX12_share 16 = .ok (.invokevirtual 134, 3) := by decide +kernel
theorem dX12_share_19 : decode cX12_share 19 = .ok (.ireturn, 1) := by decide +kernel
theorem dX12_share_20 : decode cX12_share 20 = .ok (.aload_n 0, 1) := by decide +kernel
theorem dX12_share_21 : decode cX12_share 21 = .ok (.iload_n 1, 1) := by decide +kernel
theorem dX12_share_22 : decode cX12_share 22 = .ok (.iload_n 2, 1) := by decide +kernel
theorem dX12_share_23 : decode cX12_share 23 = .ok (.invokevirtual 107, 3) := by decide +kernel
theorem dX12_share_26 : decode cX12_share 26 = .ok (.iconst 1, 1) := by decide +kernel
theorem dX12_share_27 : decode cX12_share 27 = .ok (.if_icmp .le 10, 3) := by decide +kernel
theorem dX12_share_30 : decode cX12_share 30 = .ok (.aload_n 0, 1) := by decide +kernel
theorem dX12_share_31 : decode cX12_share 31 = .ok (.bipush (-3), 2) := by decide +kernel
theorem dX12_share_33 : decode cX12_share 33 = .ok (.invokevirtual 134, 3) := by decide +kernel
theorem dX12_share_36 : decode cX12_share 36 = .ok (.ireturn, 1) := by decide +kernel
theorem dX12_share_37 : decode cX12_share 37 = .ok (.aload_n 0, 1) := by decide +kernel
theorem dX12_share_38 : decode cX12_share 38 = .ok (.getfield 32, 3) := by decide +kernel
theorem dX12_share_41 : decode cX12_share 41 = .ok (.iload_n 1, 1) := by decide +kernel
theorem dX12_share_42 : decode cX12_share 42 = .ok (.iaload, 1) := by decide +kernel
theorem dX12_share_43 : decode cX12_share 43 = .ok (.aload_n 0, 1) := by decide +kernel
theorem dX12_share_44 : decode cX12_share 44 = .ok (.getfield 32, 3) := by decide +kernel
theorem dX12_share_47 : decode cX12_share 47 = .ok (.iload_n 2, 1) := by decide +kernel
theorem dX12_share_48 : decode cX12_share 48 = .ok (.iaload, 1) := by decide +kernel
theorem dX12_share_49 : decode cX12_share 49 = .ok (.iadd, 1) := by decide +kernel
theorem dX12_share_50 : decode cX12_share 50 = .ok (.istore_n 3, 1) := by decide +kernel
theorem dX12_share_51 : decode cX12_share 51 = .ok (.aload_n 0, 1) := by decide +kernel
theorem dX12_share_52 : decode cX12_share 52 = .ok (.getfield 29, 3) := by decide +kernel
theorem dX12_share_55 : decode cX12_share 55 = .ok (.iload_n 1, 1) := by decide +kernel
theorem dX12_share_56 : decode cX12_share 56 = .ok (.iaload, 1) := by decide +kernel
theorem dX12_share_57 : decode cX12_share 57 = .ok (.aload_n 0, 1) := by decide +kernel
theorem dX12_share_58 : decode cX12_share 58 = .ok (.getfield 29, 3) := by decide +kernel
theorem dX12_share_61 : decode cX12_share 61 = .ok (.iload_n 2, 1) := by decide +kernel
theorem dX12_share_62 : decode cX12_share 62 = .ok (.iaload, 1) := by decide +kernel
theorem dX12_share_63 : decode cX12_share 63 = .ok (.iadd, 1) := by decide +kernel
theorem dX12_share_64 : decode cX12_share 64 = .ok (.istore 4, 2) := by decide +kernel
theorem dX12_share_66 : decode cX12_share 66 = .ok (.iload 4, 2) := by decide +kernel
theorem dX12_share_68 : decode cX12_share 68 = .ok (.ifCond .ne 9, 3) := by decide +kernel
theorem dX12_share_71 : decode cX12_share 71 = .ok (.iload_n 3, 1) := by decide +kernel
theorem dX12_share_72 : decode cX12_share 72 = .ok (.iconst 2, 1) := by decide +kernel
theorem dX12_share_73 : decode cX12_share 73 = .ok (.idiv, 1) := by decide +kernel
theorem dX12_share_74 : decode cX12_share 74 = .ok (.goto 14, 3) := by decide +kernel
theorem dX12_share_77 : decode cX12_share 77 = .ok (.iload_n 3, 1) := by decide +kernel
theorem dX12_share_78 : decode cX12_share 78 = .ok (.aload_n 0, 1) := by decide +kernel
theorem dX12_share_79 : decode cX12_share 79 = .ok (.getfield 29, 3) := by decide +kernel
theorem dX12_share_82 : decode cX12_share 82 = .ok (.iload_n 2, 1) := by decide +kernel
theorem dX12_share_83 : decode cX12_share 83 = .ok (.iaload, 1) := by decide +kernel
theorem dX12_share_84 : decode cX12_share 84 = .ok (.imul, 1) := by decide +kernel
theorem dX12_share_85 : decode cX12_share 85 = .ok (.iload 4, 2) := by decide +kernel
theorem dX12_share_87 : decode cX12_share 87 = .ok (.idiv, 1) := by decide +kernel
theorem dX12_share_88 : decode cX12_share 88 = .ok (.istore 5, 2) := by decide +kernel
theorem dX12_share_90 : decode cX12_share 90 = .ok (.iload 4, 2) := by decide +kernel
theorem dX12_share_92 : decode cX12_share 92 = .ok (.ifCond .ne 9, 3) := by decide +kernel
theorem dX12_share_95 : decode cX12_share 95 = .ok (.iload_n 3, 1) := by decide +kernel
theorem dX12_share_96 : decode cX12_share 96 = .ok (.iconst 2, 1) := by decide +kernel
theorem dX12_share_97 : decode cX12_share 97 = .ok (.idiv, 1) := by decide +kernel
theorem dX12_share_98 : decode cX12_share 98 = .ok (.goto 14, 3) := by decide +kernel
theorem dX12_share_101 : decode cX12_share 101 = .ok (.iload_n 3, 1) := by decide +kernel
theorem dX12_share_102 : decode cX12_share 102 = .ok (.aload_n 0, 1) := by decide +kernel
theorem dX12_share_103 : decode cX12_share 103 = .ok (.getfield 29, 3) := by decide +kernel
theorem dX12_share_106 : decode cX12_share 106 = .ok (.iload_n 1, 1) := by decide +kernel
theorem dX12_share_107 : decode cX12_share 107 = .ok (.iaload, 1) := by decide +kernel
theorem dX12_share_108 : decode cX12_share 108 = .ok (.imul, 1) := by decide +kernel
theorem dX12_share_109 : decode cX12_share 109 = .ok (.iload 4, 2) := by decide +kernel
theorem dX12_share_111 : decode cX12_share 111 = .ok (.idiv, 1) := by decide +kernel
theorem dX12_share_112 : decode cX12_share 112 = .ok (.istore 6, 2) := by decide +kernel
theorem dX12_share_114 : decode cX12_share 114 = .ok (.iload_n 3, 1) := by decide +kernel
theorem dX12_share_115 : decode cX12_share 115 = .ok (.iload 6, 2) := by decide +kernel
theorem dX12_share_117 : decode cX12_share 117 = .ok (.isub, 1) := by decide +kernel
theorem dX12_share_118 : decode cX12_share 118 = .ok (.iload 5, 2) := by decide +kernel
theorem dX12_share_120 : decode cX12_share 120 = .ok (.isub, 1) := by decide +kernel
theorem dX12_share_121 : decode cX12_share 121 = .ok (.istore 7, 2) := by decide +kernel
theorem dX12_share_123 : decode cX12_share 123 = .ok (.aload_n 0, 1) := by decide +kernel
theorem dX12_share_124 : decode cX12_share 124 = .ok (.getfield 32, 3) := by decide +kernel
theorem dX12_share_127 : decode cX12_share 127 = .ok (.iload_n 1, 1) := by decide +kernel
theorem dX12_share_128 : decode cX12_share 128 = .ok (.iload 6, 2) := by decide +kernel
theorem dX12_share_130 : decode cX12_share 130 = .ok (.iload 7, 2) := by decide +kernel
theorem dX12_share_132 : decode cX12_share 132 = .ok (.iadd, 1) := by decide +kernel
theorem dX12_share_133 : decode cX12_share 133 = .ok (.sipush 999, 3) := by decide +kernel
theorem dX12_share_136 : decode cX12_share 136 = .ok (.invokestatic 224, 3) := by decide +kernel
theorem dX12_share_139 : decode cX12_share 139 = .ok (.iastore, 1) := by decide +kernel
theorem dX12_share_140 : decode cX12_share 140 = .ok (.aload_n 0, 1) := by decide +kernel
theorem dX12_share_141 : decode cX12_share 141 = .ok (.getfield 32, 3) := by decide +kernel
theorem dX12_share_144 : decode cX12_share 144 = .ok (.iload_n 2, 1) := by decide +kernel
theorem dX12_share_145 : decode cX12_share 145 = .ok (.iload 5, 2) := by decide +kernel
theorem dX12_share_147 : decode cX12_share 147 = .ok (.sipush 999, 3) := by decide +kernel
theorem dX12_share_150 : decode cX12_share 150 = .ok (.invokestatic 224, 3) := by decide +kernel
theorem dX12_share_153 : decode cX12_share 153 = .ok (.iastore, 1) := by decide +kernel
theorem dX12_share_154 : decode cX12_share 154 = .ok (.aload_n 0, 1) := by decide +kernel
theorem dX12_share_155 : decode cX12_share 155 = .ok (.getfield 32, 3) := by decide +kernel
theorem dX12_share_158 : decode cX12_share 158 = .ok (.iload_n 1, 1) := by decide +kernel
theorem dX12_share_159 : decode cX12_share 159 = .ok (.iaload, 1) := by decide +kernel
theorem dX12_share_160 : decode cX12_share 160 = .ok (.ireturn, 1) := by decide +kernel
theorem dX12_hungryWithout_0 : decode cX12_hungryWithout 0 = .ok (.aload_n 0, 1) := by decide +kernel
theorem dX12_hungryWithout_1 : decode cX12_hungryWithout 1 = .ok (.invokevirtual 182, 3) := by decide +kernel
theorem dX12_hungryWithout_4 : decode cX12_hungryWithout 4 = .ok (.iconst (-1), 1) := by decide +kernel
theorem dX12_hungryWithout_5 : decode cX12_hungryWithout 5 = .ok (.istore_n 3, 1) := by decide +kernel
theorem dX12_hungryWithout_6 : decode cX12_hungryWithout 6 = .ok (.iconst 0, 1) := by decide +kernel
theorem dX12_hungryWithout_7 : decode cX12_hungryWithout 7 = .ok (.istore 4, 2) := by decide +kernel
theorem dX12_hungryWithout_9 : decode cX12_hungryWithout 9 = .ok (.iload 4, 2) := by decide +kernel
theorem dX12_hungryWithout_11 : decode cX12_hungryWithout 11 = .ok (.aload_n 0, 1) := by decide +kernel
theorem dX12_hungryWithout_12 : decode cX12_hungryWithout 12 = .ok (.getfield 68, 3) := by decide +kernel
theorem dX12_hungryWithout_15 : decode cX12_hungryWithout 15 = .ok (.if_icmp .ge 42, 3) := by decide +kernel
theorem dX12_hungryWithout_18 : decode cX12_hungryWithout 18 = .ok (.iload 4, 2) := by decide +kernel
theorem dX12_hungryWithout_20 : decode cX12_hungryWithout 20 = .ok (.iload_n 1, 1) := by decide +kernel
theorem dX12_hungryWithout_21 : decode cX12_hungryWithout 21 = .ok (.if_icmp .eq 28, 3) := by decide +kernel
theorem dX12_hungryWithout_24 : decode cX12_hungryWithout 24 = .ok (.iload_n 3, 1) := by decide +kernel
theorem dX12_hungryWithout_25 : decode cX12_hungryWithout 25 = .ok (.ifCond .lt 19, 3) := by decide +kernel
theorem dX12_hungryWithout_28 : decode cX12_hungryWithout 28 = .ok (.aload_n 0, 1) := by decide +kernel
theorem dX12_hungryWithout_29 : decode cX12_hungryWithout 29 = .ok (.iload_n 1, 1) := by decide +kernel
theorem dX12_hungryWithout_30 : decode cX12_hungryWithout 30 = .ok (.iload 4, 2) := by decide +kernel
theorem dX12_hungryWithout_32 : decode cX12_hungryWithout 32 = .ok (.invokevirtual 107, 3) := by decide +kernel
theorem dX12_hungryWithout_35 : decode cX12_hungryWithout 35 = .ok (.aload_n 0, 1) := by decide +kernel
theorem dX12_hungryWithout_36 : decode cX12_hungryWithout 36 = .ok (.iload_n 1, 1) := by decide +kernel
theorem dX12_hungryWithout_37 : decode cX12_hungryWithout 37 = .ok (.iload_n 3, 1) := by decide +kernel
theorem dX12_hungryWithout_38 : decode cX12_hungryWithout 38 = .ok (.invokevirtual 107, 3) := by decide +kernel
theorem dX12_hungryWithout_41 : decode cX12_hungryWithout 41 = .ok (.if_icmp .ge 8, 3) := by decide +kernel
theorem dX12_hungryWithout_44 : decode cX12_hungryWithout 44 = .ok (.iload 4, 2) := by decide +kernel
theorem dX12_hungryWithout_46 : decode cX12_hungryWithout 46 = .ok (.goto 4, 3) := by decide +kernel
theorem dX12_hungryWithout_49 : decode cX12_hungryWithout 49 = .ok (.iload_n 3, 1) := by decide +kernel
theorem dX12_hungryWithout_50 : decode cX12_hungryWithout 50 = .ok (.istore_n 3, 1) := by decide +kernel
theorem dX12_hungryWithout_51 : decode cX12_hungryWithout 51 = .ok (.iinc 4 1, 3) := by decide +kernel
theorem dX12_hungryWithout_54 : decode cX12_hungryWithout 54 = .ok (.goto (-45), 3) := by decide +kernel
theorem dX12_hungryWithout_57 : decode cX12_hungryWithout 57 = .ok (.aload_n 0, 1) := by decide +kernel
theorem dX12_hungryWithout_58 : decode cX12_hungryWithout 58 = .ok (.getfield 29, 3) := by decide +kernel
theorem dX12_hungryWithout_61 : decode cX12_hungryWithout 61 = .ok (.iload_n 3, 1) := by decide +kernel
theorem dX12_hungryWithout_62 : decode cX12_hungryWithout 62 = .ok (.aload_n 0, 1) := by decide +kernel
theorem dX12_hungryWithout_63 : decode cX12_hungryWithout 63 = .ok (.getfield 29, 3) := by decide +kernel
theorem dX12_hungryWithout_66 : decode cX12_hungryWithout 66 = .ok (.iload_n 3, 1) := by decide +kernel
theorem dX12_hungryWithout_67 : decode cX12_hungryWithout 67 = .ok (.iaload, 1) := by decide +kernel
theorem dX12_hungryWithout_68 : decode cX12_hungryWithout 68 = .ok (.aload_n 0, 1) := by decide +kernel
theorem dX12_hungryWithout_69 : decode cX12_hungryWithout 69 = .ok (.getfield 29, 3) := by decide +kernel
theorem dX12_hungryWithout_72 : decode cX12_hungryWithout 72 = .ok (.iload_n 1, 1) := by decide +kernel
theorem dX12_hungryWithout_73 : decode cX12_hungryWithout 73 = .ok (.iaload, 1) := by decide +kernel
theorem dX12_hungryWithout_74 : decode cX12_hungryWithout 74 = .ok (.iadd, 1) := by decide +kernel
theorem dX12_hungryWithout_75 : decode cX12_hungryWithout 75 = .ok (.bipush 9, 2) := by decide +kernel
theorem dX12_hungryWithout_77 : decode cX12_hungryWithout 77 = .ok (.invokestatic 224, 3) := by decide +kernel
theorem dX12_hungryWithout_80 : decode cX12_hungryWithout 80 = .ok (.iastore, 1) := by decide +kernel
theorem dX12_hungryWithout_81 : decode cX12_hungryWithout 81 = .ok (.aload_n 0, 1) := by decide +kernel
theorem dX12_hungryWithout_82 : decode cX12_hungryWithout 82 = .ok (.getfield 32, 3) := by decide +kernel
theorem dX12_hungryWithout_85 : decode cX12_hungryWithout 85 = .ok (.iload_n 3, 1) := by decide +kernel
theorem dX12_hungryWithout_86 : decode cX12_hungryWithout 86 = .ok (.aload_n 0, 1) := by decide +kernel
theorem dX12_hungryWithout_87 : decode cX12_hungryWithout 87 = .ok (.getfield 32, 3) := by decide +kernel
theorem dX12_hungryWithout_90 : decode cX12_hungryWithout 90 = .ok (.iload_n 3, 1) := by decide +kernel
theorem dX12_hungryWithout_91 : decode cX12_hungryWithout 91 = .ok (.iaload, 1) := by decide +kernel
theorem dX12_hungryWithout_92 : decode cX12_hungryWithout 92 = .ok (.aload_n 0, 1) := by decide +kernel
theorem dX12_hungryWithout_93 : decode cX12_hungryWithout 93 = .ok (.getfield 32, 3) := by decide +kernel
theorem dX12_hungryWithout_96 : decode cX12_hungryWithout 96 = .ok (.iload_n 1, 1) := by decide +kernel
theorem dX12_hungryWithout_97 : decode cX12_hungryWithout 97 = .ok (.iaload, 1) := by decide +kernel
theorem dX12_hungryWithout_98 : decode cX12_hungryWithout 98 = .ok (.iadd, 1) := by decide +kernel
theorem dX12_hungryWithout_99 : decode cX12_hungryWithout 99 = .ok (.sipush 999, 3) := by decide +kernel
theorem dX12_hungryWithout_102 : decode cX12_hungryWithout 102 = .ok (.invokestatic 224, 3) := by decide +kernel
theorem dX12_hungryWithout_105 : decode cX12_hungryWithout 105 = .ok (.iastore, 1) := by decide +kernel
theorem dX12_hungryWithout_106 : decode cX12_hungryWithout 106 = .ok (.aload_n 0, 1) := by decide +kernel
theorem dX12_hungryWithout_107 : decode cX12_hungryWithout 107 = .ok (.getfield 29, 3) := by decide +kernel
theorem dX12_hungryWithout_110 : decode cX12_hungryWithout 110 = .ok (.iload_n 1, 1) := by decide +kernel
theorem dX12_hungryWithout_111 : decode cX12_hungryWithout 111 = .ok (.iconst 0, 1) := by decide +kernel
theorem dX12_hungryWithout_112 : decode cX12_hungryWithout 112 = .ok (.iastore, 1) := by decide +kernel
theorem dX12_hungryWithout_113 : decode cX12_hungryWithout 113 = .ok (.aload_n 0, 1) := by decide +kernel
theorem dX12_hungryWithout_114 : decode cX12_hungryWithout 114 = .ok (.iload_n 2, 1) := by decide +kernel
theorem dX12_hungryWithout_115 : decode cX12_hungryWithout 115 = .ok (.invokevirtual 221, 3) := by decide +kernel
theorem dX12_hungryWithout_118 : decode cX12_hungryWithout 118 = .ok (.istore 4, 2) := by decide +kernel
theorem dX12_hungryWithout_120 : decode cX12_hungryWithout 120 = .ok (.aload_n 0, 1) := by decide +kernel
theorem dX12_hungryWithout_121 : decode cX12_hungryWithout 121 = .ok (.invokevirtual 188, 3) := by decide +kernel
theorem dX12_hungryWithout_124 : decode cX12_hungryWithout 124 = .ok (.iload 4, 2) := by decide +kernel
theorem dX12_hungryWithout_126 : decode cX12_hungryWithout 126 = .ok (.ireturn, 1) := by decide +kernel
theorem dX12_givenUp_0 : decode cX12_givenUp 0 = .ok (.aload_n 0, 1) := by decide +kernel
theorem dX12_givenUp_1 : decode cX12_givenUp 1 = .ok (.iconst 0, 1) := by decide +kernel
theorem dX12_givenUp_2 : decode cX12_givenUp 2 = .ok (.putfield 65, 3) := by decide +kernel
theorem dX12_givenUp_5 : decode cX12_givenUp 5 = .ok (.iload_n 1, 1) := by decide +kernel
theorem dX12_givenUp_6 : decode cX12_givenUp 6 = .ok (.bipush 60, 2) := by decide +kernel
theorem dX12_givenUp_8 : decode cX12_givenUp 8 = .ok (.invokestatic 208, 3) := by decide +kernel
theorem dX12_givenUp_11 : decode cX12_givenUp 11 = .ok (.istore_n 3, 1) := by decide +kernel
theorem dX12_givenUp_12 : decode cX12_givenUp 12 = .ok (.iload_n 3, 1) := by decide +kernel
theorem dX12_givenUp_13 : decode cX12_givenUp 13 = .ok (.ifCond .ne 18, 3) := by decide +kernel
theorem dX12_givenUp_16 : decode cX12_givenUp 16 = .ok (.iload_n 2, 1) := by decide +kernel
theorem dX12_givenUp_17 : decode cX12_givenUp 17 = .ok (.i2l, 1) := by decide +kernel
theorem dX12_givenUp_18 : decode cX12_givenUp 18 = .ok (.lconst 0, 1) := by decide +kernel
theorem dX12_givenUp_19 : decode cX12_givenUp 19 = .ok (.lconst 1, 1) := by decide +kernel
theorem dX12_givenUp_20 : decode cX12_givenUp 20 = .ok (.invokestatic 71, 3) := by decide +kernel
theorem dX12_givenUp_23 : decode cX12_givenUp 23 = .ok (.ifCond .ne 8, 3) := by decide +kernel
theorem dX12_givenUp_26 : decode cX12_givenUp 26 = .ok (.bipush (-2), 2) := by decide +kernel
theorem dX12_givenUp_28 : decode cX12_givenUp 28 = .ok (.goto 4, 3) := by decide +kernel
theorem dX12_givenUp_31 : decode cX12_givenUp 31 = .ok (.iload_n 3, 1) := by decide +kernel
theorem dX12_givenUp_32 : decode cX12_givenUp 32 = .ok (.istore_n 3, 1) := by decide +kernel
theorem dX12_givenUp_33 : decode cX12_givenUp 33 = .ok (.iload_n 3, 1) := by decide +kernel
theorem dX12_givenUp_34 : decode cX12_givenUp 34 = .ok (.ifCond .ge 9, 3) := by decide +kernel
theorem dX12_givenUp_37 : decode cX12_givenUp 37 = .ok (.aload_n 0, 1) := by decide +kernel
theorem dX12_givenUp_38 : decode cX12_givenUp 38 = .ok (.iload_n 3, 1) := by decide +kernel
theorem dX12_givenUp_39 : decode cX12_givenUp 39 = .ok (.invokevirtual 134, 3) := by decide +kernel
theorem dX12_givenUp_42 : decode cX12_givenUp 42 = .ok (.ireturn, 1) := by decide +kernel
theorem dX12_givenUp_43 : decode cX12_givenUp 43 = .ok (.aload_n 0, 1) := by decide +kernel
theorem dX12_givenUp_44 : decode cX12_givenUp 44 = .ok (.getfield 68, 3) := by decide +kernel
theorem dX12_givenUp_47 : decode cX12_givenUp 47 = .ok (.iconst 2, 1) := by decide +kernel
theorem dX12_givenUp_48 : decode cX12_givenUp 48 = .ok (.if_icmp .ge 6, 3) := by decide +kernel
theorem dX12_givenUp_51 : decode cX12_givenUp 51 = .ok (.bipush (-9), 2) := by decide +kernel
theorem dX12_givenUp_53 : decode cX12_givenUp 53 = .ok (.ireturn, 1) := by decide +kernel
theorem dX12_givenUp_54 : decode cX12_givenUp 54 = .ok (.iconst 0, 1) := by decide +kernel
theorem dX12_givenUp_55 : decode cX12_givenUp 55 = .ok (.istore 4, 2) := by decide +kernel
theorem dX12_givenUp_57 : decode cX12_givenUp 57 = .ok (.iconst 1, 1) := by decide +kernel
theorem dX12_givenUp_58 : decode cX12_givenUp 58 = .ok (.istore 5, 2) := by decide +kernel
theorem dX12_givenUp_60 : decode cX12_givenUp 60 = .ok (.iload 5, 2) := by decide +kernel
theorem dX12_givenUp_62 : decode cX12_givenUp 62 = .ok (.aload_n 0, 1) := by decide +kernel
theorem dX12_givenUp_63 : decode cX12_givenUp 63 = .ok (.getfield 68, 3) := by decide +kernel
theorem dX12_givenUp_66 : decode cX12_givenUp 66 = .ok (.if_icmp .ge 35, 3) := by decide +kernel
theorem dX12_givenUp_69 : decode cX12_givenUp 69 = .ok (.aload_n 0, 1) := by decide +kernel
theorem dX12_givenUp_70 : decode cX12_givenUp 70 = .ok (.iload 5, 2) := by decide +kernel
theorem dX12_givenUp_72 : decode cX12_givenUp 72 = .ok (.iload_n 1, 1) := by decide +kernel
theorem dX12_givenUp_73 : decode cX12_givenUp 73 = .ok (.invokevirtual 227, 3) := by decide +kernel
theorem dX12_givenUp_76 : decode cX12_givenUp 76 = .ok (.aload_n 0, 1) := by decide +kernel
theorem dX12_givenUp_77 : decode cX12_givenUp 77 = .ok (.iload 4, 2) := by decide +kernel
theorem dX12_givenUp_79 : decode cX12_givenUp 79 = .ok (.iload_n 1, 1) := by decide +kernel
theorem dX12_givenUp_80 : decode cX12_givenUp 80 = .ok (.invokevirtual 227, 3) := by decide +kernel
theorem dX12_givenUp_83 : decode cX12_givenUp 83 = .ok (.if_icmp .ge 8, 3) := by decide +kernel
theorem dX12_givenUp_86 : decode cX12_givenUp 86 = .ok (.iload 5, 2) := by decide +kernel
theorem dX12_givenUp_88 : decode cX12_givenUp 88 = .ok (.goto 5, 3) := by decide +kernel
theorem dX12_givenUp_91 : decode cX12_givenUp 91 = .ok (.iload 4, 2) := by decide +kernel
theorem dX12_givenUp_93 : decode cX12_givenUp 93 = .ok (.istore 4, 2) := by decide +kernel
theorem dX12_givenUp_95 : decode cX12_givenUp 95 = .ok (.iinc 5 1, 3) := by decide +kernel
theorem dX12_givenUp_98 : decode cX12_givenUp 98 = .ok (.goto (-38), 3) := by decide +kernel
theorem dX12_givenUp_101 : decode cX12_givenUp 101 = .ok (.iload_n 2, 1) := by decide +kernel
theorem dX12_givenUp_102 : decode cX12_givenUp 102 = .ok (.ifCond .ne 8, 3) := by decide +kernel
theorem dX12_givenUp_105 : decode cX12_givenUp 105 = .ok (.iload 4, 2) := by decide +kernel
theorem dX12_givenUp_107 : decode cX12_givenUp 107 = .ok (.goto 10, 3) := by decide +kernel
theorem dX12_givenUp_110 : decode cX12_givenUp 110 = .ok (.aload_n 0, 1) := by decide +kernel
theorem dX12_givenUp_111 : decode cX12_givenUp 111 = .ok (.iload 4, 2) := by decide +kernel
theorem dX12_givenUp_113 : decode cX12_givenUp 113 = .ok (.iload_n 1, 1) := by decide +kernel
theorem dX12_givenUp_114 : decode cX12_givenUp 114 = .ok (.invokevirtual 227, 3) := by decide +kernel
theorem dX12_givenUp_117 : decode cX12_givenUp 117 = .ok (.ireturn, 1) := by decide +kernel
theorem dX12_home_0 : decode cX12_home 0 = .ok (.aload_n 0, 1) := by decide +kernel
theorem dX12_home_1 : decode cX12_home 1 = .ok (.iconst 0, 1) := by decide +kernel
theorem dX12_home_2 : decode cX12_home 2 = .ok (.putfield 65, 3) := by decide +kernel
theorem dX12_home_5 : decode cX12_home 5 = .ok (.iload_n 3, 1) := by decide +kernel
theorem dX12_home_6 : decode cX12_home 6 = .ok (.ifCond .lt 17, 3) := by decide +kernel
theorem dX12_home_9 : decode cX12_home 9 = .ok (.iload_n 1, 1) := by decide +kernel
theorem dX12_home_10 : decode cX12_home 10 = .ok (.sipush (-9999), 3) := by decide +kernel
theorem dX12_home_13 : decode cX12_home 13 = .ok (.if_icmp .lt 10, 3) := by decide +kernel
theorem dX12_home_16 : decode cX12_home 16 = .ok (.iload_n 2, 1) := by decide +kernel
theorem dX12_home_17 : decode cX12_home 17 = .ok (.sipush (-9999), 3) := by decide +kernel
theorem dX12_home_20 : decode cX12_home 20 = .ok (.if_icmp .ge 8, 3) := by decide +kernel
theorem dX12_home_23 : decode cX12_home 23 = .ok (.bipush (-4), 2) := by decide +kernel
theorem dX12_home_25 : decode cX12_home 25 = .ok (.goto 29, 3) := by decide +kernel
theorem dX12_home_28 : decode cX12_home 28 = .ok (.iload_n 3, 1) := by decide +kernel
theorem dX12_home_29 : decode cX12_home 29 = .ok (.bipush 60, 2) := by decide +kernel
theorem dX12_home_31 : decode cX12_home 31 = .ok (.if_icmp .gt 17, 3) := by decide +kernel
theorem dX12_home_34 : decode cX12_home 34 = .ok (.iload_n 1, 1) := by decide +kernel
theorem dX12_home_35 : decode cX12_home 35 = .ok (.sipush 9999, 3) := by decide +kernel
theorem dX12_home_38 : decode cX12_home 38 = .ok (.if_icmp .gt 10, 3) := by decide +kernel
theorem dX12_home_41 : decode cX12_home 41 = .ok (.iload_n 2, 1) := by decide +kernel
theorem dX12_home_42 : decode cX12_home 42 = .ok (.sipush 9999, 3) := by decide +kernel
theorem dX12_home_45 : decode cX12_home 45 = .ok (.if_icmp .le 8, 3) := by decide +kernel
theorem dX12_home_48 : decode cX12_home 48 = .ok (.bipush (-6), 2) := by decide +kernel
theorem dX12_home_50 : decode cX12_home 50 = .ok (.goto 4, 3) := by decide +kernel
theorem dX12_home_53 : decode cX12_home 53 = .ok (.iconst 0, 1) := by decide +kernel
theorem dX12_home_54 : decode cX12_home 54 = .ok (.istore 5, 2) := by decide +kernel
theorem dX12_home_56 : decode cX12_home 56 = .ok (.iload 5, 2) := by decide +kernel
theorem dX12_home_58 : decode cX12_home 58 = .ok (.ifCond .ne 21, 3) := by decide +kernel
theorem dX12_home_61 : decode cX12_home 61 = .ok (.iload 4, 2) := by decide +kernel
theorem dX12_home_63 : decode cX12_home 63 = .ok (.i2l, 1) := by decide +kernel
theorem dX12_home_64 : decode cX12_home 64 = .ok (.lconst 0, 1) := by decide +kernel
theorem dX12_home_65 : decode cX12_home 65 = .ok (.ldc2_w 206, 3) := by decide +kernel
theorem dX12_home_68 : decode cX12_home 68 = .ok (.invokestatic 71, 3) := by decide +kernel
theorem dX12_home_71 : decode cX12_home 71 = .ok (.ifCond .ne 8, 3) := by decide +kernel
theorem dX12_home_74 : decode cX12_home 74 = .ok (.bipush (-2), 2) := by decide +kernel
theorem dX12_home_76 : decode cX12_home 76 = .ok (.goto 5, 3) := by decide +kernel
theorem dX12_home_79 : decode cX12_home 79 = .ok (.iload 5, 2) := by decide +kernel
theorem dX12_home_81 : decode cX12_home 81 = .ok (.istore 5, 2) := by decide +kernel
theorem dX12_home_83 : decode cX12_home 83 = .ok (.iload 5, 2) := by decide +kernel
theorem dX12_home_85 : decode cX12_home 85 = .ok (.ifCond .ge 10, 3) := by decide +kernel
theorem dX12_home_88 : decode cX12_home 88 = .ok (.aload_n 0, 1) := by decide +kernel
theorem dX12_home_89 : decode cX12_home 89 = .ok (.iload 5, 2) := by decide +kernel
theorem dX12_home_91 : decode cX12_home 91 = .ok (.invokevirtual 134, 3) := by decide +kernel
theorem dX12_home_94 : decode cX12_home 94 = .ok (.ireturn, 1) := by decide +kernel
theorem dX12_home_95 : decode cX12_home 95 = .ok (.aload_n 0, 1) := by decide +kernel
theorem dX12_home_96 : decode cX12_home 96 = .ok (.getfield 68, 3) := by decide +kernel
theorem dX12_home_99 : decode cX12_home 99 = .ok (.ifCond .ne 6, 3) := by decide +kernel
theorem dX12_home_102 : decode cX12_home 102 = .ok (.bipush (-9), 2) := by decide +kernel
theorem dX12_home_104 : decode cX12_home 104 = .ok (.ireturn, 1) := by decide +kernel
theorem dX12_home_105 : decode cX12_home 105 = .ok (.aload_n 0, 1) := by decide +kernel
theorem dX12_home_106 : decode cX12_home 106 = .ok (.invokevirtual 182, 3) := by decide +kernel
theorem dX12_home_109 : decode cX12_home 109 = .ok (.iconst (-1), 1) := by decide +kernel
theorem dX12_home_110 : decode cX12_home 110 = .ok (.istore 6, 2) := by decide +kernel
theorem dX12_home_112 : decode cX12_home 112 = .ok (.iconst 0, 1) := by decide +kernel
theorem dX12_home_113 : decode cX12_home 113 = .ok (.istore 7, 2) := by decide +kernel
theorem dX12_home_115 : decode cX12_home 115 = .ok (.iconst 0, 1) := by decide +kernel
theorem dX12_home_116 : decode cX12_home 116 = .ok (.istore 8, 2) := by decide +kernel
theorem dX12_home_118 : decode cX12_home 118 = .ok (.iconst 0, 1) := by decide +kernel
theorem dX12_home_119 : decode cX12_home 119 = .ok (.istore 9, 2) := by decide +kernel
theorem dX12_home_121 : decode cX12_home 121 = .ok (.iload 9, 2) := by decide +kernel
theorem dX12_home_123 : decode cX12_home 123 = .ok (.iload_n 3, 1) := by decide +kernel
theorem dX12_home_124 : decode cX12_home 124 = .ok (.if_icmp .gt 136, 3) := by decide +kernel
theorem dX12_home_127 : decode cX12_home 127 = .ok (.iconst 0, 1) := by decide +kernel
theorem dX12_home_128 : decode cX12_home 128 = .ok (.istore 10, 2) := by decide +kernel
theorem dX12_home_130 : decode cX12_home 130 = .ok (.iload 10, 2) := by decide +kernel
theorem dX12_home_132 : decode cX12_home 132 = .ok (.aload_n 0, 1) := by decide +kernel
theorem dX12_home_133 : decode cX12_home 133 = .ok (.getfield 68, 3) := by decide +kernel
theorem dX12_home_136 : decode cX12_home 136 = .ok (.if_icmp .ge 112, 3) := by decide +kernel
theorem dX12_home_139 : decode cX12_home 139 = .ok (.aload_n 0, 1) := by decide +kernel
theorem dX12_home_140 : decode cX12_home 140 = .ok (.getfield 35, 3) := by decide +kernel
theorem dX12_home_143 : decode cX12_home 143 = .ok (.iload 10, 2) := by decide +kernel
theorem dX12_home_145 : decode cX12_home 145 = .ok (.iaload, 1) := by decide +kernel
theorem dX12_home_146 : decode cX12_home 146 = .ok (.iload_n 1, 1) := by decide +kernel
theorem dX12_home_147 : decode cX12_home 147 = .ok (.invokestatic 103, 3) := by decide +kernel
theorem dX12_home_150 : decode cX12_home 150 = .ok (.istore 11, 2) := by decide +kernel
theorem dX12_home_152 : decode cX12_home 152 = .ok (.aload_n 0, 1) := by decide +kernel
theorem dX12_home_153 : decode cX12_home 153 = .ok (.getfield 38, 3) := by decide +kernel
theorem dX12_home_156 : decode cX12_home 156 = .ok (.iload 10, 2) := by decide +kernel
theorem dX12_home_158 : decode cX12_home 158 = .ok (.iaload, 1) := by decide +kernel
theorem dX12_home_159 : decode cX12_home 159 = .ok (.iload_n 2, 1) := by decide +kernel
theorem dX12_home_160 : decode cX12_home 160 = .ok (.invokestatic 103, 3) := by decide +kernel
theorem dX12_home_163 : decode cX12_home 163 = .ok (.istore 12, 2) := by decide +kernel
theorem dX12_home_165 : decode cX12_home 165 = .ok (.iload 11, 2) := by decide +kernel
theorem dX12_home_167 : decode cX12_home 167 = .ok (.iload 12, 2) := by decide +kernel
theorem dX12_home_169 : decode cX12_home 169 = .ok (.if_icmp .le 8, 3) := by decide +kernel
theorem dX12_home_172 : decode cX12_home 172 = .ok (.iload 11, 2) := by decide +kernel
theorem dX12_home_174 : decode cX12_home 174 = .ok (.goto 5, 3) := by decide +kernel
theorem dX12_home_177 : decode cX12_home 177 = .ok (.iload 12, 2) := by decide +kernel
theorem dX12_home_179 : decode cX12_home 179 = .ok (.istore 13, 2) := by decide +kernel
theorem dX12_home_181 : decode cX12_home 181 = .ok (.iload 6, 2) := by decide +kernel
theorem dX12_home_183 : decode cX12_home 183 = .ok (.ifCond .lt 10, 3) := by decide +kernel
theorem dX12_home_186 : decode cX12_home 186 = .ok (.iload 13, 2) := by decide +kernel
theorem dX12_home_188 : decode cX12_home 188 = .ok (.iload 6, 2) := by decide +kernel
theorem dX12_home_190 : decode cX12_home 190 = .ok (.if_icmp .ge 7, 3) := by decide +kernel
theorem dX12_home_193 : decode cX12_home 193 = .ok (.iconst 1, 1) := by decide +kernel
theorem dX12_home_194 : decode cX12_home 194 = .ok (.goto 4, 3) := by decide +kernel
theorem dX12_home_197 : decode cX12_home 197 = .ok (.iconst 0, 1) := by decide +kernel
theorem dX12_home_198 : decode cX12_home 198 = .ok (.istore 14, 2) := by decide +kernel
theorem dX12_home_200 : decode cX12_home 200 = .ok (.iload 14, 2) := by decide +kernel
theorem dX12_home_202 : decode cX12_home 202 = .ok (.ifCond .eq 8, 3) := by decide +kernel
theorem dX12_home_205 : decode cX12_home 205 = .ok (.iload 10, 2) := by decide +kernel
theorem dX12_home_207 : decode cX12_home 207 = .ok (.goto 5, 3) := by decide +kernel
theorem dX12_home_210 : decode cX12_home 210 = .ok (.iload 7, 2) := by decide +kernel
theorem dX12_home_212 : decode cX12_home 212 = .ok (.istore 7, 2) := by decide +kernel
theorem dX12_home_214 : decode cX12_home 214 = .ok (.iload 14, 2) := by decide +kernel
theorem dX12_home_216 : decode cX12_home 216 = .ok (.ifCond .eq 8, 3) := by decide +kernel
theorem dX12_home_219 : decode cX12_home 219 = .ok (.iload 9, 2) := by decide +kernel
theorem dX12_home_221 : decode cX12_home 221 = .ok (.goto 5, 3) := by decide +kernel
theorem dX12_home_224 : decode cX12_home 224 = .ok (.iload 8, 2) := by decide +kernel
theorem dX12_home_226 : decode cX12_home 226 = .ok (.istore 8, 2) := by decide +kernel
theorem dX12_home_228 : decode cX12_home 228 = .ok (.iload 14, 2) := by decide +kernel
theorem dX12_home_230 : decode cX12_home 230 = .ok (.ifCond .eq 8, 3) := by decide +kernel
theorem dX12_home_233 : decode cX12_home 233 = .ok (.iload 13, 2) := by decide +kernel
theorem dX12_home_235 : decode cX12_home 235 = .ok (.goto 5, 3) := by decide +kernel
theorem dX12_home_238 : decode cX12_home 238 = .ok (.iload 6, 2) := by decide +kernel
theorem dX12_home_240 : decode cX12_home 240 = .ok (.istore 6, 2) := by decide +kernel
theorem dX12_home_242 : decode cX12_home 242 = .ok (.iinc 10 1, 3) := by decide +kernel
theorem dX12_home_245 : decode cX12_home 245 = .ok (.goto (-115), 3) := by decide +kernel
theorem dX12_home_248 : decode cX12_home 248 = .ok (.aload_n 0, 1) := by decide +kernel
theorem dX12_home_249 : decode cX12_home 249 = .ok (.iconst 1, 1) := by decide +kernel
theorem dX12_home_250 : decode cX12_home 250 = .ok (.invokevirtual 199, 3) := by decide +kernel
theorem dX12_home_253 : decode cX12_home 253 = .ok (.pop, 1) := by decide +kernel
theorem dX12_home_254 : decode cX12_home 254 = .ok (.iinc 9 1, 3) := by decide +kernel
theorem dX12_home_257 : decode cX12_home 257 = .ok (.goto (-136), 3) := by decide +kernel
theorem dX12_home_260 : decode cX12_home 260 = .ok (.aload_n 0, 1) := by decide +kernel
theorem dX12_home_261 : decode cX12_home 261 = .ok (.invokevirtual 188, 3) := by decide +kernel
theorem dX12_home_264 : decode cX12_home 264 = .ok (.iload 4, 2) := by decide +kernel
theorem dX12_home_266 : decode cX12_home 266 = .ok (.ifCond .ne 8, 3) := by decide +kernel
theorem dX12_home_269 : decode cX12_home 269 = .ok (.iload 7, 2) := by decide +kernel
theorem dX12_home_271 : decode cX12_home 271 = .ok (.goto 16, 3) := by decide +kernel
theorem dX12_home_274 : decode cX12_home 274 = .ok (.iload 4, 2) := by decide +kernel
theorem dX12_home_276 : decode cX12_home 276 = .ok (.iconst 1, 1) := by decide +kernel
theorem dX12_home_277 : decode cX12_home 277 = .ok (.if_icmp .ne 8, 3) := by decide +kernel
theorem dX12_home_280 : decode cX12_home 280 = .ok (.iload 8, 2) := by decide +kernel
theorem dX12_home_282 : decode cX12_home 282 = .ok (.goto 5, 3) := by decide +kernel
theorem dX12_home_285 : decode cX12_home 285 = .ok (.iload 6, 2) := by decide +kernel
theorem dX12_home_287 : decode cX12_home 287 = .ok (.ireturn, 1) := by decide +kernel
theorem dX12_kinds_0 : decode cX12_kinds 0 = .ok (.aload_n 0, 1) := by decide +kernel
theorem dX12_kinds_1 : decode cX12_kinds 1 = .ok (.iconst 0, 1) := by decide +kernel
theorem dX12_kinds_2 : decode cX12_kinds 2 = .ok (.putfield 65, 3) := by decide +kernel
theorem dX12_kinds_5 : decode cX12_kinds 5 = .ok (.aload_n 0, 1) := by decide +kernel
theorem dX12_kinds_6 : decode cX12_kinds 6 = .ok (.iload_n 1, 1) := by decide +kernel
theorem dX12_kinds_7 : decode cX12_kinds 7 = .ok (.invokevirtual 75, 3) := by decide +kernel
theorem dX12_kinds_10 : decode cX12_kinds 10 = .ok (.ifCond .ne 7, 3) := by decide +kernel
theorem dX12_kinds_13 : decode cX12_kinds 13 = .ok (.iconst (-1), 1) := by decide +kernel
theorem dX12_kinds_14 : decode cX12_kinds 14 = .ok (.goto 34, 3) := by decide +kernel
theorem dX12_kinds_17 : decode cX12_kinds 17 = .ok (.iload_n 3, 1) := by decide +kernel
theorem dX12_kinds_18 : decode cX12_kinds 18 = .ok (.ifCond .lt 7, 3) := by decide +kernel
theorem dX12_kinds_21 : decode cX12_kinds 21 = .ok (.iload_n 2, 1) := by decide +kernel
theorem dX12_kinds_22 : decode cX12_kinds 22 = .ok (.ifCond .ge 8, 3) := by decide +kernel
theorem dX12_kinds_25 : decode cX12_kinds 25 = .ok (.bipush (-4), 2) := by decide +kernel
theorem dX12_kinds_27 : decode cX12_kinds 27 = .ok (.goto 21, 3) := by decide +kernel
theorem dX12_kinds_30 : decode cX12_kinds 30 = .ok (.iload_n 3, 1) := by decide +kernel
theorem dX12_kinds_31 : decode cX12_kinds 31 = .ok (.bipush 30, 2) := by decide +kernel
theorem dX12_kinds_33 : decode cX12_kinds 33 = .ok (.if_icmp .gt 9, 3) := by decide +kernel
theorem dX12_kinds_36 : decode cX12_kinds 36 = .ok (.iload_n 2, 1) := by decide +kernel
theorem dX12_kinds_37 : decode cX12_kinds 37 = .ok (.bipush 9, 2) := by decide +kernel
theorem dX12_kinds_39 : decode cX12_kinds 39 = .ok (.if_icmp .le 8, 3) := by decide +kernel
theorem dX12_kinds_42 : decode cX12_kinds 42 = .ok (.bipush (-6), 2) := by decide +kernel
theorem dX12_kinds_44 : decode cX12_kinds 44 = .ok (.goto 4, 3) := by decide +kernel
theorem dX12_kinds_47 : decode cX12_kinds 47 = .ok (.iconst 0, 1) := by decide +kernel
theorem dX12_kinds_48 : decode cX12_kinds 48 = .ok (.istore 6, 2) := by decide +kernel
theorem dX12_kinds_50 : decode cX12_kinds 50 = .ok (.iload 6, 2) := by decide +kernel
theorem dX12_kinds_52 : decode cX12_kinds 52 = .ok (.ifCond .ge 10, 3) := by decide +kernel
theorem dX12_kinds_55 : decode cX12_kinds 55 = .ok (.aload_n 0, 1) := by decide +kernel
theorem dX12_kinds_56 : decode cX12_kinds 56 = .ok (.iload 6, 2) := by decide +kernel
theorem dX12_kinds_58 : decode cX12_kinds 58 = .ok (.invokevirtual 134, 3) := by decide +kernel
theorem dX12_kinds_61 : decode cX12_kinds 61 = .ok (.ireturn, 1) := by decide +kernel
theorem dX12_kinds_62 : decode cX12_kinds 62 = .ok (.iconst 0, 1) := by decide +kernel
theorem dX12_kinds_63 : decode cX12_kinds 63 = .ok (.istore 7, 2) := by decide +kernel
theorem dX12_kinds_65 : decode cX12_kinds 65 = .ok (.iconst 0, 1) := by decide +kernel
theorem dX12_kinds_66 : decode cX12_kinds 66 = .ok (.istore 8, 2) := by decide +kernel
theorem dX12_kinds_68 : decode cX12_kinds 68 = .ok (.iload 8, 2) := by decide +kernel
theorem dX12_kinds_70 : decode cX12_kinds 70 = .ok (.bipush 6, 2) := by decide +kernel
theorem dX12_kinds_72 : decode cX12_kinds 72 = .ok (.if_icmp .ge 73, 3) := by decide +kernel
theorem dX12_kinds_75 : decode cX12_kinds 75 = .ok (.aload_n 0, 1) := by decide +kernel
theorem dX12_kinds_76 : decode cX12_kinds 76 = .ok (.invokevirtual 182, 3) := by decide +kernel
theorem dX12_kinds_79 : decode cX12_kinds 79 = .ok (.aload_n 0, 1) := by decide +kernel
theorem dX12_kinds_80 : decode cX12_kinds 80 = .ok (.getfield 23, 3) := by decide +kernel
theorem dX12_kinds_83 : decode cX12_kinds 83 = .ok (.iload_n 1, 1) := by decide +kernel
theorem dX12_kinds_84 : decode cX12_kinds 84 = .ok (.iload 8, 2) := by decide +kernel
theorem dX12_kinds_86 : decode cX12_kinds 86 = .ok (.iastore, 1) := by decide +kernel
theorem dX12_kinds_87 : decode cX12_kinds 87 = .ok (.aload_n 0, 1) := by decide +kernel
theorem dX12_kinds_88 : decode cX12_kinds 88 = .ok (.getfield 26, 3) := by decide +kernel
theorem dX12_kinds_91 : decode cX12_kinds 91 = .ok (.iload_n 1, 1) := by decide +kernel
theorem dX12_kinds_92 : decode cX12_kinds 92 = .ok (.iload_n 2, 1) := by decide +kernel
theorem dX12_kinds_93 : decode cX12_kinds 93 = .ok (.iastore, 1) := by decide +kernel
theorem dX12_kinds_94 : decode cX12_kinds 94 = .ok (.aload_n 0, 1) := by decide +kernel
theorem dX12_kinds_95 : decode cX12_kinds 95 = .ok (.iload_n 3, 1) := by decide +kernel
theorem dX12_kinds_96 : decode cX12_kinds 96 = .ok (.invokevirtual 199, 3) := by decide +kernel
theorem dX12_kinds_99 : decode cX12_kinds 99 = .ok (.pop, 1) := by decide +kernel
theorem dX12_kinds_100 : decode cX12_kinds 100 = .ok (.iload 7, 2) := by decide +kernel
theorem dX12_kinds_102 : decode cX12_kinds 102 = .ok (.aload_n 0, 1) := by decide +kernel
theorem dX12_kinds_103 : decode cX12_kinds 103 = .ok (.getfield 35, 3) := by decide +kernel
theorem dX12_kinds_106 : decode cX12_kinds 106 = .ok (.iload_n 1, 1) := by decide +kernel
theorem dX12_kinds_107 : decode cX12_kinds 107 = .ok (.iaload, 1) := by decide +kernel
theorem dX12_kinds_108 : decode cX12_kinds 108 = .ok (.iload 4, 2) := by decide +kernel
theorem dX12_kinds_110 : decode cX12_kinds 110 = .ok (.if_icmp .ne 21, 3) := by decide +kernel
theorem dX12_kinds_113 : decode cX12_kinds 113 = .ok (.aload_n 0, 1) := by decide +kernel
theorem dX12_kinds_114 : decode cX12_kinds 114 = .ok (.getfield 38, 3) := by decide +kernel
theorem dX12_kinds_117 : decode cX12_kinds 117 = .ok (.iload_n 1, 1) := by decide +kernel
theorem dX12_kinds_118 : decode cX12_kinds 118 = .ok (.iaload, 1) := by decide +kernel
theorem dX12_kinds_119 : decode cX12_kinds 119 = .ok (.iload 5, 2) := by decide +kernel
theorem dX12_kinds_121 : decode cX12_kinds 121 = .ok (.if_icmp .ne 10, 3) := by decide +kernel
theorem dX12_kinds_124 : decode cX12_kinds 124 = .ok (.iconst 1, 1) := by decide +kernel
theorem dX12_kinds_125 : decode cX12_kinds 125 = .ok (.iload 8, 2) := by decide +kernel
theorem dX12_kinds_127 : decode cX12_kinds 127 = .ok (.ishl, 1) := by decide +kernel
theorem dX12_kinds_128 : decode cX12_kinds 128 = .ok (.goto 4, 3) := by decide +kernel
theorem dX12_kinds_131 : decode cX12_kinds 131 = .ok (.iconst 0, 1) := by decide +kernel
theorem dX12_kinds_132 : decode cX12_kinds 132 = .ok (.ior, 1) := by decide +kernel
theorem dX12_kinds_133 : decode cX12_kinds 133 = .ok (.istore 7, 2) := by decide +kernel
theorem dX12_kinds_135 : decode cX12_kinds 135 = .ok (.aload_n 0, 1) := by decide +kernel
theorem dX12_kinds_136 : decode cX12_kinds 136 = .ok (.invokevirtual 188, 3) := by decide +kernel
theorem dX12_kinds_139 : decode cX12_kinds 139 = .ok (.iinc 8 1, 3) := by decide +kernel
theorem dX12_kinds_142 : decode cX12_kinds 142 = .ok (.goto (-74), 3) := by decide +kernel
theorem dX12_kinds_145 : decode cX12_kinds 145 = .ok (.iload 7, 2) := by decide +kernel
theorem dX12_kinds_147 : decode cX12_kinds 147 = .ok (.ireturn, 1) := by decide +kernel
theorem dX12_row_0 : decode cX12_row 0 = .ok (.aload_n 0, 1) := by decide +kernel
theorem dX12_row_1 : decode cX12_row 1 = .ok (.iconst 0, 1) := by decide +kernel
theorem dX12_row_2 : decode cX12_row 2 = .ok (.putfield 65, 3) := by decide +kernel
theorem dX12_row_5 : decode cX12_row 5 = .ok (.iload_n 1, 1) := by decide +kernel
theorem dX12_row_6 : decode cX12_row 6 = .ok (.sipush (-999), 3) := by decide +kernel
theorem dX12_row_9 : decode cX12_row 9 = .ok (.if_icmp .ge 10, 3) := by decide +kernel
theorem dX12_row_12 : decode cX12_row 12 = .ok (.aload_n 0, 1) := by decide +kernel
theorem dX12_row_13 : decode cX12_row 13 = .ok (.bipush (-4), 2) := by decide +kernel
theorem dX12_row_15 : decode cX12_row 15 = .ok (.invokevirtual 134, 3) := by decide +kernel
theorem dX12_row_18 : decode cX12_row 18 = .ok (.ireturn, 1) := by decide +kernel
theorem dX12_row_19 : decode cX12_row 19 = .ok (.iload_n 1, 1) := by decide +kernel
theorem dX12_row_20 : decode cX12_row 20 = .ok (.sipush 999, 3) := by decide +kernel
theorem dX12_row_23 : decode cX12_row 23 = .ok (.if_icmp .gt 12, 3) := by decide +kernel
theorem dX12_row_26 : decode cX12_row 26 = .ok (.aload_n 0, 1) := by decide +kernel
theorem dX12_row_27 : decode cX12_row 27 = .ok (.getfield 230, 3) := by decide +kernel
theorem dX12_row_30 : decode cX12_row 30 = .ok (.bipush 12, 2) := by decide +kernel
theorem dX12_row_32 : decode cX12_row 32 = .ok (.if_icmp .ne 10, 3) := by decide +kernel
theorem dX12_row_35 : decode cX12_row 35 = .ok (.aload_n 0, 1) := by decide +kernel
theorem dX12_row_36 : decode cX12_row 36 = .ok (.bipush (-6), 2) := by decide +kernel
theorem dX12_row_38 : decode cX12_row 38 = .ok (.invokevirtual 134, 3) := by decide +kernel
theorem dX12_row_41 : decode cX12_row 41 = .ok (.ireturn, 1) := by decide +kernel
theorem dX12_row_42 : decode cX12_row 42 = .ok (.aload_n 0, 1) := by decide +kernel
theorem dX12_row_43 : decode cX12_row 43 = .ok (.getfield 62, 3) := by decide +kernel
theorem dX12_row_46 : decode cX12_row 46 = .ok (.aload_n 0, 1) := by decide +kernel
theorem dX12_row_47 : decode cX12_row 47 = .ok (.getfield 230, 3) := by decide +kernel
theorem dX12_row_50 : decode cX12_row 50 = .ok (.iload_n 1, 1) := by decide +kernel
theorem dX12_row_51 : decode cX12_row 51 = .ok (.iastore, 1) := by decide +kernel
theorem dX12_row_52 : decode cX12_row 52 = .ok (.aload_n 0, 1) := by decide +kernel
theorem dX12_row_53 : decode cX12_row 53 = .ok (.dup, 1) := by decide +kernel
theorem dX12_row_54 : decode cX12_row 54 = .ok (.getfield 230, 3) := by decide +kernel
theorem dX12_row_57 : decode cX12_row 57 = .ok (.iconst 1, 1) := by decide +kernel
theorem dX12_row_58 : decode cX12_row 58 = .ok (.iadd, 1) := by decide +kernel
theorem dX12_row_59 : decode cX12_row 59 = .ok (.putfield 230, 3) := by decide +kernel
theorem dX12_row_62 : decode cX12_row 62 = .ok (.aload_n 0, 1) := by decide +kernel
theorem dX12_row_63 : decode cX12_row 63 = .ok (.getfield 230, 3) := by decide +kernel
theorem dX12_row_66 : decode cX12_row 66 = .ok (.ireturn, 1) := by decide +kernel
theorem dX12_judge_0 : decode cX12_judge 0 = .ok (.aload_n 0, 1) := by decide +kernel
theorem dX12_judge_1 : decode cX12_judge 1 = .ok (.iconst 0, 1) := by decide +kernel
theorem dX12_judge_2 : decode cX12_judge 2 = .ok (.putfield 65, 3) := by decide +kernel
theorem dX12_judge_5 : decode cX12_judge 5 = .ok (.aload_n 0, 1) := by decide +kernel
theorem dX12_judge_6 : decode cX12_judge 6 = .ok (.iload_n 1, 1) := by decide +kernel
theorem dX12_judge_7 : decode cX12_judge 7 = .ok (.invokevirtual 75, 3) := by decide +kernel
theorem dX12_judge_10 : decode cX12_judge 10 = .ok (.ifCond .ne 9, 3) := by decide +kernel
theorem dX12_judge_13 : decode cX12_judge 13 = .ok (.aload_n 0, 1) := by decide +kernel
theorem dX12_judge_14 : decode cX12_judge 14 = .ok (.iconst (-1), 1) := by decide +kernel
theorem dX12_judge_15 : decode cX12_judge 15 = .ok (.invokevirtual 134, 3) := by decide +kernel
theorem dX12_judge_18 : decode cX12_judge 18 = .ok (.ireturn, 1) := by decide +kernel
theorem dX12_judge_19 : decode cX12_judge 19 = .ok (.aload_n 0, 1) := by decide +kernel
theorem dX12_judge_20 : decode cX12_judge 20 = .ok (.getfield 230, 3) := by decide +kernel
theorem dX12_judge_23 : decode cX12_judge 23 = .ok (.istore_n 2, 1) := by decide +kernel
theorem dX12_judge_24 : decode cX12_judge 24 = .ok (.aload_n 0, 1) := by decide +kernel
theorem dX12_judge_25 : decode cX12_judge 25 = .ok (.iconst 0, 1) := by decide +kernel
theorem dX12_judge_26 : decode cX12_judge 26 = .ok (.putfield 230, 3) := by decide +kernel
theorem dX12_judge_29 : decode cX12_judge 29 = .ok (.aload_n 0, 1) := by decide +kernel
theorem dX12_judge_30 : decode cX12_judge 30 = .ok (.invokevirtual 182, 3) := by decide +kernel
theorem dX12_judge_33 : decode cX12_judge 33 = .ok (.bipush (-9), 2) := by decide +kernel
theorem dX12_judge_35 : decode cX12_judge 35 = .ok (.istore_n 3, 1) := by decide +kernel
theorem dX12_judge_36 : decode cX12_judge 36 = .ok (.iconst 0, 1) := by decide +kernel
theorem dX12_judge_37 : decode cX12_judge 37 = .ok (.istore 4, 2) := by decide +kernel
theorem dX12_judge_39 : decode cX12_judge 39 = .ok (.iload 4, 2) := by decide +kernel
theorem dX12_judge_41 : decode cX12_judge 41 = .ok (.iload_n 2, 1) := by decide +kernel
theorem dX12_judge_42 : decode cX12_judge 42 = .ok (.if_icmp .ge 62, 3) := by decide +kernel
theorem dX12_judge_45 : decode cX12_judge 45 = .ok (.iload_n 3, 1) := by decide +kernel
theorem dX12_judge_46 : decode cX12_judge 46 = .ok (.ifCond .ge 58, 3) := by decide +kernel
theorem dX12_judge_49 : decode cX12_judge 49 = .ok (.aload_n 0, 1) := by decide +kernel
theorem dX12_judge_50 : decode cX12_judge 50 = .ok (.getfield 62, 3) := by decide +kernel
theorem dX12_judge_53 : decode cX12_judge 53 = .ok (.iload 4, 2) := by decide +kernel
theorem dX12_judge_55 : decode cX12_judge 55 = .ok (.iaload, 1) := by decide +kernel
theorem dX12_judge_56 : decode cX12_judge 56 = .ok (.iload 4, 2) := by decide +kernel
theorem dX12_judge_58 : decode cX12_judge 58 = .ok (.iconst 2, 1) := by decide +kernel
theorem dX12_judge_59 : decode cX12_judge 59 = .ok (.irem, 1) := by decide +kernel
theorem dX12_judge_60 : decode cX12_judge 60 = .ok (.ifCond .ne 12, 3) := by decide +kernel
theorem dX12_judge_63 : decode cX12_judge 63 = .ok (.aload_n 0, 1) := by decide +kernel
theorem dX12_judge_64 : decode cX12_judge 64 = .ok (.getfield 35, 3) := by decide +kernel
theorem dX12_judge_67 : decode cX12_judge 67 = .ok (.iload_n 1, 1) := by decide +kernel
theorem dX12_judge_68 : decode cX12_judge 68 = .ok (.iaload, 1) := by decide +kernel
theorem dX12_judge_69 : decode cX12_judge 69 = .ok (.goto 9, 3) := by decide +kernel
theorem dX12_judge_72 : decode cX12_judge 72 = .ok (.aload_n 0, 1) := by decide +kernel
theorem dX12_judge_73 : decode cX12_judge 73 = .ok (.getfield 38, 3) := by decide +kernel
theorem dX12_judge_76 : decode cX12_judge 76 = .ok (.iload_n 1, 1) := by decide +kernel
theorem dX12_judge_77 : decode cX12_judge 77 = .ok (.iaload, 1) := by decide +kernel
theorem dX12_judge_78 : decode cX12_judge 78 = .ok (.if_icmp .ne 8, 3) := by decide +kernel
theorem dX12_judge_81 : decode cX12_judge 81 = .ok (.bipush (-9), 2) := by decide +kernel
theorem dX12_judge_83 : decode cX12_judge 83 = .ok (.goto 5, 3) := by decide +kernel
theorem dX12_judge_86 : decode cX12_judge 86 = .ok (.iload 4, 2) := by decide +kernel
theorem dX12_judge_88 : decode cX12_judge 88 = .ok (.istore_n 3, 1) := by decide +kernel
theorem dX12_judge_89 : decode cX12_judge 89 = .ok (.aload_n 0, 1) := by decide +kernel
theorem dX12_judge_90 : decode cX12_judge 90 = .ok (.iload 4, 2) := by decide +kernel
theorem dX12_judge_92 : decode cX12_judge 92 = .ok (.iconst 2, 1) := by decide +kernel
theorem dX12_judge_93 : decode cX12_judge 93 = .ok (.irem, 1) := by decide +kernel
theorem dX12_judge_94 : decode cX12_judge 94 = .ok (.invokevirtual 199, 3) := by decide +kernel
theorem dX12_judge_97 : decode cX12_judge 97 = .ok (.pop, 1) := by decide +kernel
theorem dX12_judge_98 : decode cX12_judge 98 = .ok (.iinc 4 1, 3) := by decide +kernel
theorem dX12_judge_101 : decode cX12_judge 101 = .ok (.goto (-62), 3) := by decide +kernel
theorem dX12_judge_104 : decode cX12_judge 104 = .ok (.aload_n 0, 1) := by decide +kernel
theorem dX12_judge_105 : decode cX12_judge 105 = .ok (.invokevirtual 188, 3) := by decide +kernel
theorem dX12_judge_108 : decode cX12_judge 108 = .ok (.iload_n 3, 1) := by decide +kernel
theorem dX12_judge_109 : decode cX12_judge 109 = .ok (.ireturn, 1) := by decide +kernel
theorem dX12_draw_0 : decode cX12_draw 0 = .ok (.aload_n 0, 1) := by decide +kernel
theorem dX12_draw_1 : decode cX12_draw 1 = .ok (.aload_n 0, 1) := by decide +kernel
theorem dX12_draw_2 : decode cX12_draw 2 = .ok (.getfield 233, 3) := by decide +kernel
theorem dX12_draw_5 : decode cX12_draw 5 = .ok (.ldc 236, 2) := by decide +kernel
theorem dX12_draw_7 : decode cX12_draw 7 = .ok (.imul, 1) := by decide +kernel
theorem dX12_draw_8 : decode cX12_draw 8 = .ok (.sipush 12345, 3) := by decide +kernel
theorem dX12_draw_11 : decode cX12_draw 11 = .ok (.iadd, 1) := by decide +kernel
theorem dX12_draw_12 : decode cX12_draw 12 = .ok (.putfield 233, 3) := by decide +kernel
theorem dX12_draw_15 : decode cX12_draw 15 = .ok (.aload_n 0, 1) := by decide +kernel
theorem dX12_draw_16 : decode cX12_draw 16 = .ok (.getfield 233, 3) := by decide +kernel
theorem dX12_draw_19 : decode cX12_draw 19 = .ok (.ldc 237, 2) := by decide +kernel
theorem dX12_draw_21 : decode cX12_draw 21 = .ok (.iand, 1) := by decide +kernel
theorem dX12_draw_22 : decode cX12_draw 22 = .ok (.ldc 238, 2) := by decide +kernel
theorem dX12_draw_24 : decode cX12_draw 24 = .ok (.idiv, 1) := by decide +kernel
theorem dX12_draw_25 : decode cX12_draw 25 = .ok (.iload_n 1, 1) := by decide +kernel
theorem dX12_draw_26 : decode cX12_draw 26 = .ok (.irem, 1) := by decide +kernel
theorem dX12_draw_27 : decode cX12_draw 27 = .ok (.ireturn, 1) := by decide +kernel
theorem dX12_lots_0 : decode cX12_lots 0 = .ok (.aload_n 0, 1) := by decide +kernel
theorem dX12_lots_1 : decode cX12_lots 1 = .ok (.iconst 0, 1) := by decide +kernel
theorem dX12_lots_2 : decode cX12_lots 2 = .ok (.putfield 65, 3) := by decide +kernel
theorem dX12_lots_5 : decode cX12_lots 5 = .ok (.iload_n 1, 1) := by decide +kernel
theorem dX12_lots_6 : decode cX12_lots 6 = .ok (.iconst 1, 1) := by decide +kernel
theorem dX12_lots_7 : decode cX12_lots 7 = .ok (.if_icmp .ge 8, 3) := by decide +kernel
theorem dX12_lots_10 : decode cX12_lots 10 = .ok (.bipush (-4), 2) := by decide +kernel
theorem dX12_lots_12 : decode cX12_lots 12 = .ok (.goto 30, 3) := by decide +kernel
theorem dX12_lots_15 : decode cX12_lots 15 = .ok (.iload_n 1, 1) := by decide +kernel
theorem dX12_lots_16 : decode cX12_lots 16 = .ok (.bipush 40, 2) := by decide +kernel
theorem dX12_lots_18 : decode cX12_lots 18 = .ok (.if_icmp .le 8, 3) := by decide +kernel
theorem dX12_lots_21 : decode cX12_lots 21 = .ok (.bipush (-6), 2) := by decide +kernel
theorem dX12_lots_23 : decode cX12_lots 23 = .ok (.goto 19, 3) := by decide +kernel
theorem dX12_lots_26 : decode cX12_lots 26 = .ok (.iload_n 3, 1) := by decide +kernel
theorem dX12_lots_27 : decode cX12_lots 27 = .ok (.i2l, 1) := by decide +kernel
theorem dX12_lots_28 : decode cX12_lots 28 = .ok (.lconst 0, 1) := by decide +kernel
theorem dX12_lots_29 : decode cX12_lots 29 = .ok (.lconst 1, 1) := by decide +kernel
theorem dX12_lots_30 : decode cX12_lots 30 = .ok (.invokestatic 71, 3) := by decide +kernel
theorem dX12_lots_33 : decode cX12_lots 33 = .ok (.ifCond .ne 8, 3) := by decide +kernel
theorem dX12_lots_36 : decode cX12_lots 36 = .ok (.bipush (-2), 2) := by decide +kernel
theorem dX12_lots_38 : decode cX12_lots 38 = .ok (.goto 4, 3) := by decide +kernel
theorem dX12_lots_41 : decode cX12_lots 41 = .ok (.iconst 0, 1) := by decide +kernel
theorem dX12_lots_42 : decode cX12_lots 42 = .ok (.istore 4, 2) := by decide +kernel
theorem dX12_lots_44 : decode cX12_lots 44 = .ok (.iload 4, 2) := by decide +kernel
theorem dX12_lots_46 : decode cX12_lots 46 = .ok (.ifCond .ge 10, 3) := by decide +kernel
theorem dX12_lots_49 : decode cX12_lots 49 = .ok (.aload_n 0, 1) := by decide +kernel
theorem dX12_lots_50 : decode cX12_lots 50 = .ok (.iload 4, 2) := by decide +kernel
theorem dX12_lots_52 : decode cX12_lots 52 = .ok (.invokevirtual 134, 3) := by decide +kernel
theorem dX12_lots_55 : decode cX12_lots 55 = .ok (.ireturn, 1) := by decide +kernel
theorem dX12_lots_56 : decode cX12_lots 56 = .ok (.aload_n 0, 1) := by decide +kernel
theorem dX12_lots_57 : decode cX12_lots 57 = .ok (.invokevirtual 182, 3) := by decide +kernel
theorem dX12_lots_60 : decode cX12_lots 60 = .ok (.aload_n 0, 1) := by decide +kernel
theorem dX12_lots_61 : decode cX12_lots 61 = .ok (.iload_n 2, 1) := by decide +kernel
theorem dX12_lots_62 : decode cX12_lots 62 = .ok (.putfield 233, 3) := by decide +kernel
theorem dX12_lots_65 : decode cX12_lots 65 = .ok (.iconst 0, 1) := by decide +kernel
theorem dX12_lots_66 : decode cX12_lots 66 = .ok (.istore 5, 2) := by decide +kernel
theorem dX12_lots_68 : decode cX12_lots 68 = .ok (.iconst 0, 1) := by decide +kernel
theorem dX12_lots_69 : decode cX12_lots 69 = .ok (.istore 6, 2) := by decide +kernel
theorem dX12_lots_71 : decode cX12_lots 71 = .ok (.iconst 0, 1) := by decide +kernel
theorem dX12_lots_72 : decode cX12_lots 72 = .ok (.istore 7, 2) := by decide +kernel
theorem dX12_lots_74 : decode cX12_lots 74 = .ok (.iconst 0, 1) := by decide +kernel
theorem dX12_lots_75 : decode cX12_lots 75 = .ok (.istore 8, 2) := by decide +kernel
theorem dX12_lots_77 : decode cX12_lots 77 = .ok (.iload 8, 2) := by decide +kernel
theorem dX12_lots_79 : decode cX12_lots 79 = .ok (.iload_n 1, 1) := by decide +kernel
theorem dX12_lots_80 : decode cX12_lots 80 = .ok (.if_icmp .ge 128, 3) := by decide +kernel
theorem dX12_lots_83 : decode cX12_lots 83 = .ok (.aload_n 0, 1) := by decide +kernel
theorem dX12_lots_84 : decode cX12_lots 84 = .ok (.bipush 9, 2) := by decide +kernel
theorem dX12_lots_86 : decode cX12_lots 86 = .ok (.invokevirtual 239, 3) := by decide +kernel
theorem dX12_lots_89 : decode cX12_lots 89 = .ok (.iconst 4, 1) := by decide +kernel
theorem dX12_lots_90 : decode cX12_lots 90 = .ok (.isub, 1) := by decide +kernel
theorem dX12_lots_91 : decode cX12_lots 91 = .ok (.istore 9, 2) := by decide +kernel
theorem dX12_lots_93 : decode cX12_lots 93 = .ok (.aload_n 0, 1) := by decide +kernel
theorem dX12_lots_94 : decode cX12_lots 94 = .ok (.bipush 9, 2) := by decide +kernel
theorem dX12_lots_96 : decode cX12_lots 96 = .ok (.invokevirtual 239, 3) := by decide +kernel
theorem dX12_lots_99 : decode cX12_lots 99 = .ok (.iconst 4, 1) := by decide +kernel
theorem dX12_lots_100 : decode cX12_lots 100 = .ok (.isub, 1) := by decide +kernel
theorem dX12_lots_101 : decode cX12_lots 101 = .ok (.istore 10, 2) := by decide +kernel
theorem dX12_lots_103 : decode cX12_lots 103 = .ok (.iconst 0, 1) := by decide +kernel
theorem dX12_lots_104 : decode cX12_lots 104 = .ok (.istore 11, 2) := by decide +kernel
theorem dX12_lots_106 : decode cX12_lots 106 = .ok (.iload 11, 2) := by decide +kernel
theorem dX12_lots_108 : decode cX12_lots 108 = .ok (.aload_n 0, 1) := by decide +kernel
theorem dX12_lots_109 : decode cX12_lots 109 = .ok (.getfield 68, 3) := by decide +kernel
theorem dX12_lots_112 : decode cX12_lots 112 = .ok (.if_icmp .ge 63, 3) := by decide +kernel
theorem dX12_lots_115 : decode cX12_lots 115 = .ok (.aload_n 0, 1) := by decide +kernel
theorem dX12_lots_116 : decode cX12_lots 116 = .ok (.aload_n 0, 1) := by decide +kernel
theorem dX12_lots_117 : decode cX12_lots 117 = .ok (.getfield 23, 3) := by decide +kernel
theorem dX12_lots_120 : decode cX12_lots 120 = .ok (.iload 11, 2) := by decide +kernel
theorem dX12_lots_122 : decode cX12_lots 122 = .ok (.iaload, 1) := by decide +kernel
theorem dX12_lots_123 : decode cX12_lots 123 = .ok (.aload_n 0, 1) := by decide +kernel
theorem dX12_lots_124 : decode cX12_lots 124 = .ok (.getfield 26, 3) := by decide +kernel
theorem dX12_lots_127 : decode cX12_lots 127 = .ok (.iload 11, 2) := by decide +kernel
theorem dX12_lots_129 : decode cX12_lots 129 = .ok (.iaload, 1) := by decide +kernel
theorem dX12_lots_130 : decode cX12_lots 130 = .ok (.iload 9, 2) := by decide +kernel
theorem dX12_lots_132 : decode cX12_lots 132 = .ok (.iload 10, 2) := by decide +kernel
theorem dX12_lots_134 : decode cX12_lots 134 = .ok (.iload 6, 2) := by decide +kernel
theorem dX12_lots_136 : decode cX12_lots 136 = .ok (.iload 7, 2) := by decide +kernel
theorem dX12_lots_138 : decode cX12_lots 138 = .ok (.invokevirtual 88, 3) := by decide +kernel
theorem dX12_lots_141 : decode cX12_lots 141 = .ok (.aload_n 0, 1) := by decide +kernel
theorem dX12_lots_142 : decode cX12_lots 142 = .ok (.getfield 35, 3) := by decide +kernel
theorem dX12_lots_145 : decode cX12_lots 145 = .ok (.iload 11, 2) := by decide +kernel
theorem dX12_lots_147 : decode cX12_lots 147 = .ok (.dup2, 1) := by decide +kernel
theorem dX12_lots_148 : decode cX12_lots 148 = .ok (.iaload, 1) := by decide +kernel
theorem dX12_lots_149 : decode cX12_lots 149 = .ok (.aload_n 0, 1) := by decide +kernel
theorem dX12_lots_150 : decode cX12_lots 150 = .ok (.getfield 82, 3) := by decide +kernel
theorem dX12_lots_153 : decode cX12_lots 153 = .ok (.iadd, 1) := by decide +kernel
theorem dX12_lots_154 : decode cX12_lots 154 = .ok (.iastore, 1) := by decide +kernel
theorem dX12_lots_155 : decode cX12_lots 155 = .ok (.aload_n 0, 1) := by decide +kernel
theorem dX12_lots_156 : decode cX12_lots 156 = .ok (.getfield 38, 3) := by decide +kernel
theorem dX12_lots_159 : decode cX12_lots 159 = .ok (.iload 11, 2) := by decide +kernel
theorem dX12_lots_161 : decode cX12_lots 161 = .ok (.dup2, 1) := by decide +kernel
theorem dX12_lots_162 : decode cX12_lots 162 = .ok (.iaload, 1) := by decide +kernel
theorem dX12_lots_163 : decode cX12_lots 163 = .ok (.aload_n 0, 1) := by decide +kernel
theorem dX12_lots_164 : decode cX12_lots 164 = .ok (.getfield 85, 3) := by decide +kernel
theorem dX12_lots_167 : decode cX12_lots 167 = .ok (.iadd, 1) := by decide +kernel
theorem dX12_lots_168 : decode cX12_lots 168 = .ok (.iastore, 1) := by decide +kernel
theorem dX12_lots_169 : decode cX12_lots 169 = .ok (.iinc 11 1, 3) := by decide +kernel
theorem dX12_lots_172 : decode cX12_lots 172 = .ok (.goto (-66), 3) := by decide +kernel
theorem dX12_lots_175 : decode cX12_lots 175 = .ok (.iload 9, 2) := by decide +kernel
theorem dX12_lots_177 : decode cX12_lots 177 = .ok (.istore 6, 2) := by decide +kernel
theorem dX12_lots_179 : decode cX12_lots 179 = .ok (.iload 10, 2) := by decide +kernel
theorem dX12_lots_181 : decode cX12_lots 181 = .ok (.istore 7, 2) := by decide +kernel
theorem dX12_lots_183 : decode cX12_lots 183 = .ok (.iload 5, 2) := by decide +kernel
theorem dX12_lots_185 : decode cX12_lots 185 = .ok (.aload_n 0, 1) := by decide +kernel
theorem dX12_lots_186 : decode cX12_lots 186 = .ok (.invokevirtual 99, 3) := by decide +kernel
theorem dX12_lots_189 : decode cX12_lots 189 = .ok (.iadd, 1) := by decide +kernel
theorem dX12_lots_190 : decode cX12_lots 190 = .ok (.istore 5, 2) := by decide +kernel
theorem dX12_lots_192 : decode cX12_lots 192 = .ok (.aload_n 0, 1) := by decide +kernel
theorem dX12_lots_193 : decode cX12_lots 193 = .ok (.dup, 1) := by decide +kernel
theorem dX12_lots_194 : decode cX12_lots 194 = .ok (.getfield 79, 3) := by decide +kernel
theorem dX12_lots_197 : decode cX12_lots 197 = .ok (.iconst 1, 1) := by decide +kernel
theorem dX12_lots_198 : decode cX12_lots 198 = .ok (.iadd, 1) := by decide +kernel
theorem dX12_lots_199 : decode cX12_lots 199 = .ok (.putfield 79, 3) := by decide +kernel
theorem dX12_lots_202 : decode cX12_lots 202 = .ok (.iinc 8 1, 3) := by decide +kernel
theorem dX12_lots_205 : decode cX12_lots 205 = .ok (.goto (-128), 3) := by decide +kernel
theorem dX12_lots_208 : decode cX12_lots 208 = .ok (.iconst 0, 1) := by decide +kernel
theorem dX12_lots_209 : decode cX12_lots 209 = .ok (.istore 8, 2) := by decide +kernel
theorem dX12_lots_211 : decode cX12_lots 211 = .ok (.iconst 0, 1) := by decide +kernel
theorem dX12_lots_212 : decode cX12_lots 212 = .ok (.istore 9, 2) := by decide +kernel
theorem dX12_lots_214 : decode cX12_lots 214 = .ok (.iload 9, 2) := by decide +kernel
theorem dX12_lots_216 : decode cX12_lots 216 = .ok (.aload_n 0, 1) := by decide +kernel
theorem dX12_lots_217 : decode cX12_lots 217 = .ok (.getfield 68, 3) := by decide +kernel
theorem dX12_lots_220 : decode cX12_lots 220 = .ok (.if_icmp .ge 55, 3) := by decide +kernel
theorem dX12_lots_223 : decode cX12_lots 223 = .ok (.iload 9, 2) := by decide +kernel
theorem dX12_lots_225 : decode cX12_lots 225 = .ok (.iconst 1, 1) := by decide +kernel
theorem dX12_lots_226 : decode cX12_lots 226 = .ok (.iadd, 1) := by decide +kernel
theorem dX12_lots_227 : decode cX12_lots 227 = .ok (.istore 10, 2) := by decide +kernel
theorem dX12_lots_229 : decode cX12_lots 229 = .ok (.iload 10, 2) := by decide +kernel
theorem dX12_lots_231 : decode cX12_lots 231 = .ok (.aload_n 0, 1) := by decide +kernel
theorem dX12_lots_232 : decode cX12_lots 232 = .ok (.getfield 68, 3) := by decide +kernel
theorem dX12_lots_235 : decode cX12_lots 235 = .ok (.if_icmp .ge 34, 3) := by decide +kernel
theorem dX12_lots_238 : decode cX12_lots 238 = .ok (.iload 8, 2) := by decide +kernel
theorem dX12_lots_240 : decode cX12_lots 240 = .ok (.aload_n 0, 1) := by decide +kernel
theorem dX12_lots_241 : decode cX12_lots 241 = .ok (.iload 9, 2) := by decide +kernel
theorem dX12_lots_243 : decode cX12_lots 243 = .ok (.iload 10, 2) := by decide +kernel
theorem dX12_lots_245 : decode cX12_lots 245 = .ok (.invokevirtual 107, 3) := by decide +kernel
theorem dX12_lots_248 : decode cX12_lots 248 = .ok (.aload_n 0, 1) := by decide +kernel
theorem dX12_lots_249 : decode cX12_lots 249 = .ok (.getfield 13, 3) := by decide +kernel
theorem dX12_lots_252 : decode cX12_lots 252 = .ok (.if_icmp .gt 7, 3) := by decide +kernel
theorem dX12_lots_255 : decode cX12_lots 255 = .ok (.iconst 1, 1) := by decide +kernel
theorem dX12_lots_256 : decode cX12_lots 256 = .ok (.goto 4, 3) := by decide +kernel
theorem dX12_lots_259 : decode cX12_lots 259 = .ok (.iconst 0, 1) := by decide +kernel
theorem dX12_lots_260 : decode cX12_lots 260 = .ok (.iadd, 1) := by decide +kernel
theorem dX12_lots_261 : decode cX12_lots 261 = .ok (.istore 8, 2) := by decide +kernel
theorem dX12_lots_263 : decode cX12_lots 263 = .ok (.iinc 10 1, 3) := by decide +kernel
theorem dX12_lots_266 : decode cX12_lots 266 = .ok (.goto (-37), 3) := by decide +kernel
theorem dX12_lots_269 : decode cX12_lots 269 = .ok (.iinc 9 1, 3) := by decide +kernel
theorem dX12_lots_272 : decode cX12_lots 272 = .ok (.goto (-58), 3) := by decide +kernel
theorem dX12_lots_275 : decode cX12_lots 275 = .ok (.aload_n 0, 1) := by decide +kernel
theorem dX12_lots_276 : decode cX12_lots 276 = .ok (.invokevirtual 188, 3) := by decide +kernel
theorem dX12_lots_279 : decode cX12_lots 279 = .ok (.iload_n 3, 1) := by decide +kernel
theorem dX12_lots_280 : decode cX12_lots 280 = .ok (.ifCond .ne 8, 3) := by decide +kernel
theorem dX12_lots_283 : decode cX12_lots 283 = .ok (.iload 5, 2) := by decide +kernel
theorem dX12_lots_285 : decode cX12_lots 285 = .ok (.goto 5, 3) := by decide +kernel
theorem dX12_lots_288 : decode cX12_lots 288 = .ok (.iload 8, 2) := by decide +kernel
theorem dX12_lots_290 : decode cX12_lots 290 = .ok (.ireturn, 1) := by decide +kernel
theorem dX12_sumOf_0 : decode cX12_sumOf 0 = .ok (.iconst 0, 1) := by decide +kernel
theorem dX12_sumOf_1 : decode cX12_sumOf 1 = .ok (.istore_n 2, 1) := by decide +kernel
theorem dX12_sumOf_2 : decode cX12_sumOf 2 = .ok (.iconst 0, 1) := by decide +kernel
theorem dX12_sumOf_3 : decode cX12_sumOf 3 = .ok (.istore_n 3, 1) := by decide +kernel
theorem dX12_sumOf_4 : decode cX12_sumOf 4 = .ok (.iload_n 3, 1) := by decide +kernel
theorem dX12_sumOf_5 : decode cX12_sumOf 5 = .ok (.aload_n 0, 1) := by decide +kernel
theorem dX12_sumOf_6 : decode cX12_sumOf 6 = .ok (.getfield 68, 3) := by decide +kernel
theorem dX12_sumOf_9 : decode cX12_sumOf 9 = .ok (.if_icmp .ge 15, 3) := by decide +kernel
theorem dX12_sumOf_12 : decode cX12_sumOf 12 = .ok (.iload_n 2, 1) := by decide +kernel
theorem dX12_sumOf_13 : decode cX12_sumOf 13 = .ok (.aload_n 1, 1) := by decide +kernel
theorem dX12_sumOf_14 : decode cX12_sumOf 14 = .ok (.iload_n 3, 1) := by decide +kernel
theorem dX12_sumOf_15 : decode cX12_sumOf 15 = .ok (.iaload, 1) := by decide +kernel
theorem dX12_sumOf_16 : decode cX12_sumOf 16 = .ok (.iadd, 1) := by decide +kernel
theorem dX12_sumOf_17 : decode cX12_sumOf 17 = .ok (.istore_n 2, 1) := by decide +kernel
theorem dX12_sumOf_18 : decode cX12_sumOf 18 = .ok (.iinc 3 1, 3) := by decide +kernel
theorem dX12_sumOf_21 : decode cX12_sumOf 21 = .ok (.goto (-17), 3) := by decide +kernel
theorem dX12_sumOf_24 : decode cX12_sumOf 24 = .ok (.iload_n 2, 1) := by decide +kernel
theorem dX12_sumOf_25 : decode cX12_sumOf 25 = .ok (.ireturn, 1) := by decide +kernel
theorem dX12_openLeads_0 : decode cX12_openLeads 0 = .ok (.iconst 0, 1) := by decide +kernel
theorem dX12_openLeads_1 : decode cX12_openLeads 1 = .ok (.istore_n 1, 1) := by decide +kernel
theorem dX12_openLeads_2 : decode cX12_openLeads 2 = .ok (.iconst 0, 1) := by decide +kernel
theorem dX12_openLeads_3 : decode cX12_openLeads 3 = .ok (.istore_n 2, 1) := by decide +kernel
theorem dX12_openLeads_4 : decode cX12_openLeads 4 = .ok (.iload_n 2, 1) := by decide +kernel
theorem dX12_openLeads_5 : decode cX12_openLeads 5 = .ok (.aload_n 0, 1) := by decide +kernel
theorem dX12_openLeads_6 : decode cX12_openLeads 6 = .ok (.getfield 68, 3) := by decide +kernel
theorem dX12_openLeads_9 : decode cX12_openLeads 9 = .ok (.if_icmp .ge 44, 3) := by decide +kernel
theorem dX12_openLeads_12 : decode cX12_openLeads 12 = .ok (.iload_n 2, 1) := by decide +kernel
theorem dX12_openLeads_13 : decode cX12_openLeads 13 = .ok (.iconst 1, 1) := by decide +kernel
theorem dX12_openLeads_14 : decode cX12_openLeads 14 = .ok (.iadd, 1) := by decide +kernel
theorem dX12_openLeads_15 : decode cX12_openLeads 15 = .ok (.istore_n 3, 1) := by decide +kernel
theorem dX12_openLeads_16 : decode cX12_openLeads 16 = .ok (.iload_n 3, 1) := by decide +kernel
theorem dX12_openLeads_17 : decode cX12_openLeads 17 = .ok (.aload_n 0, 1) := by decide +kernel
theorem dX12_openLeads_18 : decode cX12_openLeads 18 = .ok (.getfield 68, 3) := by decide +kernel
theorem dX12_openLeads_21 : decode cX12_openLeads 21 = .ok (.if_icmp .ge 26, 3) := by decide +kernel
theorem dX12_openLeads_24 : decode cX12_openLeads 24 = .ok (.iload_n 1, 1) := by decide +kernel
theorem dX12_openLeads_25 : decode cX12_openLeads 25 = .ok (.aload_n 0, 1) := by decide +kernel
theorem dX12_openLeads_26 : decode cX12_openLeads 26 = .ok (.iload_n 2, 1) := by decide +kernel
theorem dX12_openLeads_27 : decode cX12_openLeads 27 = .ok (.iload_n 3, 1) := by decide +kernel
theorem dX12_openLeads_28 : decode cX12_openLeads 28 = .ok (.invokevirtual 215, 3) := by decide +kernel
theorem dX12_openLeads_31 : decode cX12_openLeads 31 = .ok (.ifCond .eq 7, 3) := by decide +kernel
theorem dX12_openLeads_34 : decode cX12_openLeads 34 = .ok (.iconst 1, 1) := by decide +kernel
theorem dX12_openLeads_35 : decode cX12_openLeads 35 = .ok (.goto 4, 3) := by decide +kernel
theorem dX12_openLeads_38 : decode cX12_openLeads 38 = .ok (.iconst 0, 1) := by decide +kernel
theorem dX12_openLeads_39 : decode cX12_openLeads 39 = .ok (.iadd, 1) := by decide +kernel
theorem dX12_openLeads_40 : decode cX12_openLeads 40 = .ok (.istore_n 1, 1) := by decide +kernel
theorem dX12_openLeads_41 : decode cX12_openLeads 41 = .ok (.iinc 3 1, 3) := by decide +kernel
theorem dX12_openLeads_44 : decode cX12_openLeads 44 = .ok (.goto (-28), 3) := by decide +kernel
theorem dX12_openLeads_47 : decode cX12_openLeads 47 = .ok (.iinc 2 1, 3) := by decide +kernel
theorem dX12_openLeads_50 : decode cX12_openLeads 50 = .ok (.goto (-46), 3) := by decide +kernel
theorem dX12_openLeads_53 : decode cX12_openLeads 53 = .ok (.iload_n 1, 1) := by decide +kernel
theorem dX12_openLeads_54 : decode cX12_openLeads 54 = .ok (.ireturn, 1) := by decide +kernel
theorem dX12_count_0 : decode cX12_count 0 = .ok (.aload_n 0, 1) := by decide +kernel
theorem dX12_count_1 : decode cX12_count 1 = .ok (.iconst 0, 1) := by decide +kernel
theorem dX12_count_2 : decode cX12_count 2 = .ok (.putfield 65, 3) := by decide +kernel
theorem dX12_count_5 : decode cX12_count 5 = .ok (.iload_n 1, 1) := by decide +kernel
theorem dX12_count_6 : decode cX12_count 6 = .ok (.tableswitch 112 0 9 #[54, 59, 64, 69, 74, 83, 92, 97, 102, 107], 54) := by decide +kernel
theorem dX12_count_60 : decode cX12_count 60 = .ok (.aload_n 0, 1) := by decide +kernel
theorem dX12_count_61 : decode cX12_count 61 = .ok (.getfield 68, 3) := by decide +kernel
theorem dX12_count_64 : decode cX12_count 64 = .ok (.ireturn, 1) := by decide +kernel
theorem dX12_count_65 : decode cX12_count 65 = .ok (.aload_n 0, 1) := by decide +kernel
theorem dX12_count_66 : decode cX12_count 66 = .ok (.getfield 79, 3) := by decide +kernel
theorem dX12_count_69 : decode cX12_count 69 = .ok (.ireturn, 1) := by decide +kernel
theorem dX12_count_70 : decode cX12_count 70 = .ok (.aload_n 0, 1) := by decide +kernel
theorem dX12_count_71 : decode cX12_count 71 = .ok (.getfield 7, 3) := by decide +kernel
theorem dX12_count_74 : decode cX12_count 74 = .ok (.ireturn, 1) := by decide +kernel
theorem dX12_count_75 : decode cX12_count 75 = .ok (.aload_n 0, 1) := by decide +kernel
theorem dX12_count_76 : decode cX12_count 76 = .ok (.getfield 13, 3) := by decide +kernel
theorem dX12_count_79 : decode cX12_count 79 = .ok (.ireturn, 1) := by decide +kernel
theorem dX12_count_80 : decode cX12_count 80 = .ok (.aload_n 0, 1) := by decide +kernel
theorem dX12_count_81 : decode cX12_count 81 = .ok (.aload_n 0, 1) := by decide +kernel
theorem dX12_count_82 : decode cX12_count 82 = .ok (.getfield 32, 3) := by decide +kernel
theorem dX12_count_85 : decode cX12_count 85 = .ok (.invokevirtual 242, 3) := by decide +kernel
theorem dX12_count_88 : decode cX12_count 88 = .ok (.ireturn, 1) := by decide +kernel
theorem dX12_count_89 : decode cX12_count 89 = .ok (.aload_n 0, 1) := by decide +kernel
theorem dX12_count_90 : decode cX12_count 90 = .ok (.aload_n 0, 1) := by decide +kernel
theorem dX12_count_91 : decode cX12_count 91 = .ok (.getfield 29, 3) := by decide +kernel
theorem dX12_count_94 : decode cX12_count 94 = .ok (.invokevirtual 242, 3) := by decide +kernel
theorem dX12_count_97 : decode cX12_count 97 = .ok (.ireturn, 1) := by decide +kernel
theorem dX12_count_98 : decode cX12_count 98 = .ok (.aload_n 0, 1) := by decide +kernel
theorem dX12_count_99 : decode cX12_count 99 = .ok (.getfield 124, 3) := by decide +kernel
theorem dX12_count_102 : decode cX12_count 102 = .ok (.ireturn, 1) := by decide +kernel
theorem dX12_count_103 : decode cX12_count 103 = .ok (.aload_n 0, 1) := by decide +kernel
theorem dX12_count_104 : decode cX12_count 104 = .ok (.invokevirtual 246, 3) := by decide +kernel
theorem dX12_count_107 : decode cX12_count 107 = .ok (.ireturn, 1) := by decide +kernel
theorem dX12_count_108 : decode cX12_count 108 = .ok (.aload_n 0, 1) := by decide +kernel
theorem dX12_count_109 : decode cX12_count 109 = .ok (.getfield 137, 3) := by decide +kernel
theorem dX12_count_112 : decode cX12_count 112 = .ok (.ireturn, 1) := by decide +kernel
theorem dX12_count_113 : decode cX12_count 113 = .ok (.aload_n 0, 1) := by decide +kernel
theorem dX12_count_114 : decode cX12_count 114 = .ok (.getfield 230, 3) := by decide +kernel
theorem dX12_count_117 : decode cX12_count 117 = .ok (.ireturn, 1) := by decide +kernel
theorem dX12_count_118 : decode cX12_count 118 = .ok (.iload_n 1, 1) := by decide +kernel
theorem dX12_count_119 : decode cX12_count 119 = .ok (.i2l, 1) := by decide +kernel
theorem dX12_count_120 : decode cX12_count 120 = .ok (.ldc2_w 249, 3) := by decide +kernel
theorem dX12_count_123 : decode cX12_count 123 = .ok (.ldc2_w 251, 3) := by decide +kernel
theorem dX12_count_126 : decode cX12_count 126 = .ok (.invokestatic 71, 3) := by decide +kernel
theorem dX12_count_129 : decode cX12_count 129 = .ok (.ifCond .eq 15, 3) := by decide +kernel
theorem dX12_count_132 : decode cX12_count 132 = .ok (.aload_n 0, 1) := by decide +kernel
theorem dX12_count_133 : decode cX12_count 133 = .ok (.getfield 41, 3) := by decide +kernel
theorem dX12_count_136 : decode cX12_count 136 = .ok (.iload_n 1, 1) := by decide +kernel
theorem dX12_count_137 : decode cX12_count 137 = .ok (.bipush 10, 2) := by decide +kernel
theorem dX12_count_139 : decode cX12_count 139 = .ok (.isub, 1) := by decide +kernel
theorem dX12_count_140 : decode cX12_count 140 = .ok (.iaload, 1) := by decide +kernel
theorem dX12_count_141 : decode cX12_count 141 = .ok (.goto 5, 3) := by decide +kernel
theorem dX12_count_144 : decode cX12_count 144 = .ok (.bipush (-9), 2) := by decide +kernel
theorem dX12_count_146 : decode cX12_count 146 = .ok (.ireturn, 1) := by decide +kernel
